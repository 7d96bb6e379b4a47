section
-- ===== PART A: goes FIRST, ahead of the names: the tables' words, and 'selects' of the private methods out of them =====
/-- a private method of a class that the tables say can be made, by its rows of tables_1 -/
def lw_okq (q : MethodName × Nat) : Prop := (q.1.cls ≠ "java/lang/invoke/MethodHandle" ∧ q.1.cls ≠ "java/lang/invoke/VarHandle") ∧ Cond.instantiable q.1.cls q.2 ∈ tables_1 ∧ Cond.privateMethod q.1 ∈ tables_1 ∧ Cond.instanceMethod q.1 ∈ tables_1
theorem lw_p0 : lw_okq (⟨"TwinThreads$Path", "stepOver", "(LTwinThreads$Program;I)I"⟩, 4) := ⟨⟨by decide +kernel, by decide +kernel⟩, List.mem_of_getElem? (i := 70) (by decide +kernel), List.mem_of_getElem? (i := 263) (by decide +kernel), List.mem_of_getElem? (i := 264) (by decide +kernel)⟩
theorem lw_p1 : lw_okq (⟨"TwinThreads$Path", "valueOf", "(I)I"⟩, 4) := ⟨⟨by decide +kernel, by decide +kernel⟩, List.mem_of_getElem? (i := 70) (by decide +kernel), List.mem_of_getElem? (i := 271) (by decide +kernel), List.mem_of_getElem? (i := 272) (by decide +kernel)⟩
theorem lw_p2 : lw_okq (⟨"TwinThreads$Path", "give", "(II)V"⟩, 4) := ⟨⟨by decide +kernel, by decide +kernel⟩, List.mem_of_getElem? (i := 70) (by decide +kernel), List.mem_of_getElem? (i := 275) (by decide +kernel), List.mem_of_getElem? (i := 276) (by decide +kernel)⟩
theorem lw_p3 : lw_okq (⟨"TwinThreads$Run", "clear", "()V"⟩, 12) := ⟨⟨by decide +kernel, by decide +kernel⟩, List.mem_of_getElem? (i := 63) (by decide +kernel), List.mem_of_getElem? (i := 289) (by decide +kernel), List.mem_of_getElem? (i := 290) (by decide +kernel)⟩
theorem lw_p4 : lw_okq (⟨"TwinThreads$Run", "hasStep", "(I)Z"⟩, 12) := ⟨⟨by decide +kernel, by decide +kernel⟩, List.mem_of_getElem? (i := 63) (by decide +kernel), List.mem_of_getElem? (i := 293) (by decide +kernel), List.mem_of_getElem? (i := 294) (by decide +kernel)⟩
theorem lw_p5 : lw_okq (⟨"TwinThreads$Run", "playTick", "(I)V"⟩, 12) := ⟨⟨by decide +kernel, by decide +kernel⟩, List.mem_of_getElem? (i := 63) (by decide +kernel), List.mem_of_getElem? (i := 297) (by decide +kernel), List.mem_of_getElem? (i := 298) (by decide +kernel)⟩
theorem lw_p6 : lw_okq (⟨"TwinThreads$Run", "hindranceOf", "(II)I"⟩, 12) := ⟨⟨by decide +kernel, by decide +kernel⟩, List.mem_of_getElem? (i := 63) (by decide +kernel), List.mem_of_getElem? (i := 301) (by decide +kernel), List.mem_of_getElem? (i := 302) (by decide +kernel)⟩
theorem lw_p7 : lw_okq (⟨"TwinThreads$Run", "isReady", "(III)Z"⟩, 12) := ⟨⟨by decide +kernel, by decide +kernel⟩, List.mem_of_getElem? (i := 63) (by decide +kernel), List.mem_of_getElem? (i := 306) (by decide +kernel), List.mem_of_getElem? (i := 307) (by decide +kernel)⟩
theorem lw_p8 : lw_okq (⟨"TwinThreads$Run", "starterNow", "(I)I"⟩, 12) := ⟨⟨by decide +kernel, by decide +kernel⟩, List.mem_of_getElem? (i := 63) (by decide +kernel), List.mem_of_getElem? (i := 315) (by decide +kernel), List.mem_of_getElem? (i := 316) (by decide +kernel)⟩
theorem lw_p9 : lw_okq (⟨"TwinThreads$Run", "start", "(II)V"⟩, 12) := ⟨⟨by decide +kernel, by decide +kernel⟩, List.mem_of_getElem? (i := 63) (by decide +kernel), List.mem_of_getElem? (i := 324) (by decide +kernel), List.mem_of_getElem? (i := 325) (by decide +kernel)⟩
theorem lw_p10 : lw_okq (⟨"TwinThreads$Reader", "readOrder", "()Z"⟩, 4) := ⟨⟨by decide +kernel, by decide +kernel⟩, List.mem_of_getElem? (i := 154) (by decide +kernel), List.mem_of_getElem? (i := 365) (by decide +kernel), List.mem_of_getElem? (i := 366) (by decide +kernel)⟩
theorem lw_p11 : lw_okq (⟨"TwinThreads$Reader", "take", "(C)Z"⟩, 4) := ⟨⟨by decide +kernel, by decide +kernel⟩, List.mem_of_getElem? (i := 154) (by decide +kernel), List.mem_of_getElem? (i := 369) (by decide +kernel), List.mem_of_getElem? (i := 370) (by decide +kernel)⟩
theorem lw_p12 : lw_okq (⟨"TwinThreads$Reader", "readStore", "()Z"⟩, 4) := ⟨⟨by decide +kernel, by decide +kernel⟩, List.mem_of_getElem? (i := 154) (by decide +kernel), List.mem_of_getElem? (i := 377) (by decide +kernel), List.mem_of_getElem? (i := 378) (by decide +kernel)⟩
theorem lw_p13 : lw_okq (⟨"TwinThreads$Reader", "takeRegister", "()I"⟩, 4) := ⟨⟨by decide +kernel, by decide +kernel⟩, List.mem_of_getElem? (i := 154) (by decide +kernel), List.mem_of_getElem? (i := 381) (by decide +kernel), List.mem_of_getElem? (i := 382) (by decide +kernel)⟩
theorem lw_p14 : lw_okq (⟨"TwinThreads$Reader", "takeFrom", "(CI)I"⟩, 4) := ⟨⟨by decide +kernel, by decide +kernel⟩, List.mem_of_getElem? (i := 154) (by decide +kernel), List.mem_of_getElem? (i := 385) (by decide +kernel), List.mem_of_getElem? (i := 386) (by decide +kernel)⟩
theorem lw_p15 : lw_okq (⟨"TwinThreads$Reader", "readNumber", "(II)Z"⟩, 4) := ⟨⟨by decide +kernel, by decide +kernel⟩, List.mem_of_getElem? (i := 154) (by decide +kernel), List.mem_of_getElem? (i := 393) (by decide +kernel), List.mem_of_getElem? (i := 394) (by decide +kernel)⟩
def lw_privs_1 : List (MethodName × Nat) := [(⟨"TwinThreads$Path", "stepOver", "(LTwinThreads$Program;I)I"⟩, 4), (⟨"TwinThreads$Path", "valueOf", "(I)I"⟩, 4), (⟨"TwinThreads$Path", "give", "(II)V"⟩, 4), (⟨"TwinThreads$Run", "clear", "()V"⟩, 12), (⟨"TwinThreads$Run", "hasStep", "(I)Z"⟩, 12), (⟨"TwinThreads$Run", "playTick", "(I)V"⟩, 12), (⟨"TwinThreads$Run", "hindranceOf", "(II)I"⟩, 12), (⟨"TwinThreads$Run", "isReady", "(III)Z"⟩, 12), (⟨"TwinThreads$Run", "starterNow", "(I)I"⟩, 12), (⟨"TwinThreads$Run", "start", "(II)V"⟩, 12), (⟨"TwinThreads$Reader", "readOrder", "()Z"⟩, 4), (⟨"TwinThreads$Reader", "take", "(C)Z"⟩, 4), (⟨"TwinThreads$Reader", "readStore", "()Z"⟩, 4), (⟨"TwinThreads$Reader", "takeRegister", "()I"⟩, 4), (⟨"TwinThreads$Reader", "takeFrom", "(CI)I"⟩, 4), (⟨"TwinThreads$Reader", "readNumber", "(II)Z"⟩, 4)]
theorem lw_r1 : ∀ q ∈ lw_privs_1, lw_okq q := List.forall_mem_cons.mpr ⟨lw_p0, List.forall_mem_cons.mpr ⟨lw_p1, List.forall_mem_cons.mpr ⟨lw_p2, List.forall_mem_cons.mpr ⟨lw_p3, List.forall_mem_cons.mpr ⟨lw_p4, List.forall_mem_cons.mpr ⟨lw_p5, List.forall_mem_cons.mpr ⟨lw_p6, List.forall_mem_cons.mpr ⟨lw_p7, List.forall_mem_cons.mpr ⟨lw_p8, List.forall_mem_cons.mpr ⟨lw_p9, List.forall_mem_cons.mpr ⟨lw_p10, List.forall_mem_cons.mpr ⟨lw_p11, List.forall_mem_cons.mpr ⟨lw_p12, List.forall_mem_cons.mpr ⟨lw_p13, List.forall_mem_cons.mpr ⟨lw_p14, List.forall_mem_cons.mpr ⟨lw_p15, fun _ h => absurd h List.not_mem_nil⟩⟩⟩⟩⟩⟩⟩⟩⟩⟩⟩⟩⟩⟩⟩⟩
theorem lw_p16 : lw_okq (⟨"TwinThreads$Reader", "readGiven", "(I)Z"⟩, 4) := ⟨⟨by decide +kernel, by decide +kernel⟩, List.mem_of_getElem? (i := 154) (by decide +kernel), List.mem_of_getElem? (i := 397) (by decide +kernel), List.mem_of_getElem? (i := 398) (by decide +kernel)⟩
theorem lw_p17 : lw_okq (⟨"TwinThreads$Reader", "readLoad", "(I)Z"⟩, 4) := ⟨⟨by decide +kernel, by decide +kernel⟩, List.mem_of_getElem? (i := 154) (by decide +kernel), List.mem_of_getElem? (i := 401) (by decide +kernel), List.mem_of_getElem? (i := 402) (by decide +kernel)⟩
theorem lw_p18 : lw_okq (⟨"TwinThreads$Reader", "takeSign", "()I"⟩, 4) := ⟨⟨by decide +kernel, by decide +kernel⟩, List.mem_of_getElem? (i := 154) (by decide +kernel), List.mem_of_getElem? (i := 405) (by decide +kernel), List.mem_of_getElem? (i := 406) (by decide +kernel)⟩
theorem lw_p19 : lw_okq (⟨"TwinThreads", "lengthByTurns", "(I)I"⟩, 9) := ⟨⟨by decide +kernel, by decide +kernel⟩, List.mem_of_getElem? (i := 13) (by decide +kernel), List.mem_of_getElem? (i := 493) (by decide +kernel), List.mem_of_getElem? (i := 494) (by decide +kernel)⟩
theorem lw_p20 : lw_okq (⟨"TwinThreads", "lengthExchanged", "(II)I"⟩, 9) := ⟨⟨by decide +kernel, by decide +kernel⟩, List.mem_of_getElem? (i := 13) (by decide +kernel), List.mem_of_getElem? (i := 513) (by decide +kernel), List.mem_of_getElem? (i := 514) (by decide +kernel)⟩
theorem lw_p21 : lw_okq (⟨"TwinThreadsModel", "record", "()V"⟩, 24) := ⟨⟨by decide +kernel, by decide +kernel⟩, List.mem_of_getElem? (i := 543) (by decide +kernel), List.mem_of_getElem? (i := 629) (by decide +kernel), List.mem_of_getElem? (i := 630) (by decide +kernel)⟩
theorem lw_p22 : lw_okq (⟨"TwinThreadsModel", "faultOf", "()I"⟩, 24) := ⟨⟨by decide +kernel, by decide +kernel⟩, List.mem_of_getElem? (i := 543) (by decide +kernel), List.mem_of_getElem? (i := 653) (by decide +kernel), List.mem_of_getElem? (i := 654) (by decide +kernel)⟩
theorem lw_p23 : lw_okq (⟨"TwinThreadsModel", "readOne", "()V"⟩, 24) := ⟨⟨by decide +kernel, by decide +kernel⟩, List.mem_of_getElem? (i := 543) (by decide +kernel), List.mem_of_getElem? (i := 657) (by decide +kernel), List.mem_of_getElem? (i := 658) (by decide +kernel)⟩
theorem lw_p24 : lw_okq (⟨"TwinThreadsModel", "sign", "()I"⟩, 24) := ⟨⟨by decide +kernel, by decide +kernel⟩, List.mem_of_getElem? (i := 543) (by decide +kernel), List.mem_of_getElem? (i := 661) (by decide +kernel), List.mem_of_getElem? (i := 662) (by decide +kernel)⟩
theorem lw_p25 : lw_okq (⟨"TwinThreadsModel", "register", "()I"⟩, 24) := ⟨⟨by decide +kernel, by decide +kernel⟩, List.mem_of_getElem? (i := 543) (by decide +kernel), List.mem_of_getElem? (i := 665) (by decide +kernel), List.mem_of_getElem? (i := 666) (by decide +kernel)⟩
theorem lw_p26 : lw_okq (⟨"TwinThreadsModel", "between", "(I)V"⟩, 24) := ⟨⟨by decide +kernel, by decide +kernel⟩, List.mem_of_getElem? (i := 543) (by decide +kernel), List.mem_of_getElem? (i := 669) (by decide +kernel), List.mem_of_getElem? (i := 670) (by decide +kernel)⟩
theorem lw_p27 : lw_okq (⟨"TwinThreadsModel", "lay", "(IIIII)V"⟩, 24) := ⟨⟨by decide +kernel, by decide +kernel⟩, List.mem_of_getElem? (i := 543) (by decide +kernel), List.mem_of_getElem? (i := 673) (by decide +kernel), List.mem_of_getElem? (i := 674) (by decide +kernel)⟩
theorem lw_p28 : lw_okq (⟨"TwinThreadsModel", "number", "()I"⟩, 24) := ⟨⟨by decide +kernel, by decide +kernel⟩, List.mem_of_getElem? (i := 543) (by decide +kernel), List.mem_of_getElem? (i := 677) (by decide +kernel), List.mem_of_getElem? (i := 678) (by decide +kernel)⟩
theorem lw_p29 : lw_okq (⟨"TwinThreadsModel", "readValue", "(I)V"⟩, 24) := ⟨⟨by decide +kernel, by decide +kernel⟩, List.mem_of_getElem? (i := 543) (by decide +kernel), List.mem_of_getElem? (i := 681) (by decide +kernel), List.mem_of_getElem? (i := 682) (by decide +kernel)⟩
theorem lw_p30 : lw_okq (⟨"TwinThreadsModel", "many", "(I)I"⟩, 24) := ⟨⟨by decide +kernel, by decide +kernel⟩, List.mem_of_getElem? (i := 543) (by decide +kernel), List.mem_of_getElem? (i := 693) (by decide +kernel), List.mem_of_getElem? (i := 694) (by decide +kernel)⟩
theorem lw_p31 : lw_okq (⟨"TwinThreadsModel", "run", "()I"⟩, 24) := ⟨⟨by decide +kernel, by decide +kernel⟩, List.mem_of_getElem? (i := 543) (by decide +kernel), List.mem_of_getElem? (i := 701) (by decide +kernel), List.mem_of_getElem? (i := 702) (by decide +kernel)⟩
def lw_privs_2 : List (MethodName × Nat) := [(⟨"TwinThreads$Reader", "readGiven", "(I)Z"⟩, 4), (⟨"TwinThreads$Reader", "readLoad", "(I)Z"⟩, 4), (⟨"TwinThreads$Reader", "takeSign", "()I"⟩, 4), (⟨"TwinThreads", "lengthByTurns", "(I)I"⟩, 9), (⟨"TwinThreads", "lengthExchanged", "(II)I"⟩, 9), (⟨"TwinThreadsModel", "record", "()V"⟩, 24), (⟨"TwinThreadsModel", "faultOf", "()I"⟩, 24), (⟨"TwinThreadsModel", "readOne", "()V"⟩, 24), (⟨"TwinThreadsModel", "sign", "()I"⟩, 24), (⟨"TwinThreadsModel", "register", "()I"⟩, 24), (⟨"TwinThreadsModel", "between", "(I)V"⟩, 24), (⟨"TwinThreadsModel", "lay", "(IIIII)V"⟩, 24), (⟨"TwinThreadsModel", "number", "()I"⟩, 24), (⟨"TwinThreadsModel", "readValue", "(I)V"⟩, 24), (⟨"TwinThreadsModel", "many", "(I)I"⟩, 24), (⟨"TwinThreadsModel", "run", "()I"⟩, 24)]
theorem lw_r2 : ∀ q ∈ lw_privs_2, lw_okq q := List.forall_mem_cons.mpr ⟨lw_p16, List.forall_mem_cons.mpr ⟨lw_p17, List.forall_mem_cons.mpr ⟨lw_p18, List.forall_mem_cons.mpr ⟨lw_p19, List.forall_mem_cons.mpr ⟨lw_p20, List.forall_mem_cons.mpr ⟨lw_p21, List.forall_mem_cons.mpr ⟨lw_p22, List.forall_mem_cons.mpr ⟨lw_p23, List.forall_mem_cons.mpr ⟨lw_p24, List.forall_mem_cons.mpr ⟨lw_p25, List.forall_mem_cons.mpr ⟨lw_p26, List.forall_mem_cons.mpr ⟨lw_p27, List.forall_mem_cons.mpr ⟨lw_p28, List.forall_mem_cons.mpr ⟨lw_p29, List.forall_mem_cons.mpr ⟨lw_p30, List.forall_mem_cons.mpr ⟨lw_p31, fun _ h => absurd h List.not_mem_nil⟩⟩⟩⟩⟩⟩⟩⟩⟩⟩⟩⟩⟩⟩⟩⟩
theorem lw_p32 : lw_okq (⟨"TwinThreadsModel", "goThrough", "(III)I"⟩, 24) := ⟨⟨by decide +kernel, by decide +kernel⟩, List.mem_of_getElem? (i := 543) (by decide +kernel), List.mem_of_getElem? (i := 705) (by decide +kernel), List.mem_of_getElem? (i := 706) (by decide +kernel)⟩
theorem lw_p33 : lw_okq (⟨"TwinThreadsModel", "isOpen", "(I)Z"⟩, 24) := ⟨⟨by decide +kernel, by decide +kernel⟩, List.mem_of_getElem? (i := 543) (by decide +kernel), List.mem_of_getElem? (i := 709) (by decide +kernel), List.mem_of_getElem? (i := 710) (by decide +kernel)⟩
theorem lw_p34 : lw_okq (⟨"TwinThreadsModel", "starter", "(III)I"⟩, 24) := ⟨⟨by decide +kernel, by decide +kernel⟩, List.mem_of_getElem? (i := 543) (by decide +kernel), List.mem_of_getElem? (i := 713) (by decide +kernel), List.mem_of_getElem? (i := 714) (by decide +kernel)⟩
theorem lw_p35 : lw_okq (⟨"TwinThreadsModel", "whyNot", "(III)I"⟩, 24) := ⟨⟨by decide +kernel, by decide +kernel⟩, List.mem_of_getElem? (i := 543) (by decide +kernel), List.mem_of_getElem? (i := 717) (by decide +kernel), List.mem_of_getElem? (i := 718) (by decide +kernel)⟩
theorem lw_p36 : lw_okq (⟨"TwinThreadsModel", "of", "(III)I"⟩, 24) := ⟨⟨by decide +kernel, by decide +kernel⟩, List.mem_of_getElem? (i := 543) (by decide +kernel), List.mem_of_getElem? (i := 721) (by decide +kernel), List.mem_of_getElem? (i := 722) (by decide +kernel)⟩
theorem lw_p37 : lw_okq (⟨"TwinThreadsModel", "isReady", "(II)Z"⟩, 24) := ⟨⟨by decide +kernel, by decide +kernel⟩, List.mem_of_getElem? (i := 543) (by decide +kernel), List.mem_of_getElem? (i := 728) (by decide +kernel), List.mem_of_getElem? (i := 729) (by decide +kernel)⟩
theorem lw_p38 : lw_okq (⟨"TwinThreadsModel", "latest", "(I)I"⟩, 24) := ⟨⟨by decide +kernel, by decide +kernel⟩, List.mem_of_getElem? (i := 543) (by decide +kernel), List.mem_of_getElem? (i := 732) (by decide +kernel), List.mem_of_getElem? (i := 733) (by decide +kernel)⟩
theorem lw_p39 : lw_okq (⟨"TwinThreadsModel", "begin", "(II)V"⟩, 24) := ⟨⟨by decide +kernel, by decide +kernel⟩, List.mem_of_getElem? (i := 543) (by decide +kernel), List.mem_of_getElem? (i := 736) (by decide +kernel), List.mem_of_getElem? (i := 737) (by decide +kernel)⟩
theorem lw_p40 : lw_okq (⟨"TwinThreadsModel", "does", "(II)I"⟩, 24) := ⟨⟨by decide +kernel, by decide +kernel⟩, List.mem_of_getElem? (i := 543) (by decide +kernel), List.mem_of_getElem? (i := 740) (by decide +kernel), List.mem_of_getElem? (i := 741) (by decide +kernel)⟩
theorem lw_p41 : lw_okq (⟨"TwinThreadsModel", "value", "(II)I"⟩, 24) := ⟨⟨by decide +kernel, by decide +kernel⟩, List.mem_of_getElem? (i := 543) (by decide +kernel), List.mem_of_getElem? (i := 744) (by decide +kernel), List.mem_of_getElem? (i := 745) (by decide +kernel)⟩
theorem lw_p42 : lw_okq (⟨"TwinThreadsModel", "lengthOf", "(I)I"⟩, 24) := ⟨⟨by decide +kernel, by decide +kernel⟩, List.mem_of_getElem? (i := 543) (by decide +kernel), List.mem_of_getElem? (i := 748) (by decide +kernel), List.mem_of_getElem? (i := 749) (by decide +kernel)⟩
theorem lw_p43 : lw_okq (⟨"TwinThreadsModel", "stepsOf", "(II)I"⟩, 24) := ⟨⟨by decide +kernel, by decide +kernel⟩, List.mem_of_getElem? (i := 543) (by decide +kernel), List.mem_of_getElem? (i := 760) (by decide +kernel), List.mem_of_getElem? (i := 761) (by decide +kernel)⟩
theorem lw_p44 : lw_okq (⟨"TwinThreadsModel", "isFixed", "(II)Z"⟩, 24) := ⟨⟨by decide +kernel, by decide +kernel⟩, List.mem_of_getElem? (i := 543) (by decide +kernel), List.mem_of_getElem? (i := 800) (by decide +kernel), List.mem_of_getElem? (i := 801) (by decide +kernel)⟩
theorem lw_p45 : lw_okq (⟨"TwinThreadsModel", "swap", "(II)V"⟩, 24) := ⟨⟨by decide +kernel, by decide +kernel⟩, List.mem_of_getElem? (i := 543) (by decide +kernel), List.mem_of_getElem? (i := 804) (by decide +kernel), List.mem_of_getElem? (i := 805) (by decide +kernel)⟩
theorem lw_p46 : lw_okq (⟨"TwinThreadsModel", "areValuesSame", "()Z"⟩, 24) := ⟨⟨by decide +kernel, by decide +kernel⟩, List.mem_of_getElem? (i := 543) (by decide +kernel), List.mem_of_getElem? (i := 808) (by decide +kernel), List.mem_of_getElem? (i := 809) (by decide +kernel)⟩
def lw_privs_3 : List (MethodName × Nat) := [(⟨"TwinThreadsModel", "goThrough", "(III)I"⟩, 24), (⟨"TwinThreadsModel", "isOpen", "(I)Z"⟩, 24), (⟨"TwinThreadsModel", "starter", "(III)I"⟩, 24), (⟨"TwinThreadsModel", "whyNot", "(III)I"⟩, 24), (⟨"TwinThreadsModel", "of", "(III)I"⟩, 24), (⟨"TwinThreadsModel", "isReady", "(II)Z"⟩, 24), (⟨"TwinThreadsModel", "latest", "(I)I"⟩, 24), (⟨"TwinThreadsModel", "begin", "(II)V"⟩, 24), (⟨"TwinThreadsModel", "does", "(II)I"⟩, 24), (⟨"TwinThreadsModel", "value", "(II)I"⟩, 24), (⟨"TwinThreadsModel", "lengthOf", "(I)I"⟩, 24), (⟨"TwinThreadsModel", "stepsOf", "(II)I"⟩, 24), (⟨"TwinThreadsModel", "isFixed", "(II)Z"⟩, 24), (⟨"TwinThreadsModel", "swap", "(II)V"⟩, 24), (⟨"TwinThreadsModel", "areValuesSame", "()Z"⟩, 24)]
theorem lw_r3 : ∀ q ∈ lw_privs_3, lw_okq q := List.forall_mem_cons.mpr ⟨lw_p32, List.forall_mem_cons.mpr ⟨lw_p33, List.forall_mem_cons.mpr ⟨lw_p34, List.forall_mem_cons.mpr ⟨lw_p35, List.forall_mem_cons.mpr ⟨lw_p36, List.forall_mem_cons.mpr ⟨lw_p37, List.forall_mem_cons.mpr ⟨lw_p38, List.forall_mem_cons.mpr ⟨lw_p39, List.forall_mem_cons.mpr ⟨lw_p40, List.forall_mem_cons.mpr ⟨lw_p41, List.forall_mem_cons.mpr ⟨lw_p42, List.forall_mem_cons.mpr ⟨lw_p43, List.forall_mem_cons.mpr ⟨lw_p44, List.forall_mem_cons.mpr ⟨lw_p45, List.forall_mem_cons.mpr ⟨lw_p46, fun _ h => absurd h List.not_mem_nil⟩⟩⟩⟩⟩⟩⟩⟩⟩⟩⟩⟩⟩⟩⟩
def lw_privs : List (MethodName × Nat) := lw_privs_1 ++ (lw_privs_2 ++ (lw_privs_3))
def lw_tbl : List Cond := k2_sels lw_privs ++ tables_1
theorem lw_privs_ok : ∀ q ∈ lw_privs, lw_okq q := by
  show ∀ q ∈ lw_privs_1 ++ (lw_privs_2 ++ (lw_privs_3)), lw_okq q
  exact List.forall_mem_append.mpr ⟨lw_r1, List.forall_mem_append.mpr ⟨lw_r2, lw_r3⟩⟩
-- ===== end of PART A; then your names; then what follows =====
/-! ===== BEGIN printed: names, fields, word lists, decode rows ===== -/
def RX0 : String := "TwinThreads$History"
def TX0 : u_T := fun k => match k with
  | 0 => ("TwinThreads$History", "size", "I", false)
  | 1 => ("TwinThreads$History", "oldest", "I", false)
  | _ => ("TwinThreads$History", "states", "[LTwinThreads$State;", true)
def tyX0 : Nat → FieldType := fun k => match k with
  | 0 => .int
  | 1 => .int
  | _ => .array (.object "TwinThreads$State")
abbrev wsX00 : List Cond := u_ws RX0 TX0 3
theorem nmX0 : ∀ a, a < 3 → ∀ b, b < 3 → a ≠ b → (TX0 a).2.1 ≠ (TX0 b).2.1 := by decide +kernel
theorem tyX0_ok : ∀ k, k < 3 → parseFieldDescriptor (TX0 k).2.2.1 = some (tyX0 k) := by decide +kernel
abbrev cX0_init : ByteArray := prog_2_method_1_code
def yX0_init : MethodName := ⟨RX0, "<init>", "()V"⟩
abbrev cX0_record : ByteArray := prog_2_method_2_code
def yX0_record : MethodName := ⟨RX0, "record", "(LTwinThreads$State;)V"⟩
abbrev cX0_takeBack : ByteArray := prog_2_method_3_code
def yX0_takeBack : MethodName := ⟨RX0, "takeBack", "(LTwinThreads$State;)V"⟩
def RX1 : String := "TwinThreads$Pad"
def TX1 : u_T := fun k => match k with
  | 0 => ("TwinThreads$Pad", "length", "I", false)
  | _ => ("TwinThreads$Pad", "text", "[C", true)
def tyX1 : Nat → FieldType := fun k => match k with
  | 0 => .int
  | _ => .array .char
abbrev wsX10 : List Cond := u_ws RX1 TX1 2
theorem nmX1 : ∀ a, a < 2 → ∀ b, b < 2 → a ≠ b → (TX1 a).2.1 ≠ (TX1 b).2.1 := by decide +kernel
theorem tyX1_ok : ∀ k, k < 2 → parseFieldDescriptor (TX1 k).2.2.1 = some (tyX1 k) := by decide +kernel
abbrev cX1_init : ByteArray := prog_3_method_1_code
def yX1_init : MethodName := ⟨RX1, "<init>", "()V"⟩
abbrev cX1_charactersIn : ByteArray := prog_3_method_2_code
def yX1_charactersIn : MethodName := ⟨RX1, "charactersIn", "(J)I"⟩
abbrev cX1_append : ByteArray := prog_3_method_3_code
def yX1_append : MethodName := ⟨RX1, "append", "(JI)V"⟩
abbrev cX1_charAt : ByteArray := prog_3_method_4_code
def yX1_charAt : MethodName := ⟨RX1, "charAt", "(I)C"⟩
def RX2 : String := "TwinThreads$Path"
def TX2 : u_T := fun k => match k with
  | 0 => ("TwinThreads$Path", "steps", "I", false)
  | 1 => ("TwinThreads$Path", "stopped", "Z", false)
  | 2 => ("TwinThreads$Path", "orders", "[I", true)
  | _ => ("TwinThreads$Path", "values", "[I", true)
def tyX2 : Nat → FieldType := fun k => match k with
  | 0 => .int
  | 1 => .boolean
  | 2 => .array .int
  | _ => .array .int
abbrev wsX20 : List Cond := u_ws RX2 TX2 4
theorem nmX2 : ∀ a, a < 4 → ∀ b, b < 4 → a ≠ b → (TX2 a).2.1 ≠ (TX2 b).2.1 := by decide +kernel
theorem tyX2_ok : ∀ k, k < 4 → parseFieldDescriptor (TX2 k).2.2.1 = some (tyX2 k) := by decide +kernel
abbrev cX2_init : ByteArray := prog_4_method_1_code
def yX2_init : MethodName := ⟨RX2, "<init>", "()V"⟩
abbrev cX2_follow : ByteArray := prog_4_method_2_code
def yX2_follow : MethodName := ⟨RX2, "follow", "(LTwinThreads$Program;[I)V"⟩
abbrev cX2_sameValues : ByteArray := prog_4_method_3_code
def yX2_sameValues : MethodName := ⟨RX2, "sameValues", "(LTwinThreads$Path;)Z"⟩
abbrev cX2_stepOver : ByteArray := prog_4_method_4_code
def yX2_stepOver : MethodName := ⟨RX2, "stepOver", "(LTwinThreads$Program;I)I"⟩
abbrev cX2_valueOf : ByteArray := prog_4_method_5_code
def yX2_valueOf : MethodName := ⟨RX2, "valueOf", "(I)I"⟩
abbrev cX2_give : ByteArray := prog_4_method_6_code
def yX2_give : MethodName := ⟨RX2, "give", "(II)V"⟩
abbrev cX2_placeOfCell : ByteArray := prog_4_method_7_code
def yX2_placeOfCell : MethodName := ⟨RX2, "placeOfCell", "(I)I"⟩
def RX3 : String := "TwinThreads$Program"
def TX3 : u_T := fun k => match k with
  | 0 => ("TwinThreads$Program", "size", "I", false)
  | _ => ("TwinThreads$Program", "table", "[I", true)
def tyX3 : Nat → FieldType := fun k => match k with
  | 0 => .int
  | _ => .array .int
abbrev wsX30 : List Cond := u_ws RX3 TX3 2
theorem nmX3 : ∀ a, a < 2 → ∀ b, b < 2 → a ≠ b → (TX3 a).2.1 ≠ (TX3 b).2.1 := by decide +kernel
theorem tyX3_ok : ∀ k, k < 2 → parseFieldDescriptor (TX3 k).2.2.1 = some (tyX3 k) := by decide +kernel
abbrev cX3_init : ByteArray := prog_5_method_1_code
def yX3_init : MethodName := ⟨RX3, "<init>", "()V"⟩
abbrev cX3_told : ByteArray := prog_5_method_2_code
def yX3_told : MethodName := ⟨RX3, "told", "(II)I"⟩
abbrev cX3_add : ByteArray := prog_5_method_3_code
def yX3_add : MethodName := ⟨RX3, "add", "(IIIII)V"⟩
abbrev cX3_copyFrom : ByteArray := prog_5_method_4_code
def yX3_copyFrom : MethodName := ⟨RX3, "copyFrom", "(LTwinThreads$Program;)V"⟩
abbrev cX3_exchangeWithNext : ByteArray := prog_5_method_5_code
def yX3_exchangeWithNext : MethodName := ⟨RX3, "exchangeWithNext", "(I)V"⟩
abbrev cX3_mayMove : ByteArray := prog_5_method_6_code
def yX3_mayMove : MethodName := ⟨RX3, "mayMove", "(I)Z"⟩
abbrev cX3_roomOf : ByteArray := prog_5_method_7_code
def yX3_roomOf : MethodName := ⟨RX3, "roomOf", "(I)I"⟩
abbrev cX3_givenBy : ByteArray := prog_5_method_8_code
def yX3_givenBy : MethodName := ⟨RX3, "givenBy", "(I)I"⟩
def RX4 : String := "TwinThreads$Reader"
def TX4 : u_T := fun k => match k with
  | 0 => ("TwinThreads$Reader", "program", "LTwinThreads$Program;", true)
  | 1 => ("TwinThreads$Reader", "orders", "I", false)
  | 2 => ("TwinThreads$Reader", "pad", "LTwinThreads$Pad;", true)
  | _ => ("TwinThreads$Reader", "index", "I", false)
def tyX4 : Nat → FieldType := fun k => match k with
  | 0 => .object "TwinThreads$Program"
  | 1 => .int
  | 2 => .object "TwinThreads$Pad"
  | _ => .int
abbrev wsX40 : List Cond := u_ws RX4 TX4 4
theorem nmX4 : ∀ a, a < 4 → ∀ b, b < 4 → a ≠ b → (TX4 a).2.1 ≠ (TX4 b).2.1 := by decide +kernel
theorem tyX4_ok : ∀ k, k < 4 → parseFieldDescriptor (TX4 k).2.2.1 = some (tyX4 k) := by decide +kernel
abbrev cX4_init : ByteArray := prog_6_method_1_code
def yX4_init : MethodName := ⟨RX4, "<init>", "(LTwinThreads$Pad;)V"⟩
abbrev cX4_read : ByteArray := prog_6_method_2_code
def yX4_read : MethodName := ⟨RX4, "read", "()I"⟩
abbrev cX4_readOrder : ByteArray := prog_6_method_3_code
def yX4_readOrder : MethodName := ⟨RX4, "readOrder", "()Z"⟩
abbrev cX4_readStore : ByteArray := prog_6_method_4_code
def yX4_readStore : MethodName := ⟨RX4, "readStore", "()Z"⟩
abbrev cX4_readGiven : ByteArray := prog_6_method_5_code
def yX4_readGiven : MethodName := ⟨RX4, "readGiven", "(I)Z"⟩
abbrev cX4_readLoad : ByteArray := prog_6_method_6_code
def yX4_readLoad : MethodName := ⟨RX4, "readLoad", "(I)Z"⟩
abbrev cX4_readNumber : ByteArray := prog_6_method_7_code
def yX4_readNumber : MethodName := ⟨RX4, "readNumber", "(II)Z"⟩
abbrev cX4_take : ByteArray := prog_6_method_8_code
def yX4_take : MethodName := ⟨RX4, "take", "(C)Z"⟩
abbrev cX4_takeRegister : ByteArray := prog_6_method_9_code
def yX4_takeRegister : MethodName := ⟨RX4, "takeRegister", "()I"⟩
abbrev cX4_takeFrom : ByteArray := prog_6_method_10_code
def yX4_takeFrom : MethodName := ⟨RX4, "takeFrom", "(CI)I"⟩
abbrev cX4_takeSign : ByteArray := prog_6_method_11_code
def yX4_takeSign : MethodName := ⟨RX4, "takeSign", "()I"⟩
def RX5 : String := "TwinThreads$Run"
def TX5 : u_T := fun k => match k with
  | 0 => ("TwinThreads$Run", "paths", "[LTwinThreads$Path;", true)
  | 1 => ("TwinThreads$Run", "started", "[I", true)
  | 2 => ("TwinThreads$Run", "lengths", "[I", true)
  | 3 => ("TwinThreads$Run", "starts", "[[I", true)
  | 4 => ("TwinThreads$Run", "ends", "[[I", true)
  | 5 => ("TwinThreads$Run", "waits", "[[I", true)
  | 6 => ("TwinThreads$Run", "state", "LTwinThreads$State;", true)
  | 7 => ("TwinThreads$Run", "hindrances", "[I", true)
  | 8 => ("TwinThreads$Run", "readyAt", "[[I", true)
  | 9 => ("TwinThreads$Run", "roomFreeAt", "[I", true)
  | 10 => ("TwinThreads$Run", "roomUser", "[I", true)
  | _ => ("TwinThreads$Run", "openRoom", "I", false)
def tyX5 : Nat → FieldType := fun k => match k with
  | 0 => .array (.object "TwinThreads$Path")
  | 1 => .array .int
  | 2 => .array .int
  | 3 => .array (.array .int)
  | 4 => .array (.array .int)
  | 5 => .array (.array .int)
  | 6 => .object "TwinThreads$State"
  | 7 => .array .int
  | 8 => .array (.array .int)
  | 9 => .array .int
  | 10 => .array .int
  | _ => .int
abbrev wsX50 : List Cond := u_ws RX5 TX5 12
theorem nmX5 : ∀ a, a < 12 → ∀ b, b < 12 → a ≠ b → (TX5 a).2.1 ≠ (TX5 b).2.1 := by decide +kernel
theorem tyX5_ok : ∀ k, k < 12 → parseFieldDescriptor (TX5 k).2.2.1 = some (tyX5 k) := by decide +kernel
abbrev cX5_init : ByteArray := prog_7_method_1_code
def yX5_init : MethodName := ⟨RX5, "<init>", "(LTwinThreads$State;)V"⟩
abbrev cX5_play : ByteArray := prog_7_method_2_code
def yX5_play : MethodName := ⟨RX5, "play", "(I)V"⟩
abbrev cX5_follow : ByteArray := prog_7_method_3_code
def yX5_follow : MethodName := ⟨RX5, "follow", "()V"⟩
abbrev cX5_schedule : ByteArray := prog_7_method_4_code
def yX5_schedule : MethodName := ⟨RX5, "schedule", "(I)V"⟩
abbrev cX5_clear : ByteArray := prog_7_method_5_code
def yX5_clear : MethodName := ⟨RX5, "clear", "()V"⟩
abbrev cX5_hasStep : ByteArray := prog_7_method_6_code
def yX5_hasStep : MethodName := ⟨RX5, "hasStep", "(I)Z"⟩
abbrev cX5_playTick : ByteArray := prog_7_method_7_code
def yX5_playTick : MethodName := ⟨RX5, "playTick", "(I)V"⟩
abbrev cX5_hindranceOf : ByteArray := prog_7_method_8_code
def yX5_hindranceOf : MethodName := ⟨RX5, "hindranceOf", "(II)I"⟩
abbrev cX5_isReady : ByteArray := prog_7_method_9_code
def yX5_isReady : MethodName := ⟨RX5, "isReady", "(III)Z"⟩
abbrev cX5_starterNow : ByteArray := prog_7_method_10_code
def yX5_starterNow : MethodName := ⟨RX5, "starterNow", "(I)I"⟩
abbrev cX5_start : ByteArray := prog_7_method_11_code
def yX5_start : MethodName := ⟨RX5, "start", "(II)V"⟩
abbrev cX5_length : ByteArray := prog_7_method_12_code
def yX5_length : MethodName := ⟨RX5, "length", "()I"⟩
abbrev cX5_latestStart : ByteArray := prog_7_method_13_code
def yX5_latestStart : MethodName := ⟨RX5, "latestStart", "(I)I"⟩
abbrev cX5_waitAhead : ByteArray := prog_7_method_14_code
def yX5_waitAhead : MethodName := ⟨RX5, "waitAhead", "(II)I"⟩
abbrev cX5_stepsIn : ByteArray := prog_7_method_15_code
def yX5_stepsIn : MethodName := ⟨RX5, "stepsIn", "(II)I"⟩
abbrev cX5_ticksIn : ByteArray := prog_7_method_16_code
def yX5_ticksIn : MethodName := ⟨RX5, "ticksIn", "(I)I"⟩
abbrev cX5_starterIn : ByteArray := prog_7_method_17_code
def yX5_starterIn : MethodName := ⟨RX5, "starterIn", "(I)I"⟩
abbrev cX5_userIn : ByteArray := prog_7_method_18_code
def yX5_userIn : MethodName := ⟨RX5, "userIn", "(II)I"⟩
def RX6 : String := "TwinThreads$State"
def TX6 : u_T := fun k => match k with
  | 0 => ("TwinThreads$State", "settings", "[I", true)
  | 1 => ("TwinThreads$State", "programs", "[LTwinThreads$Program;", true)
  | _ => ("TwinThreads$State", "firstValues", "[[I", true)
def tyX6 : Nat → FieldType := fun k => match k with
  | 0 => .array .int
  | 1 => .array (.object "TwinThreads$Program")
  | _ => .array (.array .int)
abbrev wsX60 : List Cond := u_ws RX6 TX6 3
theorem nmX6 : ∀ a, a < 3 → ∀ b, b < 3 → a ≠ b → (TX6 a).2.1 ≠ (TX6 b).2.1 := by decide +kernel
theorem tyX6_ok : ∀ k, k < 3 → parseFieldDescriptor (TX6 k).2.2.1 = some (tyX6 k) := by decide +kernel
abbrev cX6_init : ByteArray := prog_8_method_1_code
def yX6_init : MethodName := ⟨RX6, "<init>", "()V"⟩
abbrev cX6_copyFrom : ByteArray := prog_8_method_2_code
def yX6_copyFrom : MethodName := ⟨RX6, "copyFrom", "(LTwinThreads$State;)V"⟩
abbrev cX6_exchangeThreads : ByteArray := prog_8_method_3_code
def yX6_exchangeThreads : MethodName := ⟨RX6, "exchangeThreads", "()V"⟩
abbrev cX6_ticksFor : ByteArray := prog_8_method_4_code
def yX6_ticksFor : MethodName := ⟨RX6, "ticksFor", "(I)I"⟩
def RX7 : String := "TwinThreads"
def TX7 : u_T := fun k => match k with
  | 0 => ("TwinThreads", "now", "LTwinThreads$State;", true)
  | 1 => ("TwinThreads", "run", "LTwinThreads$Run;", true)
  | 2 => ("TwinThreads", "trial", "LTwinThreads$State;", true)
  | 3 => ("TwinThreads", "trialRun", "LTwinThreads$Run;", true)
  | 4 => ("TwinThreads", "pad", "LTwinThreads$Pad;", true)
  | 5 => ("TwinThreads", "reader", "LTwinThreads$Reader;", true)
  | 6 => ("TwinThreads", "history", "LTwinThreads$History;", true)
  | 7 => ("TwinThreads", "slots", "[LTwinThreads$State;", true)
  | _ => ("TwinThreads", "saved", "[Z", true)
def tyX7 : Nat → FieldType := fun k => match k with
  | 0 => .object "TwinThreads$State"
  | 1 => .object "TwinThreads$Run"
  | 2 => .object "TwinThreads$State"
  | 3 => .object "TwinThreads$Run"
  | 4 => .object "TwinThreads$Pad"
  | 5 => .object "TwinThreads$Reader"
  | 6 => .object "TwinThreads$History"
  | 7 => .array (.object "TwinThreads$State")
  | _ => .array .boolean
abbrev wsX70 : List Cond := u_ws RX7 TX7 9
theorem nmX7 : ∀ a, a < 9 → ∀ b, b < 9 → a ≠ b → (TX7 a).2.1 ≠ (TX7 b).2.1 := by decide +kernel
theorem tyX7_ok : ∀ k, k < 9 → parseFieldDescriptor (TX7 k).2.2.1 = some (tyX7 k) := by decide +kernel
abbrev cX7_init : ByteArray := prog_1_method_1_code
def yX7_init : MethodName := ⟨RX7, "<init>", "()V"⟩
abbrev cX7_set : ByteArray := prog_1_method_2_code
def yX7_set : MethodName := ⟨RX7, "set", "(II)I"⟩
abbrev cX7_put : ByteArray := prog_1_method_3_code
def yX7_put : MethodName := ⟨RX7, "put", "(J)I"⟩
abbrev cX7_wipe : ByteArray := prog_1_method_4_code
def yX7_wipe : MethodName := ⟨RX7, "wipe", "()I"⟩
abbrev cX7_fault : ByteArray := prog_1_method_5_code
def yX7_fault : MethodName := ⟨RX7, "fault", "()I"⟩
abbrev cX7_program : ByteArray := prog_1_method_6_code
def yX7_program : MethodName := ⟨RX7, "program", "(I)I"⟩
abbrev cX7_drop : ByteArray := prog_1_method_7_code
def yX7_drop : MethodName := ⟨RX7, "drop", "(I)I"⟩
abbrev cX7_first : ByteArray := prog_1_method_8_code
def yX7_first : MethodName := ⟨RX7, "first", "(III)I"⟩
abbrev cX7_exchange : ByteArray := prog_1_method_9_code
def yX7_exchange : MethodName := ⟨RX7, "exchange", "()I"⟩
abbrev cX7_ofOrder : ByteArray := prog_1_method_10_code
def yX7_ofOrder : MethodName := ⟨RX7, "ofOrder", "(III)I"⟩
abbrev cX7_ofThread : ByteArray := prog_1_method_11_code
def yX7_ofThread : MethodName := ⟨RX7, "ofThread", "(II)I"⟩
abbrev cX7_last : ByteArray := prog_1_method_12_code
def yX7_last : MethodName := ⟨RX7, "last", "(II)I"⟩
abbrev cX7_ofStep : ByteArray := prog_1_method_13_code
def yX7_ofStep : MethodName := ⟨RX7, "ofStep", "(III)I"⟩
abbrev cX7_at : ByteArray := prog_1_method_14_code
def yX7_at : MethodName := ⟨RX7, "at", "(II)I"⟩
abbrev cX7_count : ByteArray := prog_1_method_15_code
def yX7_count : MethodName := ⟨RX7, "count", "(I)I"⟩
abbrev cX7_alone : ByteArray := prog_1_method_16_code
def yX7_alone : MethodName := ⟨RX7, "alone", "(I)I"⟩
abbrev cX7_lengthWith : ByteArray := prog_1_method_17_code
def yX7_lengthWith : MethodName := ⟨RX7, "lengthWith", "(I)I"⟩
abbrev cX7_bestTurns : ByteArray := prog_1_method_18_code
def yX7_bestTurns : MethodName := ⟨RX7, "bestTurns", "()I"⟩
abbrev cX7_lengthByTurns : ByteArray := prog_1_method_19_code
def yX7_lengthByTurns : MethodName := ⟨RX7, "lengthByTurns", "(I)I"⟩
abbrev cX7_lengthWithout : ByteArray := prog_1_method_20_code
def yX7_lengthWithout : MethodName := ⟨RX7, "lengthWithout", "(I)I"⟩
abbrev cX7_bestExchange : ByteArray := prog_1_method_21_code
def yX7_bestExchange : MethodName := ⟨RX7, "bestExchange", "(II)I"⟩
abbrev cX7_lengthExchanged : ByteArray := prog_1_method_22_code
def yX7_lengthExchanged : MethodName := ⟨RX7, "lengthExchanged", "(II)I"⟩
abbrev cX7_undo : ByteArray := prog_1_method_23_code
def yX7_undo : MethodName := ⟨RX7, "undo", "()I"⟩
abbrev cX7_save : ByteArray := prog_1_method_24_code
def yX7_save : MethodName := ⟨RX7, "save", "(I)I"⟩
abbrev cX7_restore : ByteArray := prog_1_method_25_code
def yX7_restore : MethodName := ⟨RX7, "restore", "(I)I"⟩
abbrev cX7_isThread : ByteArray := prog_1_method_26_code
def yX7_isThread : MethodName := ⟨RX7, "isThread", "(I)Z"⟩
def RX8 : String := "TwinThreadsModel"
def TX8 : u_T := fun k => match k with
  | 0 => ("TwinThreadsModel", "now", "[I", true)
  | 1 => ("TwinThreadsModel", "history", "[I", true)
  | 2 => ("TwinThreadsModel", "undos", "I", false)
  | 3 => ("TwinThreadsModel", "saved", "[I", true)
  | 4 => ("TwinThreadsModel", "isSaved", "[Z", true)
  | 5 => ("TwinThreadsModel", "pad", "[I", true)
  | 6 => ("TwinThreadsModel", "signs", "I", false)
  | 7 => ("TwinThreadsModel", "orders", "[I", true)
  | 8 => ("TwinThreadsModel", "read", "I", false)
  | 9 => ("TwinThreadsModel", "place", "I", false)
  | 10 => ("TwinThreadsModel", "isWrong", "Z", false)
  | 11 => ("TwinThreadsModel", "values", "[I", true)
  | 12 => ("TwinThreadsModel", "ready", "[I", true)
  | 13 => ("TwinThreadsModel", "start", "[I", true)
  | 14 => ("TwinThreadsModel", "order", "[I", true)
  | 15 => ("TwinThreadsModel", "end", "[I", true)
  | 16 => ("TwinThreadsModel", "waited", "[I", true)
  | 17 => ("TwinThreadsModel", "steps", "[I", true)
  | 18 => ("TwinThreadsModel", "next", "[I", true)
  | 19 => ("TwinThreadsModel", "waits", "[I", true)
  | 20 => ("TwinThreadsModel", "pending", "[I", true)
  | 21 => ("TwinThreadsModel", "free", "[I", true)
  | 22 => ("TwinThreadsModel", "owner", "[I", true)
  | _ => ("TwinThreadsModel", "valuesWere", "[I", true)
def tyX8 : Nat → FieldType := fun k => match k with
  | 0 => .array .int
  | 1 => .array .int
  | 2 => .int
  | 3 => .array .int
  | 4 => .array .boolean
  | 5 => .array .int
  | 6 => .int
  | 7 => .array .int
  | 8 => .int
  | 9 => .int
  | 10 => .boolean
  | 11 => .array .int
  | 12 => .array .int
  | 13 => .array .int
  | 14 => .array .int
  | 15 => .array .int
  | 16 => .array .int
  | 17 => .array .int
  | 18 => .array .int
  | 19 => .array .int
  | 20 => .array .int
  | 21 => .array .int
  | 22 => .array .int
  | _ => .array .int
abbrev wsX80 : List Cond := u_ws RX8 TX8 24
theorem nmX8 : ∀ a, a < 24 → ∀ b, b < 24 → a ≠ b → (TX8 a).2.1 ≠ (TX8 b).2.1 := by decide +kernel
theorem tyX8_ok : ∀ k, k < 24 → parseFieldDescriptor (TX8 k).2.2.1 = some (tyX8 k) := by decide +kernel
abbrev cX8_init : ByteArray := prog_10_method_1_code
def yX8_init : MethodName := ⟨RX8, "<init>", "()V"⟩
abbrev cX8_in : ByteArray := prog_10_method_2_code
def yX8_in : MethodName := ⟨RX8, "in", "(III)Z"⟩
abbrev cX8_record : ByteArray := prog_10_method_3_code
def yX8_record : MethodName := ⟨RX8, "record", "()V"⟩
abbrev cX8_set : ByteArray := prog_10_method_4_code
def yX8_set : MethodName := ⟨RX8, "set", "(II)I"⟩
abbrev cX8_isThread : ByteArray := prog_10_method_5_code
def yX8_isThread : MethodName := ⟨RX8, "isThread", "(I)Z"⟩
abbrev cX8_first : ByteArray := prog_10_method_6_code
def yX8_first : MethodName := ⟨RX8, "first", "(III)I"⟩
abbrev cX8_sign : ByteArray := prog_10_method_7_code
def yX8_sign : MethodName := ⟨RX8, "sign", "()I"⟩
abbrev cX8_between : ByteArray := prog_10_method_8_code
def yX8_between : MethodName := ⟨RX8, "between", "(I)V"⟩
abbrev cX8_register : ByteArray := prog_10_method_9_code
def yX8_register : MethodName := ⟨RX8, "register", "()I"⟩
abbrev cX8_number : ByteArray := prog_10_method_10_code
def yX8_number : MethodName := ⟨RX8, "number", "()I"⟩
abbrev cX8_lay : ByteArray := prog_10_method_11_code
def yX8_lay : MethodName := ⟨RX8, "lay", "(IIIII)V"⟩
abbrev cX8_readValue : ByteArray := prog_10_method_12_code
def yX8_readValue : MethodName := ⟨RX8, "readValue", "(I)V"⟩
abbrev cX8_readOne : ByteArray := prog_10_method_13_code
def yX8_readOne : MethodName := ⟨RX8, "readOne", "()V"⟩
abbrev cX8_faultOf : ByteArray := prog_10_method_14_code
def yX8_faultOf : MethodName := ⟨RX8, "faultOf", "()I"⟩
abbrev cX8_put : ByteArray := prog_10_method_15_code
def yX8_put : MethodName := ⟨RX8, "put", "(J)I"⟩
abbrev cX8_wipe : ByteArray := prog_10_method_16_code
def yX8_wipe : MethodName := ⟨RX8, "wipe", "()I"⟩
abbrev cX8_fault : ByteArray := prog_10_method_17_code
def yX8_fault : MethodName := ⟨RX8, "fault", "()I"⟩
abbrev cX8_program : ByteArray := prog_10_method_18_code
def yX8_program : MethodName := ⟨RX8, "program", "(I)I"⟩
abbrev cX8_many : ByteArray := prog_10_method_19_code
def yX8_many : MethodName := ⟨RX8, "many", "(I)I"⟩
abbrev cX8_of : ByteArray := prog_10_method_20_code
def yX8_of : MethodName := ⟨RX8, "of", "(III)I"⟩
abbrev cX8_drop : ByteArray := prog_10_method_21_code
def yX8_drop : MethodName := ⟨RX8, "drop", "(I)I"⟩
abbrev cX8_exchange : ByteArray := prog_10_method_22_code
def yX8_exchange : MethodName := ⟨RX8, "exchange", "()I"⟩
abbrev cX8_ofOrder : ByteArray := prog_10_method_23_code
def yX8_ofOrder : MethodName := ⟨RX8, "ofOrder", "(III)I"⟩
abbrev cX8_isOpen : ByteArray := prog_10_method_24_code
def yX8_isOpen : MethodName := ⟨RX8, "isOpen", "(I)Z"⟩
abbrev cX8_roomOf : ByteArray := prog_10_method_25_code
def yX8_roomOf : MethodName := ⟨RX8, "roomOf", "(I)I"⟩
abbrev cX8_isReady : ByteArray := prog_10_method_26_code
def yX8_isReady : MethodName := ⟨RX8, "isReady", "(II)Z"⟩
abbrev cX8_whyNot : ByteArray := prog_10_method_27_code
def yX8_whyNot : MethodName := ⟨RX8, "whyNot", "(III)I"⟩
abbrev cX8_latest : ByteArray := prog_10_method_28_code
def yX8_latest : MethodName := ⟨RX8, "latest", "(I)I"⟩
abbrev cX8_starter : ByteArray := prog_10_method_29_code
def yX8_starter : MethodName := ⟨RX8, "starter", "(III)I"⟩
abbrev cX8_value : ByteArray := prog_10_method_30_code
def yX8_value : MethodName := ⟨RX8, "value", "(II)I"⟩
abbrev cX8_does : ByteArray := prog_10_method_31_code
def yX8_does : MethodName := ⟨RX8, "does", "(II)I"⟩
abbrev cX8_begin : ByteArray := prog_10_method_32_code
def yX8_begin : MethodName := ⟨RX8, "begin", "(II)V"⟩
abbrev cX8_lengthOf : ByteArray := prog_10_method_33_code
def yX8_lengthOf : MethodName := ⟨RX8, "lengthOf", "(I)I"⟩
abbrev cX8_goThrough : ByteArray := prog_10_method_34_code
def yX8_goThrough : MethodName := ⟨RX8, "goThrough", "(III)I"⟩
abbrev cX8_run : ByteArray := prog_10_method_35_code
def yX8_run : MethodName := ⟨RX8, "run", "()I"⟩
abbrev cX8_stepsOf : ByteArray := prog_10_method_36_code
def yX8_stepsOf : MethodName := ⟨RX8, "stepsOf", "(II)I"⟩
abbrev cX8_ofThread : ByteArray := prog_10_method_37_code
def yX8_ofThread : MethodName := ⟨RX8, "ofThread", "(II)I"⟩
abbrev cX8_last : ByteArray := prog_10_method_38_code
def yX8_last : MethodName := ⟨RX8, "last", "(II)I"⟩
abbrev cX8_ofStep : ByteArray := prog_10_method_39_code
def yX8_ofStep : MethodName := ⟨RX8, "ofStep", "(III)I"⟩
abbrev cX8_at : ByteArray := prog_10_method_40_code
def yX8_at : MethodName := ⟨RX8, "at", "(II)I"⟩
abbrev cX8_count : ByteArray := prog_10_method_41_code
def yX8_count : MethodName := ⟨RX8, "count", "(I)I"⟩
abbrev cX8_alone : ByteArray := prog_10_method_42_code
def yX8_alone : MethodName := ⟨RX8, "alone", "(I)I"⟩
abbrev cX8_lengthWith : ByteArray := prog_10_method_43_code
def yX8_lengthWith : MethodName := ⟨RX8, "lengthWith", "(I)I"⟩
abbrev cX8_bestTurns : ByteArray := prog_10_method_44_code
def yX8_bestTurns : MethodName := ⟨RX8, "bestTurns", "()I"⟩
abbrev cX8_lengthWithout : ByteArray := prog_10_method_45_code
def yX8_lengthWithout : MethodName := ⟨RX8, "lengthWithout", "(I)I"⟩
abbrev cX8_isFixed : ByteArray := prog_10_method_46_code
def yX8_isFixed : MethodName := ⟨RX8, "isFixed", "(II)Z"⟩
abbrev cX8_swap : ByteArray := prog_10_method_47_code
def yX8_swap : MethodName := ⟨RX8, "swap", "(II)V"⟩
abbrev cX8_areValuesSame : ByteArray := prog_10_method_48_code
def yX8_areValuesSame : MethodName := ⟨RX8, "areValuesSame", "()Z"⟩
abbrev cX8_bestExchange : ByteArray := prog_10_method_49_code
def yX8_bestExchange : MethodName := ⟨RX8, "bestExchange", "(II)I"⟩
abbrev cX8_undo : ByteArray := prog_10_method_50_code
def yX8_undo : MethodName := ⟨RX8, "undo", "()I"⟩
abbrev cX8_save : ByteArray := prog_10_method_51_code
def yX8_save : MethodName := ⟨RX8, "save", "(I)I"⟩
abbrev cX8_restore : ByteArray := prog_10_method_52_code
def yX8_restore : MethodName := ⟨RX8, "restore", "(I)I"⟩
def RJ9 : String := "java/lang/Math"
def TJ9 : u_T := fun k => match k with
  | _ => ("", "", "", false)
def tyJ9 : Nat → FieldType := fun k => match k with
  | _ => .int
abbrev wsJ90 : List Cond := u_ws RJ9 TJ9 0
theorem nmJ9 : ∀ a, a < 0 → ∀ b, b < 0 → a ≠ b → (TJ9 a).2.1 ≠ (TJ9 b).2.1 := by decide +kernel
theorem tyJ9_ok : ∀ k, k < 0 → parseFieldDescriptor (TJ9 k).2.2.1 = some (tyJ9 k) := by decide +kernel
abbrev cJ9_floorMod_7cf53 : ByteArray := prog_11_method_50_code
def yJ9_floorMod_7cf53 : MethodName := ⟨RJ9, "floorMod", "(II)I"⟩
abbrev cJ9_max_7cf53 : ByteArray := prog_11_method_65_code
def yJ9_max_7cf53 : MethodName := ⟨RJ9, "max", "(II)I"⟩
def RJ10 : String := "java/lang/System"
def TJ10 : u_T := fun k => match k with
  | _ => ("", "", "", false)
def tyJ10 : Nat → FieldType := fun k => match k with
  | _ => .int
abbrev wsJ100 : List Cond := u_ws RJ10 TJ10 0
theorem nmJ10 : ∀ a, a < 0 → ∀ b, b < 0 → a ≠ b → (TJ10 a).2.1 ≠ (TJ10 b).2.1 := by decide +kernel
theorem tyJ10_ok : ∀ k, k < 0 → parseFieldDescriptor (TJ10 k).2.2.1 = some (tyJ10 k) := by decide +kernel
def RL : String := "TwinThreadsLaw"
abbrev cL_law : ByteArray := code
abbrev vwCl : List vw_C := [(RX0, TX0, 3), (RX1, TX1, 2), (RX2, TX2, 4), (RX3, TX3, 2), (RX4, TX4, 4), (RX5, TX5, 12), (RX6, TX6, 3), (RX7, TX7, 9), (RX8, TX8, 24)]
end
section
theorem dX0_init_0 : decode cX0_init 0 = .ok (.aload_n 0, 1) := by decide +kernel
theorem dX0_init_1 : decode cX0_init 1 = .ok (.invokespecial 3, 3) := by decide +kernel
theorem dX0_init_4 : decode cX0_init 4 = .ok (.aload_n 0, 1) := by decide +kernel
theorem dX0_init_5 : decode cX0_init 5 = .ok (.bipush 6, 2) := by decide +kernel
theorem dX0_init_7 : decode cX0_init 7 = .ok (.anewarray 9, 3) := by decide +kernel
theorem dX0_init_10 : decode cX0_init 10 = .ok (.putfield 11, 3) := by decide +kernel
theorem dX0_init_13 : decode cX0_init 13 = .ok (.iconst 0, 1) := by decide +kernel
theorem dX0_init_14 : decode cX0_init 14 = .ok (.istore_n 1, 1) := by decide +kernel
theorem dX0_init_15 : decode cX0_init 15 = .ok (.iload_n 1, 1) := by decide +kernel
theorem dX0_init_16 : decode cX0_init 16 = .ok (.bipush 6, 2) := by decide +kernel
theorem dX0_init_18 : decode cX0_init 18 = .ok (.if_icmp .ge 22, 3) := by decide +kernel
theorem dX0_init_21 : decode cX0_init 21 = .ok (.aload_n 0, 1) := by decide +kernel
theorem dX0_init_22 : decode cX0_init 22 = .ok (.getfield 11, 3) := by decide +kernel
theorem dX0_init_25 : decode cX0_init 25 = .ok (.iload_n 1, 1) := by decide +kernel
theorem dX0_init_26 : decode cX0_init 26 = .ok (.new 9, 3) := by decide +kernel
theorem dX0_init_29 : decode cX0_init 29 = .ok (.dup, 1) := by decide +kernel
theorem dX0_init_30 : decode cX0_init 30 = .ok (.invokespecial 17, 3) := by decide +kernel
theorem dX0_init_33 : decode cX0_init 33 = .ok (.aastore, 1) := by decide +kernel
theorem dX0_init_34 : decode cX0_init 34 = .ok (.iinc 1 1, 3) := by decide +kernel
theorem dX0_init_37 : decode cX0_init 37 = .ok (.goto (-22), 3) := by decide +kernel
theorem dX0_init_40 : decode cX0_init 40 = .ok (.return_, 1) := by decide +kernel
theorem dX0_record_0 : decode cX0_record 0 = .ok (.aload_n 0, 1) := by decide +kernel
theorem dX0_record_1 : decode cX0_record 1 = .ok (.getfield 11, 3) := by decide +kernel
theorem dX0_record_4 : decode cX0_record 4 = .ok (.aload_n 0, 1) := by decide +kernel
theorem dX0_record_5 : decode cX0_record 5 = .ok (.getfield 18, 3) := by decide +kernel
theorem dX0_record_8 : decode cX0_record 8 = .ok (.aload_n 0, 1) := by decide +kernel
theorem dX0_record_9 : decode cX0_record 9 = .ok (.getfield 22, 3) := by decide +kernel
theorem dX0_record_12 : decode cX0_record 12 = .ok (.iadd, 1) := by decide +kernel
theorem dX0_record_13 : decode cX0_record 13 = .ok (.bipush 6, 2) := by decide +kernel
theorem dX0_record_15 : decode cX0_record 15 = .ok (.irem, 1) := by decide +kernel
theorem dX0_record_16 : decode cX0_record 16 = .ok (.aaload, 1) := by decide +kernel
theorem dX0_record_17 : decode cX0_record 17 = .ok (.aload_n 1, 1) := by decide +kernel
theorem dX0_record_18 : decode cX0_record 18 = .ok (.invokevirtual 25, 3) := by decide +kernel
theorem dX0_record_21 : decode cX0_record 21 = .ok (.aload_n 0, 1) := by decide +kernel
theorem dX0_record_22 : decode cX0_record 22 = .ok (.getfield 22, 3) := by decide +kernel
theorem dX0_record_25 : decode cX0_record 25 = .ok (.bipush 6, 2) := by decide +kernel
theorem dX0_record_27 : decode cX0_record 27 = .ok (.if_icmp .ge 16, 3) := by decide +kernel
theorem dX0_record_30 : decode cX0_record 30 = .ok (.aload_n 0, 1) := by decide +kernel
theorem dX0_record_31 : decode cX0_record 31 = .ok (.dup, 1) := by decide +kernel
theorem dX0_record_32 : decode cX0_record 32 = .ok (.getfield 22, 3) := by decide +kernel
theorem dX0_record_35 : decode cX0_record 35 = .ok (.iconst 1, 1) := by decide +kernel
theorem dX0_record_36 : decode cX0_record 36 = .ok (.iadd, 1) := by decide +kernel
theorem dX0_record_37 : decode cX0_record 37 = .ok (.putfield 22, 3) := by decide +kernel
theorem dX0_record_40 : decode cX0_record 40 = .ok (.goto 16, 3) := by decide +kernel
theorem dX0_record_43 : decode cX0_record 43 = .ok (.aload_n 0, 1) := by decide +kernel
theorem dX0_record_44 : decode cX0_record 44 = .ok (.aload_n 0, 1) := by decide +kernel
theorem dX0_record_45 : decode cX0_record 45 = .ok (.getfield 18, 3) := by decide +kernel
theorem dX0_record_48 : decode cX0_record 48 = .ok (.iconst 1, 1) := by decide +kernel
theorem dX0_record_49 : decode cX0_record 49 = .ok (.iadd, 1) := by decide +kernel
theorem dX0_record_50 : decode cX0_record 50 = .ok (.bipush 6, 2) := by decide +kernel
theorem dX0_record_52 : decode cX0_record 52 = .ok (.irem, 1) := by decide +kernel
theorem dX0_record_53 : decode cX0_record 53 = .ok (.putfield 18, 3) := by decide +kernel
theorem dX0_record_56 : decode cX0_record 56 = .ok (.return_, 1) := by decide +kernel
theorem dX0_takeBack_0 : decode cX0_takeBack 0 = .ok (.aload_n 0, 1) := by decide +kernel
theorem dX0_takeBack_1 : decode cX0_takeBack 1 = .ok (.getfield 22, 3) := by decide +kernel
theorem dX0_takeBack_4 : decode cX0_takeBack 4 = .ok (.ifCond .ne 4, 3) := by decide +kernel
theorem dX0_takeBack_7 : decode cX0_takeBack 7 = .ok (.return_, 1) := by decide +kernel
theorem dX0_takeBack_8 : decode cX0_takeBack 8 = .ok (.aload_n 0, 1) := by decide +kernel
theorem dX0_takeBack_9 : decode cX0_takeBack 9 = .ok (.dup, 1) := by decide +kernel
theorem dX0_takeBack_10 : decode cX0_takeBack 10 = .ok (.getfield 22, 3) := by decide +kernel
theorem dX0_takeBack_13 : decode cX0_takeBack 13 = .ok (.iconst 1, 1) := by decide +kernel
theorem dX0_takeBack_14 : decode cX0_takeBack 14 = .ok (.isub, 1) := by decide +kernel
theorem dX0_takeBack_15 : decode cX0_takeBack 15 = .ok (.putfield 22, 3) := by decide +kernel
theorem dX0_takeBack_18 : decode cX0_takeBack 18 = .ok (.aload_n 1, 1) := by decide +kernel
theorem dX0_takeBack_19 : decode cX0_takeBack 19 = .ok (.aload_n 0, 1) := by decide +kernel
theorem dX0_takeBack_20 : decode cX0_takeBack 20 = .ok (.getfield 11, 3) := by decide +kernel
theorem dX0_takeBack_23 : decode cX0_takeBack 23 = .ok (.aload_n 0, 1) := by decide +kernel
theorem dX0_takeBack_24 : decode cX0_takeBack 24 = .ok (.getfield 18, 3) := by decide +kernel
theorem dX0_takeBack_27 : decode cX0_takeBack 27 = .ok (.aload_n 0, 1) := by decide +kernel
theorem dX0_takeBack_28 : decode cX0_takeBack 28 = .ok (.getfield 22, 3) := by decide +kernel
theorem dX0_takeBack_31 : decode cX0_takeBack 31 = .ok (.iadd, 1) := by decide +kernel
theorem dX0_takeBack_32 : decode cX0_takeBack 32 = .ok (.bipush 6, 2) := by decide +kernel
theorem dX0_takeBack_34 : decode cX0_takeBack 34 = .ok (.irem, 1) := by decide +kernel
theorem dX0_takeBack_35 : decode cX0_takeBack 35 = .ok (.aaload, 1) := by decide +kernel
theorem dX0_takeBack_36 : decode cX0_takeBack 36 = .ok (.invokevirtual 25, 3) := by decide +kernel
theorem dX0_takeBack_39 : decode cX0_takeBack 39 = .ok (.return_, 1) := by decide +kernel
theorem dX1_init_0 : decode cX1_init 0 = .ok (.aload_n 0, 1) := by decide +kernel
theorem dX1_init_1 : decode cX1_init 1 = .ok (.invokespecial 3, 3) := by decide +kernel
theorem dX1_init_4 : decode cX1_init 4 = .ok (.aload_n 0, 1) := by decide +kernel
theorem dX1_init_5 : decode cX1_init 5 = .ok (.bipush 80, 2) := by decide +kernel
theorem dX1_init_7 : decode cX1_init 7 = .ok (.newarray .char, 2) := by decide +kernel
theorem dX1_init_9 : decode cX1_init 9 = .ok (.putfield 9, 3) := by decide +kernel
theorem dX1_init_12 : decode cX1_init 12 = .ok (.return_, 1) := by decide +kernel
theorem dX1_charactersIn_0 : decode cX1_charactersIn 0 = .ok (.lload_n 0, 1) := by decide +kernel
theorem dX1_charactersIn_1 : decode cX1_charactersIn 1 = .ok (.lstore_n 2, 1) := by decide +kernel
theorem dX1_charactersIn_2 : decode cX1_charactersIn 2 = .ok (.iconst 0, 1) := by decide +kernel
theorem dX1_charactersIn_3 : decode cX1_charactersIn 3 = .ok (.istore 4, 2) := by decide +kernel
theorem dX1_charactersIn_5 : decode cX1_charactersIn 5 = .ok (.iload 4, 2) := by decide +kernel
theorem dX1_charactersIn_7 : decode cX1_charactersIn 7 = .ok (.bipush 8, 2) := by decide +kernel
theorem dX1_charactersIn_9 : decode cX1_charactersIn 9 = .ok (.if_icmp .ge 51, 3) := by decide +kernel
theorem dX1_charactersIn_12 : decode cX1_charactersIn 12 = .ok (.lload_n 2, 1) := by decide +kernel
theorem dX1_charactersIn_13 : decode cX1_charactersIn 13 = .ok (.ldc2_w 15, 3) := by decide +kernel
theorem dX1_charactersIn_16 : decode cX1_charactersIn 16 = .ok (.land, 1) := by decide +kernel
theorem dX1_charactersIn_17 : decode cX1_charactersIn 17 = .ok (.lconst 0, 1) := by decide +kernel
theorem dX1_charactersIn_18 : decode cX1_charactersIn 18 = .ok (.lcmp, 1) := by decide +kernel
theorem dX1_charactersIn_19 : decode cX1_charactersIn 19 = .ok (.ifCond .eq 41, 3) := by decide +kernel
theorem dX1_charactersIn_22 : decode cX1_charactersIn 22 = .ok (.lload_n 2, 1) := by decide +kernel
theorem dX1_charactersIn_23 : decode cX1_charactersIn 23 = .ok (.ldc2_w 15, 3) := by decide +kernel
theorem dX1_charactersIn_26 : decode cX1_charactersIn 26 = .ok (.land, 1) := by decide +kernel
theorem dX1_charactersIn_27 : decode cX1_charactersIn 27 = .ok (.lstore 5, 2) := by decide +kernel
theorem dX1_charactersIn_29 : decode cX1_charactersIn 29 = .ok (.lload 5, 2) := by decide +kernel
theorem dX1_charactersIn_31 : decode cX1_charactersIn 31 = .ok (.ldc2_w 17, 3) := by decide +kernel
theorem dX1_charactersIn_34 : decode cX1_charactersIn 34 = .ok (.lcmp, 1) := by decide +kernel
theorem dX1_charactersIn_35 : decode cX1_charactersIn 35 = .ok (.ifCond .lt 12, 3) := by decide +kernel
theorem dX1_charactersIn_38 : decode cX1_charactersIn 38 = .ok (.lload 5, 2) := by decide +kernel
theorem dX1_charactersIn_40 : decode cX1_charactersIn 40 = .ok (.ldc2_w 19, 3) := by decide +kernel
theorem dX1_charactersIn_43 : decode cX1_charactersIn 43 = .ok (.lcmp, 1) := by decide +kernel
theorem dX1_charactersIn_44 : decode cX1_charactersIn 44 = .ok (.ifCond .le 5, 3) := by decide +kernel
theorem dX1_charactersIn_47 : decode cX1_charactersIn 47 = .ok (.iconst 0, 1) := by decide +kernel
theorem dX1_charactersIn_48 : decode cX1_charactersIn 48 = .ok (.ireturn, 1) := by decide +kernel
theorem dX1_charactersIn_49 : decode cX1_charactersIn 49 = .ok (.lload_n 2, 1) := by decide +kernel
theorem dX1_charactersIn_50 : decode cX1_charactersIn 50 = .ok (.bipush 8, 2) := by decide +kernel
theorem dX1_charactersIn_52 : decode cX1_charactersIn 52 = .ok (.lushr, 1) := by decide +kernel
theorem dX1_charactersIn_53 : decode cX1_charactersIn 53 = .ok (.lstore_n 2, 1) := by decide +kernel
theorem dX1_charactersIn_54 : decode cX1_charactersIn 54 = .ok (.iinc 4 1, 3) := by decide +kernel
theorem dX1_charactersIn_57 : decode cX1_charactersIn 57 = .ok (.goto (-52), 3) := by decide +kernel
theorem dX1_charactersIn_60 : decode cX1_charactersIn 60 = .ok (.lload_n 2, 1) := by decide +kernel
theorem dX1_charactersIn_61 : decode cX1_charactersIn 61 = .ok (.lconst 0, 1) := by decide +kernel
theorem dX1_charactersIn_62 : decode cX1_charactersIn 62 = .ok (.lcmp, 1) := by decide +kernel
theorem dX1_charactersIn_63 : decode cX1_charactersIn 63 = .ok (.ifCond .ne 8, 3) := by decide +kernel
theorem dX1_charactersIn_66 : decode cX1_charactersIn 66 = .ok (.iload 4, 2) := by decide +kernel
theorem dX1_charactersIn_68 : decode cX1_charactersIn 68 = .ok (.goto 4, 3) := by decide +kernel
theorem dX1_charactersIn_71 : decode cX1_charactersIn 71 = .ok (.iconst 0, 1) := by decide +kernel
theorem dX1_charactersIn_72 : decode cX1_charactersIn 72 = .ok (.ireturn, 1) := by decide +kernel
theorem dX1_append_0 : decode cX1_append 0 = .ok (.iload_n 3, 1) := by decide +kernel
theorem dX1_append_1 : decode cX1_append 1 = .ok (.iconst 1, 1) := by decide +kernel
theorem dX1_append_2 : decode cX1_append 2 = .ok (.isub, 1) := by decide +kernel
theorem dX1_append_3 : decode cX1_append 3 = .ok (.istore 4, 2) := by decide +kernel
theorem dX1_append_5 : decode cX1_append 5 = .ok (.iload 4, 2) := by decide +kernel
theorem dX1_append_7 : decode cX1_append 7 = .ok (.ifCond .lt 50, 3) := by decide +kernel
theorem dX1_append_10 : decode cX1_append 10 = .ok (.aload_n 0, 1) := by decide +kernel
theorem dX1_append_11 : decode cX1_append 11 = .ok (.getfield 21, 3) := by decide +kernel
theorem dX1_append_14 : decode cX1_append 14 = .ok (.bipush 80, 2) := by decide +kernel
theorem dX1_append_16 : decode cX1_append 16 = .ok (.if_icmp .ge 41, 3) := by decide +kernel
theorem dX1_append_19 : decode cX1_append 19 = .ok (.aload_n 0, 1) := by decide +kernel
theorem dX1_append_20 : decode cX1_append 20 = .ok (.getfield 9, 3) := by decide +kernel
theorem dX1_append_23 : decode cX1_append 23 = .ok (.aload_n 0, 1) := by decide +kernel
theorem dX1_append_24 : decode cX1_append 24 = .ok (.getfield 21, 3) := by decide +kernel
theorem dX1_append_27 : decode cX1_append 27 = .ok (.lload_n 1, 1) := by decide +kernel
theorem dX1_append_28 : decode cX1_append 28 = .ok (.bipush 8, 2) := by decide +kernel
theorem dX1_append_30 : decode cX1_append 30 = .ok (.iload 4, 2) := by decide +kernel
theorem dX1_append_32 : decode cX1_append 32 = .ok (.imul, 1) := by decide +kernel
theorem dX1_append_33 : decode cX1_append 33 = .ok (.lushr, 1) := by decide +kernel
theorem dX1_append_34 : decode cX1_append 34 = .ok (.ldc2_w 15, 3) := by decide +kernel
theorem dX1_append_37 : decode cX1_append 37 = .ok (.land, 1) := by decide +kernel
theorem dX1_append_38 : decode cX1_append 38 = .ok (.l2i, 1) := by decide +kernel
theorem dX1_append_39 : decode cX1_append 39 = .ok (.i2c, 1) := by decide +kernel
theorem dX1_append_40 : decode cX1_append 40 = .ok (.castore, 1) := by decide +kernel
theorem dX1_append_41 : decode cX1_append 41 = .ok (.aload_n 0, 1) := by decide +kernel
theorem dX1_append_42 : decode cX1_append 42 = .ok (.dup, 1) := by decide +kernel
theorem dX1_append_43 : decode cX1_append 43 = .ok (.getfield 21, 3) := by decide +kernel
theorem dX1_append_46 : decode cX1_append 46 = .ok (.iconst 1, 1) := by decide +kernel
theorem dX1_append_47 : decode cX1_append 47 = .ok (.iadd, 1) := by decide +kernel
theorem dX1_append_48 : decode cX1_append 48 = .ok (.putfield 21, 3) := by decide +kernel
theorem dX1_append_51 : decode cX1_append 51 = .ok (.iinc 4 (-1), 3) := by decide +kernel
theorem dX1_append_54 : decode cX1_append 54 = .ok (.goto (-49), 3) := by decide +kernel
theorem dX1_append_57 : decode cX1_append 57 = .ok (.return_, 1) := by decide +kernel
theorem dX1_charAt_0 : decode cX1_charAt 0 = .ok (.iload_n 1, 1) := by decide +kernel
theorem dX1_charAt_1 : decode cX1_charAt 1 = .ok (.ifCond .lt 26, 3) := by decide +kernel
theorem dX1_charAt_4 : decode cX1_charAt 4 = .ok (.iload_n 1, 1) := by decide +kernel
theorem dX1_charAt_5 : decode cX1_charAt 5 = .ok (.aload_n 0, 1) := by decide +kernel
theorem dX1_charAt_6 : decode cX1_charAt 6 = .ok (.getfield 21, 3) := by decide +kernel
theorem dX1_charAt_9 : decode cX1_charAt 9 = .ok (.if_icmp .ge 18, 3) := by decide +kernel
theorem dX1_charAt_12 : decode cX1_charAt 12 = .ok (.iload_n 1, 1) := by decide +kernel
theorem dX1_charAt_13 : decode cX1_charAt 13 = .ok (.bipush 80, 2) := by decide +kernel
theorem dX1_charAt_15 : decode cX1_charAt 15 = .ok (.if_icmp .ge 12, 3) := by decide +kernel
theorem dX1_charAt_18 : decode cX1_charAt 18 = .ok (.aload_n 0, 1) := by decide +kernel
theorem dX1_charAt_19 : decode cX1_charAt 19 = .ok (.getfield 9, 3) := by decide +kernel
theorem dX1_charAt_22 : decode cX1_charAt 22 = .ok (.iload_n 1, 1) := by decide +kernel
theorem dX1_charAt_23 : decode cX1_charAt 23 = .ok (.caload, 1) := by decide +kernel
theorem dX1_charAt_24 : decode cX1_charAt 24 = .ok (.goto 4, 3) := by decide +kernel
theorem dX1_charAt_27 : decode cX1_charAt 27 = .ok (.iconst 0, 1) := by decide +kernel
theorem dX1_charAt_28 : decode cX1_charAt 28 = .ok (.ireturn, 1) := by decide +kernel
theorem dX2_init_0 : decode cX2_init 0 = .ok (.aload_n 0, 1) := by decide +kernel
theorem dX2_init_1 : decode cX2_init 1 = .ok (.invokespecial 3, 3) := by decide +kernel
theorem dX2_init_4 : decode cX2_init 4 = .ok (.aload_n 0, 1) := by decide +kernel
theorem dX2_init_5 : decode cX2_init 5 = .ok (.bipush 100, 2) := by decide +kernel
theorem dX2_init_7 : decode cX2_init 7 = .ok (.newarray .int, 2) := by decide +kernel
theorem dX2_init_9 : decode cX2_init 9 = .ok (.putfield 9, 3) := by decide +kernel
theorem dX2_init_12 : decode cX2_init 12 = .ok (.aload_n 0, 1) := by decide +kernel
theorem dX2_init_13 : decode cX2_init 13 = .ok (.bipush 12, 2) := by decide +kernel
theorem dX2_init_15 : decode cX2_init 15 = .ok (.newarray .int, 2) := by decide +kernel
theorem dX2_init_17 : decode cX2_init 17 = .ok (.putfield 15, 3) := by decide +kernel
theorem dX2_init_20 : decode cX2_init 20 = .ok (.return_, 1) := by decide +kernel
theorem dX2_follow_0 : decode cX2_follow 0 = .ok (.aload_n 2, 1) := by decide +kernel
theorem dX2_follow_1 : decode cX2_follow 1 = .ok (.iconst 0, 1) := by decide +kernel
theorem dX2_follow_2 : decode cX2_follow 2 = .ok (.aload_n 0, 1) := by decide +kernel
theorem dX2_follow_3 : decode cX2_follow 3 = .ok (.getfield 15, 3) := by decide +kernel
theorem dX2_follow_6 : decode cX2_follow 6 = .ok (.iconst 0, 1) := by decide +kernel
theorem dX2_follow_7 : decode cX2_follow 7 = .ok (.bipush 12, 2) := by decide +kernel
theorem dX2_follow_9 : decode cX2_follow 9 = .ok (.invokestatic 18, 3) := by decide +kernel
theorem dX2_follow_12 : decode cX2_follow 12 = .ok (.aload_n 0, 1) := by decide +kernel
theorem dX2_follow_13 : decode cX2_follow 13 = .ok (.iconst 0, 1) := by decide +kernel
theorem dX2_follow_14 : decode cX2_follow 14 = .ok (.putfield 24, 3) := by decide +kernel
theorem dX2_follow_17 : decode cX2_follow 17 = .ok (.iconst 0, 1) := by decide +kernel
theorem dX2_follow_18 : decode cX2_follow 18 = .ok (.istore_n 3, 1) := by decide +kernel
theorem dX2_follow_19 : decode cX2_follow 19 = .ok (.aload_n 0, 1) := by decide +kernel
theorem dX2_follow_20 : decode cX2_follow 20 = .ok (.getfield 24, 3) := by decide +kernel
theorem dX2_follow_23 : decode cX2_follow 23 = .ok (.bipush 100, 2) := by decide +kernel
theorem dX2_follow_25 : decode cX2_follow 25 = .ok (.if_icmp .ge 41, 3) := by decide +kernel
theorem dX2_follow_28 : decode cX2_follow 28 = .ok (.iload_n 3, 1) := by decide +kernel
theorem dX2_follow_29 : decode cX2_follow 29 = .ok (.aload_n 1, 1) := by decide +kernel
theorem dX2_follow_30 : decode cX2_follow 30 = .ok (.getfield 28, 3) := by decide +kernel
theorem dX2_follow_33 : decode cX2_follow 33 = .ok (.if_icmp .ge 33, 3) := by decide +kernel
theorem dX2_follow_36 : decode cX2_follow 36 = .ok (.aload_n 0, 1) := by decide +kernel
theorem dX2_follow_37 : decode cX2_follow 37 = .ok (.getfield 9, 3) := by decide +kernel
theorem dX2_follow_40 : decode cX2_follow 40 = .ok (.aload_n 0, 1) := by decide +kernel
theorem dX2_follow_41 : decode cX2_follow 41 = .ok (.getfield 24, 3) := by decide +kernel
theorem dX2_follow_44 : decode cX2_follow 44 = .ok (.iload_n 3, 1) := by decide +kernel
theorem dX2_follow_45 : decode cX2_follow 45 = .ok (.iastore, 1) := by decide +kernel
theorem dX2_follow_46 : decode cX2_follow 46 = .ok (.aload_n 0, 1) := by decide +kernel
theorem dX2_follow_47 : decode cX2_follow 47 = .ok (.dup, 1) := by decide +kernel
theorem dX2_follow_48 : decode cX2_follow 48 = .ok (.getfield 24, 3) := by decide +kernel
theorem dX2_follow_51 : decode cX2_follow 51 = .ok (.iconst 1, 1) := by decide +kernel
theorem dX2_follow_52 : decode cX2_follow 52 = .ok (.iadd, 1) := by decide +kernel
theorem dX2_follow_53 : decode cX2_follow 53 = .ok (.putfield 24, 3) := by decide +kernel
theorem dX2_follow_56 : decode cX2_follow 56 = .ok (.aload_n 0, 1) := by decide +kernel
theorem dX2_follow_57 : decode cX2_follow 57 = .ok (.aload_n 1, 1) := by decide +kernel
theorem dX2_follow_58 : decode cX2_follow 58 = .ok (.iload_n 3, 1) := by decide +kernel
theorem dX2_follow_59 : decode cX2_follow 59 = .ok (.invokevirtual 33, 3) := by decide +kernel
theorem dX2_follow_62 : decode cX2_follow 62 = .ok (.istore_n 3, 1) := by decide +kernel
theorem dX2_follow_63 : decode cX2_follow 63 = .ok (.goto (-44), 3) := by decide +kernel
theorem dX2_follow_66 : decode cX2_follow 66 = .ok (.aload_n 0, 1) := by decide +kernel
theorem dX2_follow_67 : decode cX2_follow 67 = .ok (.iload_n 3, 1) := by decide +kernel
theorem dX2_follow_68 : decode cX2_follow 68 = .ok (.aload_n 1, 1) := by decide +kernel
theorem dX2_follow_69 : decode cX2_follow 69 = .ok (.getfield 28, 3) := by decide +kernel
theorem dX2_follow_72 : decode cX2_follow 72 = .ok (.if_icmp .ge 7, 3) := by decide +kernel
theorem dX2_follow_75 : decode cX2_follow 75 = .ok (.iconst 1, 1) := by decide +kernel
theorem dX2_follow_76 : decode cX2_follow 76 = .ok (.goto 4, 3) := by decide +kernel
theorem dX2_follow_79 : decode cX2_follow 79 = .ok (.iconst 0, 1) := by decide +kernel
theorem dX2_follow_80 : decode cX2_follow 80 = .ok (.putfield 37, 3) := by decide +kernel
theorem dX2_follow_83 : decode cX2_follow 83 = .ok (.return_, 1) := by decide +kernel
theorem dX2_sameValues_0 : decode cX2_sameValues 0 = .ok (.iconst 0, 1) := by decide +kernel
theorem dX2_sameValues_1 : decode cX2_sameValues 1 = .ok (.istore_n 2, 1) := by decide +kernel
theorem dX2_sameValues_2 : decode cX2_sameValues 2 = .ok (.iload_n 2, 1) := by decide +kernel
theorem dX2_sameValues_3 : decode cX2_sameValues 3 = .ok (.bipush 12, 2) := by decide +kernel
theorem dX2_sameValues_5 : decode cX2_sameValues 5 = .ok (.if_icmp .ge 26, 3) := by decide +kernel
theorem dX2_sameValues_8 : decode cX2_sameValues 8 = .ok (.aload_n 0, 1) := by decide +kernel
theorem dX2_sameValues_9 : decode cX2_sameValues 9 = .ok (.getfield 15, 3) := by decide +kernel
theorem dX2_sameValues_12 : decode cX2_sameValues 12 = .ok (.iload_n 2, 1) := by decide +kernel
theorem dX2_sameValues_13 : decode cX2_sameValues 13 = .ok (.iaload, 1) := by decide +kernel
theorem dX2_sameValues_14 : decode cX2_sameValues 14 = .ok (.aload_n 1, 1) := by decide +kernel
theorem dX2_sameValues_15 : decode cX2_sameValues 15 = .ok (.getfield 15, 3) := by decide +kernel
theorem dX2_sameValues_18 : decode cX2_sameValues 18 = .ok (.iload_n 2, 1) := by decide +kernel
theorem dX2_sameValues_19 : decode cX2_sameValues 19 = .ok (.iaload, 1) := by decide +kernel
theorem dX2_sameValues_20 : decode cX2_sameValues 20 = .ok (.if_icmp .eq 5, 3) := by decide +kernel
theorem dX2_sameValues_23 : decode cX2_sameValues 23 = .ok (.iconst 0, 1) := by decide +kernel
theorem dX2_sameValues_24 : decode cX2_sameValues 24 = .ok (.ireturn, 1) := by decide +kernel
theorem dX2_sameValues_25 : decode cX2_sameValues 25 = .ok (.iinc 2 1, 3) := by decide +kernel
theorem dX2_sameValues_28 : decode cX2_sameValues 28 = .ok (.goto (-26), 3) := by decide +kernel
theorem dX2_sameValues_31 : decode cX2_sameValues 31 = .ok (.iconst 1, 1) := by decide +kernel
theorem dX2_sameValues_32 : decode cX2_sameValues 32 = .ok (.ireturn, 1) := by decide +kernel
theorem dX2_stepOver_0 : decode cX2_stepOver 0 = .ok (.aload_n 1, 1) := by decide +kernel
theorem dX2_stepOver_1 : decode cX2_stepOver 1 = .ok (.iload_n 2, 1) := by decide +kernel
theorem dX2_stepOver_2 : decode cX2_stepOver 2 = .ok (.iconst 1, 1) := by decide +kernel
theorem dX2_stepOver_3 : decode cX2_stepOver 3 = .ok (.invokevirtual 41, 3) := by decide +kernel
theorem dX2_stepOver_6 : decode cX2_stepOver 6 = .ok (.istore_n 3, 1) := by decide +kernel
theorem dX2_stepOver_7 : decode cX2_stepOver 7 = .ok (.aload_n 0, 1) := by decide +kernel
theorem dX2_stepOver_8 : decode cX2_stepOver 8 = .ok (.aload_n 1, 1) := by decide +kernel
theorem dX2_stepOver_9 : decode cX2_stepOver 9 = .ok (.iload_n 2, 1) := by decide +kernel
theorem dX2_stepOver_10 : decode cX2_stepOver 10 = .ok (.iconst 2, 1) := by decide +kernel
theorem dX2_stepOver_11 : decode cX2_stepOver 11 = .ok (.invokevirtual 41, 3) := by decide +kernel
theorem dX2_stepOver_14 : decode cX2_stepOver 14 = .ok (.invokevirtual 45, 3) := by decide +kernel
theorem dX2_stepOver_17 : decode cX2_stepOver 17 = .ok (.istore 4, 2) := by decide +kernel
theorem dX2_stepOver_19 : decode cX2_stepOver 19 = .ok (.aload_n 0, 1) := by decide +kernel
theorem dX2_stepOver_20 : decode cX2_stepOver 20 = .ok (.aload_n 1, 1) := by decide +kernel
theorem dX2_stepOver_21 : decode cX2_stepOver 21 = .ok (.iload_n 2, 1) := by decide +kernel
theorem dX2_stepOver_22 : decode cX2_stepOver 22 = .ok (.iconst 3, 1) := by decide +kernel
theorem dX2_stepOver_23 : decode cX2_stepOver 23 = .ok (.invokevirtual 41, 3) := by decide +kernel
theorem dX2_stepOver_26 : decode cX2_stepOver 26 = .ok (.invokevirtual 45, 3) := by decide +kernel
theorem dX2_stepOver_29 : decode cX2_stepOver 29 = .ok (.istore 5, 2) := by decide +kernel
theorem dX2_stepOver_31 : decode cX2_stepOver 31 = .ok (.aload_n 1, 1) := by decide +kernel
theorem dX2_stepOver_32 : decode cX2_stepOver 32 = .ok (.iload_n 2, 1) := by decide +kernel
theorem dX2_stepOver_33 : decode cX2_stepOver 33 = .ok (.iconst 4, 1) := by decide +kernel
theorem dX2_stepOver_34 : decode cX2_stepOver 34 = .ok (.invokevirtual 41, 3) := by decide +kernel
theorem dX2_stepOver_37 : decode cX2_stepOver 37 = .ok (.istore 6, 2) := by decide +kernel
theorem dX2_stepOver_39 : decode cX2_stepOver 39 = .ok (.aload_n 1, 1) := by decide +kernel
theorem dX2_stepOver_40 : decode cX2_stepOver 40 = .ok (.iload_n 2, 1) := by decide +kernel
theorem dX2_stepOver_41 : decode cX2_stepOver 41 = .ok (.iconst 0, 1) := by decide +kernel
theorem dX2_stepOver_42 : decode cX2_stepOver 42 = .ok (.invokevirtual 41, 3) := by decide +kernel
theorem dX2_stepOver_45 : decode cX2_stepOver 45 = .ok (.tableswitch 145 0 6 #[43, 53, 66, 79, 92, 110, 128], 43) := by decide +kernel
theorem dX2_stepOver_88 : decode cX2_stepOver 88 = .ok (.aload_n 0, 1) := by decide +kernel
theorem dX2_stepOver_89 : decode cX2_stepOver 89 = .ok (.iload_n 3, 1) := by decide +kernel
theorem dX2_stepOver_90 : decode cX2_stepOver 90 = .ok (.iload 6, 2) := by decide +kernel
theorem dX2_stepOver_92 : decode cX2_stepOver 92 = .ok (.invokevirtual 49, 3) := by decide +kernel
theorem dX2_stepOver_95 : decode cX2_stepOver 95 = .ok (.goto 95, 3) := by decide +kernel
theorem dX2_stepOver_98 : decode cX2_stepOver 98 = .ok (.aload_n 0, 1) := by decide +kernel
theorem dX2_stepOver_99 : decode cX2_stepOver 99 = .ok (.iload_n 3, 1) := by decide +kernel
theorem dX2_stepOver_100 : decode cX2_stepOver 100 = .ok (.iload 4, 2) := by decide +kernel
theorem dX2_stepOver_102 : decode cX2_stepOver 102 = .ok (.iload 5, 2) := by decide +kernel
theorem dX2_stepOver_104 : decode cX2_stepOver 104 = .ok (.iadd, 1) := by decide +kernel
theorem dX2_stepOver_105 : decode cX2_stepOver 105 = .ok (.invokevirtual 49, 3) := by decide +kernel
theorem dX2_stepOver_108 : decode cX2_stepOver 108 = .ok (.goto 82, 3) := by decide +kernel
theorem dX2_stepOver_111 : decode cX2_stepOver 111 = .ok (.aload_n 0, 1) := by decide +kernel
theorem dX2_stepOver_112 : decode cX2_stepOver 112 = .ok (.iload_n 3, 1) := by decide +kernel
theorem dX2_stepOver_113 : decode cX2_stepOver 113 = .ok (.iload 4, 2) := by decide +kernel
theorem dX2_stepOver_115 : decode cX2_stepOver 115 = .ok (.iload 5, 2) := by decide +kernel
theorem dX2_stepOver_117 : decode cX2_stepOver 117 = .ok (.isub, 1) := by decide +kernel
theorem dX2_stepOver_118 : decode cX2_stepOver 118 = .ok (.invokevirtual 49, 3) := by decide +kernel
theorem dX2_stepOver_121 : decode cX2_stepOver 121 = .ok (.goto 69, 3) := by decide +kernel
theorem dX2_stepOver_124 : decode cX2_stepOver 124 = .ok (.aload_n 0, 1) := by decide +kernel
theorem dX2_stepOver_125 : decode cX2_stepOver 125 = .ok (.iload_n 3, 1) := by decide +kernel
theorem dX2_stepOver_126 : decode cX2_stepOver 126 = .ok (.iload 4, 2) := by decide +kernel
theorem dX2_stepOver_128 : decode cX2_stepOver 128 = .ok (.iload 5, 2) := by decide +kernel
theorem dX2_stepOver_130 : decode cX2_stepOver 130 = .ok (.imul, 1) := by decide +kernel
theorem dX2_stepOver_131 : decode cX2_stepOver 131 = .ok (.invokevirtual 49, 3) := by decide +kernel
theorem dX2_stepOver_134 : decode cX2_stepOver 134 = .ok (.goto 56, 3) := by decide +kernel
theorem dX2_stepOver_137 : decode cX2_stepOver 137 = .ok (.aload_n 0, 1) := by decide +kernel
theorem dX2_stepOver_138 : decode cX2_stepOver 138 = .ok (.iload_n 3, 1) := by decide +kernel
theorem dX2_stepOver_139 : decode cX2_stepOver 139 = .ok (.aload_n 0, 1) := by decide +kernel
theorem dX2_stepOver_140 : decode cX2_stepOver 140 = .ok (.getfield 15, 3) := by decide +kernel
theorem dX2_stepOver_143 : decode cX2_stepOver 143 = .ok (.iload 4, 2) := by decide +kernel
theorem dX2_stepOver_145 : decode cX2_stepOver 145 = .ok (.invokestatic 53, 3) := by decide +kernel
theorem dX2_stepOver_148 : decode cX2_stepOver 148 = .ok (.iaload, 1) := by decide +kernel
theorem dX2_stepOver_149 : decode cX2_stepOver 149 = .ok (.invokevirtual 49, 3) := by decide +kernel
theorem dX2_stepOver_152 : decode cX2_stepOver 152 = .ok (.goto 38, 3) := by decide +kernel
theorem dX2_stepOver_155 : decode cX2_stepOver 155 = .ok (.aload_n 0, 1) := by decide +kernel
theorem dX2_stepOver_156 : decode cX2_stepOver 156 = .ok (.getfield 15, 3) := by decide +kernel
theorem dX2_stepOver_159 : decode cX2_stepOver 159 = .ok (.aload_n 0, 1) := by decide +kernel
theorem dX2_stepOver_160 : decode cX2_stepOver 160 = .ok (.iload_n 3, 1) := by decide +kernel
theorem dX2_stepOver_161 : decode cX2_stepOver 161 = .ok (.invokevirtual 45, 3) := by decide +kernel
theorem dX2_stepOver_164 : decode cX2_stepOver 164 = .ok (.invokestatic 53, 3) := by decide +kernel
theorem dX2_stepOver_167 : decode cX2_stepOver 167 = .ok (.iload 4, 2) := by decide +kernel
theorem dX2_stepOver_169 : decode cX2_stepOver 169 = .ok (.iastore, 1) := by decide +kernel
theorem dX2_stepOver_170 : decode cX2_stepOver 170 = .ok (.goto 20, 3) := by decide +kernel
theorem dX2_stepOver_173 : decode cX2_stepOver 173 = .ok (.aload_n 0, 1) := by decide +kernel
theorem dX2_stepOver_174 : decode cX2_stepOver 174 = .ok (.iload_n 3, 1) := by decide +kernel
theorem dX2_stepOver_175 : decode cX2_stepOver 175 = .ok (.invokevirtual 45, 3) := by decide +kernel
theorem dX2_stepOver_178 : decode cX2_stepOver 178 = .ok (.ifCond .eq 8, 3) := by decide +kernel
theorem dX2_stepOver_181 : decode cX2_stepOver 181 = .ok (.iload 6, 2) := by decide +kernel
theorem dX2_stepOver_183 : decode cX2_stepOver 183 = .ok (.goto 6, 3) := by decide +kernel
theorem dX2_stepOver_186 : decode cX2_stepOver 186 = .ok (.iload_n 2, 1) := by decide +kernel
theorem dX2_stepOver_187 : decode cX2_stepOver 187 = .ok (.iconst 1, 1) := by decide +kernel
theorem dX2_stepOver_188 : decode cX2_stepOver 188 = .ok (.iadd, 1) := by decide +kernel
theorem dX2_stepOver_189 : decode cX2_stepOver 189 = .ok (.ireturn, 1) := by decide +kernel
theorem dX2_stepOver_190 : decode cX2_stepOver 190 = .ok (.iload_n 2, 1) := by decide +kernel
theorem dX2_stepOver_191 : decode cX2_stepOver 191 = .ok (.iconst 1, 1) := by decide +kernel
theorem dX2_stepOver_192 : decode cX2_stepOver 192 = .ok (.iadd, 1) := by decide +kernel
theorem dX2_stepOver_193 : decode cX2_stepOver 193 = .ok (.ireturn, 1) := by decide +kernel
theorem dX2_valueOf_0 : decode cX2_valueOf 0 = .ok (.iload_n 1, 1) := by decide +kernel
theorem dX2_valueOf_1 : decode cX2_valueOf 1 = .ok (.ifCond .lt 17, 3) := by decide +kernel
theorem dX2_valueOf_4 : decode cX2_valueOf 4 = .ok (.iload_n 1, 1) := by decide +kernel
theorem dX2_valueOf_5 : decode cX2_valueOf 5 = .ok (.iconst 4, 1) := by decide +kernel
theorem dX2_valueOf_6 : decode cX2_valueOf 6 = .ok (.if_icmp .ge 12, 3) := by decide +kernel
theorem dX2_valueOf_9 : decode cX2_valueOf 9 = .ok (.aload_n 0, 1) := by decide +kernel
theorem dX2_valueOf_10 : decode cX2_valueOf 10 = .ok (.getfield 15, 3) := by decide +kernel
theorem dX2_valueOf_13 : decode cX2_valueOf 13 = .ok (.iload_n 1, 1) := by decide +kernel
theorem dX2_valueOf_14 : decode cX2_valueOf 14 = .ok (.iaload, 1) := by decide +kernel
theorem dX2_valueOf_15 : decode cX2_valueOf 15 = .ok (.goto 4, 3) := by decide +kernel
theorem dX2_valueOf_18 : decode cX2_valueOf 18 = .ok (.iconst 0, 1) := by decide +kernel
theorem dX2_valueOf_19 : decode cX2_valueOf 19 = .ok (.ireturn, 1) := by decide +kernel
theorem dX2_give_0 : decode cX2_give 0 = .ok (.iload_n 1, 1) := by decide +kernel
theorem dX2_give_1 : decode cX2_give 1 = .ok (.ifCond .lt 21, 3) := by decide +kernel
theorem dX2_give_4 : decode cX2_give 4 = .ok (.iload_n 1, 1) := by decide +kernel
theorem dX2_give_5 : decode cX2_give 5 = .ok (.iconst 4, 1) := by decide +kernel
theorem dX2_give_6 : decode cX2_give 6 = .ok (.if_icmp .ge 16, 3) := by decide +kernel
theorem dX2_give_9 : decode cX2_give 9 = .ok (.aload_n 0, 1) := by decide +kernel
theorem dX2_give_10 : decode cX2_give 10 = .ok (.getfield 15, 3) := by decide +kernel
theorem dX2_give_13 : decode cX2_give 13 = .ok (.iload_n 1, 1) := by decide +kernel
theorem dX2_give_14 : decode cX2_give 14 = .ok (.iload_n 2, 1) := by decide +kernel
theorem dX2_give_15 : decode cX2_give 15 = .ok (.sipush 1000, 3) := by decide +kernel
theorem dX2_give_18 : decode cX2_give 18 = .ok (.invokestatic 56, 3) := by decide +kernel
theorem dX2_give_21 : decode cX2_give 21 = .ok (.iastore, 1) := by decide +kernel
theorem dX2_give_22 : decode cX2_give 22 = .ok (.return_, 1) := by decide +kernel
theorem dX2_placeOfCell_0 : decode cX2_placeOfCell 0 = .ok (.iconst 4, 1) := by decide +kernel
theorem dX2_placeOfCell_1 : decode cX2_placeOfCell 1 = .ok (.iload_n 0, 1) := by decide +kernel
theorem dX2_placeOfCell_2 : decode cX2_placeOfCell 2 = .ok (.bipush 8, 2) := by decide +kernel
theorem dX2_placeOfCell_4 : decode cX2_placeOfCell 4 = .ok (.invokestatic 56, 3) := by decide +kernel
theorem dX2_placeOfCell_7 : decode cX2_placeOfCell 7 = .ok (.iadd, 1) := by decide +kernel
theorem dX2_placeOfCell_8 : decode cX2_placeOfCell 8 = .ok (.ireturn, 1) := by decide +kernel
theorem dX3_init_0 : decode cX3_init 0 = .ok (.aload_n 0, 1) := by decide +kernel
theorem dX3_init_1 : decode cX3_init 1 = .ok (.invokespecial 3, 3) := by decide +kernel
theorem dX3_init_4 : decode cX3_init 4 = .ok (.aload_n 0, 1) := by decide +kernel
theorem dX3_init_5 : decode cX3_init 5 = .ok (.bipush 60, 2) := by decide +kernel
theorem dX3_init_7 : decode cX3_init 7 = .ok (.newarray .int, 2) := by decide +kernel
theorem dX3_init_9 : decode cX3_init 9 = .ok (.putfield 9, 3) := by decide +kernel
theorem dX3_init_12 : decode cX3_init 12 = .ok (.return_, 1) := by decide +kernel
theorem dX3_told_0 : decode cX3_told 0 = .ok (.iload_n 1, 1) := by decide +kernel
theorem dX3_told_1 : decode cX3_told 1 = .ok (.ifCond .lt 20, 3) := by decide +kernel
theorem dX3_told_4 : decode cX3_told 4 = .ok (.iload_n 1, 1) := by decide +kernel
theorem dX3_told_5 : decode cX3_told 5 = .ok (.aload_n 0, 1) := by decide +kernel
theorem dX3_told_6 : decode cX3_told 6 = .ok (.getfield 15, 3) := by decide +kernel
theorem dX3_told_9 : decode cX3_told 9 = .ok (.if_icmp .ge 12, 3) := by decide +kernel
theorem dX3_told_12 : decode cX3_told 12 = .ok (.iload_n 2, 1) := by decide +kernel
theorem dX3_told_13 : decode cX3_told 13 = .ok (.ifCond .lt 8, 3) := by decide +kernel
theorem dX3_told_16 : decode cX3_told 16 = .ok (.iload_n 2, 1) := by decide +kernel
theorem dX3_told_17 : decode cX3_told 17 = .ok (.iconst 5, 1) := by decide +kernel
theorem dX3_told_18 : decode cX3_told 18 = .ok (.if_icmp .lt 6, 3) := by decide +kernel
theorem dX3_told_21 : decode cX3_told 21 = .ok (.bipush (-6), 2) := by decide +kernel
theorem dX3_told_23 : decode cX3_told 23 = .ok (.ireturn, 1) := by decide +kernel
theorem dX3_told_24 : decode cX3_told 24 = .ok (.aload_n 0, 1) := by decide +kernel
theorem dX3_told_25 : decode cX3_told 25 = .ok (.getfield 9, 3) := by decide +kernel
theorem dX3_told_28 : decode cX3_told 28 = .ok (.iload_n 1, 1) := by decide +kernel
theorem dX3_told_29 : decode cX3_told 29 = .ok (.iconst 5, 1) := by decide +kernel
theorem dX3_told_30 : decode cX3_told 30 = .ok (.imul, 1) := by decide +kernel
theorem dX3_told_31 : decode cX3_told 31 = .ok (.iload_n 2, 1) := by decide +kernel
theorem dX3_told_32 : decode cX3_told 32 = .ok (.iadd, 1) := by decide +kernel
theorem dX3_told_33 : decode cX3_told 33 = .ok (.iaload, 1) := by decide +kernel
theorem dX3_told_34 : decode cX3_told 34 = .ok (.ireturn, 1) := by decide +kernel
theorem dX3_add_0 : decode cX3_add 0 = .ok (.aload_n 0, 1) := by decide +kernel
theorem dX3_add_1 : decode cX3_add 1 = .ok (.getfield 15, 3) := by decide +kernel
theorem dX3_add_4 : decode cX3_add 4 = .ok (.ifCond .lt 12, 3) := by decide +kernel
theorem dX3_add_7 : decode cX3_add 7 = .ok (.aload_n 0, 1) := by decide +kernel
theorem dX3_add_8 : decode cX3_add 8 = .ok (.getfield 15, 3) := by decide +kernel
theorem dX3_add_11 : decode cX3_add 11 = .ok (.bipush 12, 2) := by decide +kernel
theorem dX3_add_13 : decode cX3_add 13 = .ok (.if_icmp .lt 4, 3) := by decide +kernel
theorem dX3_add_16 : decode cX3_add 16 = .ok (.return_, 1) := by decide +kernel
theorem dX3_add_17 : decode cX3_add 17 = .ok (.aload_n 0, 1) := by decide +kernel
theorem dX3_add_18 : decode cX3_add 18 = .ok (.getfield 15, 3) := by decide +kernel
theorem dX3_add_21 : decode cX3_add 21 = .ok (.iconst 5, 1) := by decide +kernel
theorem dX3_add_22 : decode cX3_add 22 = .ok (.imul, 1) := by decide +kernel
theorem dX3_add_23 : decode cX3_add 23 = .ok (.istore 6, 2) := by decide +kernel
theorem dX3_add_25 : decode cX3_add 25 = .ok (.aload_n 0, 1) := by decide +kernel
theorem dX3_add_26 : decode cX3_add 26 = .ok (.getfield 9, 3) := by decide +kernel
theorem dX3_add_29 : decode cX3_add 29 = .ok (.iload 6, 2) := by decide +kernel
theorem dX3_add_31 : decode cX3_add 31 = .ok (.iconst 0, 1) := by decide +kernel
theorem dX3_add_32 : decode cX3_add 32 = .ok (.iadd, 1) := by decide +kernel
theorem dX3_add_33 : decode cX3_add 33 = .ok (.iload_n 1, 1) := by decide +kernel
theorem dX3_add_34 : decode cX3_add 34 = .ok (.iastore, 1) := by decide +kernel
theorem dX3_add_35 : decode cX3_add 35 = .ok (.aload_n 0, 1) := by decide +kernel
theorem dX3_add_36 : decode cX3_add 36 = .ok (.getfield 9, 3) := by decide +kernel
theorem dX3_add_39 : decode cX3_add 39 = .ok (.iload 6, 2) := by decide +kernel
theorem dX3_add_41 : decode cX3_add 41 = .ok (.iconst 1, 1) := by decide +kernel
theorem dX3_add_42 : decode cX3_add 42 = .ok (.iadd, 1) := by decide +kernel
theorem dX3_add_43 : decode cX3_add 43 = .ok (.iload_n 2, 1) := by decide +kernel
theorem dX3_add_44 : decode cX3_add 44 = .ok (.iastore, 1) := by decide +kernel
theorem dX3_add_45 : decode cX3_add 45 = .ok (.aload_n 0, 1) := by decide +kernel
theorem dX3_add_46 : decode cX3_add 46 = .ok (.getfield 9, 3) := by decide +kernel
theorem dX3_add_49 : decode cX3_add 49 = .ok (.iload 6, 2) := by decide +kernel
theorem dX3_add_51 : decode cX3_add 51 = .ok (.iconst 2, 1) := by decide +kernel
theorem dX3_add_52 : decode cX3_add 52 = .ok (.iadd, 1) := by decide +kernel
theorem dX3_add_53 : decode cX3_add 53 = .ok (.iload_n 3, 1) := by decide +kernel
theorem dX3_add_54 : decode cX3_add 54 = .ok (.iastore, 1) := by decide +kernel
theorem dX3_add_55 : decode cX3_add 55 = .ok (.aload_n 0, 1) := by decide +kernel
theorem dX3_add_56 : decode cX3_add 56 = .ok (.getfield 9, 3) := by decide +kernel
theorem dX3_add_59 : decode cX3_add 59 = .ok (.iload 6, 2) := by decide +kernel
theorem dX3_add_61 : decode cX3_add 61 = .ok (.iconst 3, 1) := by decide +kernel
theorem dX3_add_62 : decode cX3_add 62 = .ok (.iadd, 1) := by decide +kernel
theorem dX3_add_63 : decode cX3_add 63 = .ok (.iload 4, 2) := by decide +kernel
theorem dX3_add_65 : decode cX3_add 65 = .ok (.iastore, 1) := by decide +kernel
theorem dX3_add_66 : decode cX3_add 66 = .ok (.aload_n 0, 1) := by decide +kernel
theorem dX3_add_67 : decode cX3_add 67 = .ok (.getfield 9, 3) := by decide +kernel
theorem dX3_add_70 : decode cX3_add 70 = .ok (.iload 6, 2) := by decide +kernel
theorem dX3_add_72 : decode cX3_add 72 = .ok (.iconst 4, 1) := by decide +kernel
theorem dX3_add_73 : decode cX3_add 73 = .ok (.iadd, 1) := by decide +kernel
theorem dX3_add_74 : decode cX3_add 74 = .ok (.iload 5, 2) := by decide +kernel
theorem dX3_add_76 : decode cX3_add 76 = .ok (.iastore, 1) := by decide +kernel
theorem dX3_add_77 : decode cX3_add 77 = .ok (.aload_n 0, 1) := by decide +kernel
theorem dX3_add_78 : decode cX3_add 78 = .ok (.dup, 1) := by decide +kernel
theorem dX3_add_79 : decode cX3_add 79 = .ok (.getfield 15, 3) := by decide +kernel
theorem dX3_add_82 : decode cX3_add 82 = .ok (.iconst 1, 1) := by decide +kernel
theorem dX3_add_83 : decode cX3_add 83 = .ok (.iadd, 1) := by decide +kernel
theorem dX3_add_84 : decode cX3_add 84 = .ok (.putfield 15, 3) := by decide +kernel
theorem dX3_add_87 : decode cX3_add 87 = .ok (.return_, 1) := by decide +kernel
theorem dX3_copyFrom_0 : decode cX3_copyFrom 0 = .ok (.aload_n 0, 1) := by decide +kernel
theorem dX3_copyFrom_1 : decode cX3_copyFrom 1 = .ok (.aload_n 1, 1) := by decide +kernel
theorem dX3_copyFrom_2 : decode cX3_copyFrom 2 = .ok (.getfield 15, 3) := by decide +kernel
theorem dX3_copyFrom_5 : decode cX3_copyFrom 5 = .ok (.putfield 15, 3) := by decide +kernel
theorem dX3_copyFrom_8 : decode cX3_copyFrom 8 = .ok (.aload_n 1, 1) := by decide +kernel
theorem dX3_copyFrom_9 : decode cX3_copyFrom 9 = .ok (.getfield 9, 3) := by decide +kernel
theorem dX3_copyFrom_12 : decode cX3_copyFrom 12 = .ok (.iconst 0, 1) := by decide +kernel
theorem dX3_copyFrom_13 : decode cX3_copyFrom 13 = .ok (.aload_n 0, 1) := by decide +kernel
theorem dX3_copyFrom_14 : decode cX3_copyFrom 14 = .ok (.getfield 9, 3) := by decide +kernel
theorem dX3_copyFrom_17 : decode cX3_copyFrom 17 = .ok (.iconst 0, 1) := by decide +kernel
theorem dX3_copyFrom_18 : decode cX3_copyFrom 18 = .ok (.bipush 60, 2) := by decide +kernel
theorem dX3_copyFrom_20 : decode cX3_copyFrom 20 = .ok (.invokestatic 19, 3) := by decide +kernel
theorem dX3_copyFrom_23 : decode cX3_copyFrom 23 = .ok (.return_, 1) := by decide +kernel
theorem dX3_exchangeWithNext_0 : decode cX3_exchangeWithNext 0 = .ok (.iload_n 1, 1) := by decide +kernel
theorem dX3_exchangeWithNext_1 : decode cX3_exchangeWithNext 1 = .ok (.ifCond .lt 13, 3) := by decide +kernel
theorem dX3_exchangeWithNext_4 : decode cX3_exchangeWithNext 4 = .ok (.iload_n 1, 1) := by decide +kernel
theorem dX3_exchangeWithNext_5 : decode cX3_exchangeWithNext 5 = .ok (.iconst 1, 1) := by decide +kernel
theorem dX3_exchangeWithNext_6 : decode cX3_exchangeWithNext 6 = .ok (.iadd, 1) := by decide +kernel
theorem dX3_exchangeWithNext_7 : decode cX3_exchangeWithNext 7 = .ok (.aload_n 0, 1) := by decide +kernel
theorem dX3_exchangeWithNext_8 : decode cX3_exchangeWithNext 8 = .ok (.getfield 15, 3) := by decide +kernel
theorem dX3_exchangeWithNext_11 : decode cX3_exchangeWithNext 11 = .ok (.if_icmp .lt 4, 3) := by decide +kernel
theorem dX3_exchangeWithNext_14 : decode cX3_exchangeWithNext 14 = .ok (.return_, 1) := by decide +kernel
theorem dX3_exchangeWithNext_15 : decode cX3_exchangeWithNext 15 = .ok (.iload_n 1, 1) := by decide +kernel
theorem dX3_exchangeWithNext_16 : decode cX3_exchangeWithNext 16 = .ok (.iconst 5, 1) := by decide +kernel
theorem dX3_exchangeWithNext_17 : decode cX3_exchangeWithNext 17 = .ok (.imul, 1) := by decide +kernel
theorem dX3_exchangeWithNext_18 : decode cX3_exchangeWithNext 18 = .ok (.istore_n 2, 1) := by decide +kernel
theorem dX3_exchangeWithNext_19 : decode cX3_exchangeWithNext 19 = .ok (.iconst 0, 1) := by decide +kernel
theorem dX3_exchangeWithNext_20 : decode cX3_exchangeWithNext 20 = .ok (.istore_n 3, 1) := by decide +kernel
theorem dX3_exchangeWithNext_21 : decode cX3_exchangeWithNext 21 = .ok (.iload_n 3, 1) := by decide +kernel
theorem dX3_exchangeWithNext_22 : decode cX3_exchangeWithNext 22 = .ok (.iconst 5, 1) := by decide +kernel
theorem dX3_exchangeWithNext_23 : decode cX3_exchangeWithNext 23 = .ok (.if_icmp .ge 49, 3) := by decide +kernel
theorem dX3_exchangeWithNext_26 : decode cX3_exchangeWithNext 26 = .ok (.aload_n 0, 1) := by decide +kernel
theorem dX3_exchangeWithNext_27 : decode cX3_exchangeWithNext 27 = .ok (.getfield 9, 3) := by decide +kernel
theorem dX3_exchangeWithNext_30 : decode cX3_exchangeWithNext 30 = .ok (.iload_n 2, 1) := by decide +kernel
theorem dX3_exchangeWithNext_31 : decode cX3_exchangeWithNext 31 = .ok (.iload_n 3, 1) := by decide +kernel
theorem dX3_exchangeWithNext_32 : decode cX3_exchangeWithNext 32 = .ok (.iadd, 1) := by decide +kernel
theorem dX3_exchangeWithNext_33 : decode cX3_exchangeWithNext 33 = .ok (.iaload, 1) := by decide +kernel
theorem dX3_exchangeWithNext_34 : decode cX3_exchangeWithNext 34 = .ok (.istore 4, 2) := by decide +kernel
theorem dX3_exchangeWithNext_36 : decode cX3_exchangeWithNext 36 = .ok (.aload_n 0, 1) := by decide +kernel
theorem dX3_exchangeWithNext_37 : decode cX3_exchangeWithNext 37 = .ok (.getfield 9, 3) := by decide +kernel
theorem dX3_exchangeWithNext_40 : decode cX3_exchangeWithNext 40 = .ok (.iload_n 2, 1) := by decide +kernel
theorem dX3_exchangeWithNext_41 : decode cX3_exchangeWithNext 41 = .ok (.iload_n 3, 1) := by decide +kernel
theorem dX3_exchangeWithNext_42 : decode cX3_exchangeWithNext 42 = .ok (.iadd, 1) := by decide +kernel
theorem dX3_exchangeWithNext_43 : decode cX3_exchangeWithNext 43 = .ok (.aload_n 0, 1) := by decide +kernel
theorem dX3_exchangeWithNext_44 : decode cX3_exchangeWithNext 44 = .ok (.getfield 9, 3) := by decide +kernel
theorem dX3_exchangeWithNext_47 : decode cX3_exchangeWithNext 47 = .ok (.iload_n 2, 1) := by decide +kernel
theorem dX3_exchangeWithNext_48 : decode cX3_exchangeWithNext 48 = .ok (.iconst 5, 1) := by decide +kernel
theorem dX3_exchangeWithNext_49 : decode cX3_exchangeWithNext 49 = .ok (.iadd, 1) := by decide +kernel
theorem dX3_exchangeWithNext_50 : decode cX3_exchangeWithNext 50 = .ok (.iload_n 3, 1) := by decide +kernel
theorem dX3_exchangeWithNext_51 : decode cX3_exchangeWithNext 51 = .ok (.iadd, 1) := by decide +kernel
theorem dX3_exchangeWithNext_52 : decode cX3_exchangeWithNext 52 = .ok (.iaload, 1) := by decide +kernel
theorem dX3_exchangeWithNext_53 : decode cX3_exchangeWithNext 53 = .ok (.iastore, 1) := by decide +kernel
theorem dX3_exchangeWithNext_54 : decode cX3_exchangeWithNext 54 = .ok (.aload_n 0, 1) := by decide +kernel
theorem dX3_exchangeWithNext_55 : decode cX3_exchangeWithNext 55 = .ok (.getfield 9, 3) := by decide +kernel
theorem dX3_exchangeWithNext_58 : decode cX3_exchangeWithNext 58 = .ok (.iload_n 2, 1) := by decide +kernel
theorem dX3_exchangeWithNext_59 : decode cX3_exchangeWithNext 59 = .ok (.iconst 5, 1) := by decide +kernel
theorem dX3_exchangeWithNext_60 : decode cX3_exchangeWithNext 60 = .ok (.iadd, 1) := by decide +kernel
theorem dX3_exchangeWithNext_61 : decode cX3_exchangeWithNext 61 = .ok (.iload_n 3, 1) := by decide +kernel
theorem dX3_exchangeWithNext_62 : decode cX3_exchangeWithNext 62 = .ok (.iadd, 1) := by decide +kernel
theorem dX3_exchangeWithNext_63 : decode cX3_exchangeWithNext 63 = .ok (.iload 4, 2) := by decide +kernel
theorem dX3_exchangeWithNext_65 : decode cX3_exchangeWithNext 65 = .ok (.iastore, 1) := by decide +kernel
theorem dX3_exchangeWithNext_66 : decode cX3_exchangeWithNext 66 = .ok (.iinc 3 1, 3) := by decide +kernel
theorem dX3_exchangeWithNext_69 : decode cX3_exchangeWithNext 69 = .ok (.goto (-48), 3) := by decide +kernel
theorem dX3_exchangeWithNext_72 : decode cX3_exchangeWithNext 72 = .ok (.return_, 1) := by decide +kernel
theorem dX3_mayMove_0 : decode cX3_mayMove 0 = .ok (.aload_n 0, 1) := by decide +kernel
theorem dX3_mayMove_1 : decode cX3_mayMove 1 = .ok (.iload_n 1, 1) := by decide +kernel
theorem dX3_mayMove_2 : decode cX3_mayMove 2 = .ok (.iconst 0, 1) := by decide +kernel
theorem dX3_mayMove_3 : decode cX3_mayMove 3 = .ok (.invokevirtual 25, 3) := by decide +kernel
theorem dX3_mayMove_6 : decode cX3_mayMove 6 = .ok (.bipush 6, 2) := by decide +kernel
theorem dX3_mayMove_8 : decode cX3_mayMove 8 = .ok (.if_icmp .ne 5, 3) := by decide +kernel
theorem dX3_mayMove_11 : decode cX3_mayMove 11 = .ok (.iconst 0, 1) := by decide +kernel
theorem dX3_mayMove_12 : decode cX3_mayMove 12 = .ok (.ireturn, 1) := by decide +kernel
theorem dX3_mayMove_13 : decode cX3_mayMove 13 = .ok (.iconst 0, 1) := by decide +kernel
theorem dX3_mayMove_14 : decode cX3_mayMove 14 = .ok (.istore_n 2, 1) := by decide +kernel
theorem dX3_mayMove_15 : decode cX3_mayMove 15 = .ok (.iload_n 2, 1) := by decide +kernel
theorem dX3_mayMove_16 : decode cX3_mayMove 16 = .ok (.aload_n 0, 1) := by decide +kernel
theorem dX3_mayMove_17 : decode cX3_mayMove 17 = .ok (.getfield 15, 3) := by decide +kernel
theorem dX3_mayMove_20 : decode cX3_mayMove 20 = .ok (.if_icmp .ge 32, 3) := by decide +kernel
theorem dX3_mayMove_23 : decode cX3_mayMove 23 = .ok (.aload_n 0, 1) := by decide +kernel
theorem dX3_mayMove_24 : decode cX3_mayMove 24 = .ok (.iload_n 2, 1) := by decide +kernel
theorem dX3_mayMove_25 : decode cX3_mayMove 25 = .ok (.iconst 0, 1) := by decide +kernel
theorem dX3_mayMove_26 : decode cX3_mayMove 26 = .ok (.invokevirtual 25, 3) := by decide +kernel
theorem dX3_mayMove_29 : decode cX3_mayMove 29 = .ok (.bipush 6, 2) := by decide +kernel
theorem dX3_mayMove_31 : decode cX3_mayMove 31 = .ok (.if_icmp .ne 15, 3) := by decide +kernel
theorem dX3_mayMove_34 : decode cX3_mayMove 34 = .ok (.aload_n 0, 1) := by decide +kernel
theorem dX3_mayMove_35 : decode cX3_mayMove 35 = .ok (.iload_n 2, 1) := by decide +kernel
theorem dX3_mayMove_36 : decode cX3_mayMove 36 = .ok (.iconst 4, 1) := by decide +kernel
theorem dX3_mayMove_37 : decode cX3_mayMove 37 = .ok (.invokevirtual 25, 3) := by decide +kernel
theorem dX3_mayMove_40 : decode cX3_mayMove 40 = .ok (.iload_n 1, 1) := by decide +kernel
theorem dX3_mayMove_41 : decode cX3_mayMove 41 = .ok (.if_icmp .ne 5, 3) := by decide +kernel
theorem dX3_mayMove_44 : decode cX3_mayMove 44 = .ok (.iconst 0, 1) := by decide +kernel
theorem dX3_mayMove_45 : decode cX3_mayMove 45 = .ok (.ireturn, 1) := by decide +kernel
theorem dX3_mayMove_46 : decode cX3_mayMove 46 = .ok (.iinc 2 1, 3) := by decide +kernel
theorem dX3_mayMove_49 : decode cX3_mayMove 49 = .ok (.goto (-34), 3) := by decide +kernel
theorem dX3_mayMove_52 : decode cX3_mayMove 52 = .ok (.iconst 1, 1) := by decide +kernel
theorem dX3_mayMove_53 : decode cX3_mayMove 53 = .ok (.ireturn, 1) := by decide +kernel
theorem dX3_roomOf_0 : decode cX3_roomOf 0 = .ok (.aload_n 0, 1) := by decide +kernel
theorem dX3_roomOf_1 : decode cX3_roomOf 1 = .ok (.iload_n 1, 1) := by decide +kernel
theorem dX3_roomOf_2 : decode cX3_roomOf 2 = .ok (.iconst 0, 1) := by decide +kernel
theorem dX3_roomOf_3 : decode cX3_roomOf 3 = .ok (.invokevirtual 25, 3) := by decide +kernel
theorem dX3_roomOf_6 : decode cX3_roomOf 6 = .ok (.tableswitch 30 3 5 #[26, 28, 28], 26) := by decide +kernel
theorem dX3_roomOf_32 : decode cX3_roomOf 32 = .ok (.iconst 0, 1) := by decide +kernel
theorem dX3_roomOf_33 : decode cX3_roomOf 33 = .ok (.ireturn, 1) := by decide +kernel
theorem dX3_roomOf_34 : decode cX3_roomOf 34 = .ok (.iconst 1, 1) := by decide +kernel
theorem dX3_roomOf_35 : decode cX3_roomOf 35 = .ok (.ireturn, 1) := by decide +kernel
theorem dX3_roomOf_36 : decode cX3_roomOf 36 = .ok (.bipush (-6), 2) := by decide +kernel
theorem dX3_roomOf_38 : decode cX3_roomOf 38 = .ok (.ireturn, 1) := by decide +kernel
theorem dX3_givenBy_0 : decode cX3_givenBy 0 = .ok (.aload_n 0, 1) := by decide +kernel
theorem dX3_givenBy_1 : decode cX3_givenBy 1 = .ok (.iload_n 1, 1) := by decide +kernel
theorem dX3_givenBy_2 : decode cX3_givenBy 2 = .ok (.iconst 0, 1) := by decide +kernel
theorem dX3_givenBy_3 : decode cX3_givenBy 3 = .ok (.invokevirtual 25, 3) := by decide +kernel
theorem dX3_givenBy_6 : decode cX3_givenBy 6 = .ok (.istore_n 2, 1) := by decide +kernel
theorem dX3_givenBy_7 : decode cX3_givenBy 7 = .ok (.iload_n 2, 1) := by decide +kernel
theorem dX3_givenBy_8 : decode cX3_givenBy 8 = .ok (.iconst 5, 1) := by decide +kernel
theorem dX3_givenBy_9 : decode cX3_givenBy 9 = .ok (.if_icmp .eq 9, 3) := by decide +kernel
theorem dX3_givenBy_12 : decode cX3_givenBy 12 = .ok (.iload_n 2, 1) := by decide +kernel
theorem dX3_givenBy_13 : decode cX3_givenBy 13 = .ok (.bipush 6, 2) := by decide +kernel
theorem dX3_givenBy_15 : decode cX3_givenBy 15 = .ok (.if_icmp .ne 8, 3) := by decide +kernel
theorem dX3_givenBy_18 : decode cX3_givenBy 18 = .ok (.bipush (-6), 2) := by decide +kernel
theorem dX3_givenBy_20 : decode cX3_givenBy 20 = .ok (.goto 9, 3) := by decide +kernel
theorem dX3_givenBy_23 : decode cX3_givenBy 23 = .ok (.aload_n 0, 1) := by decide +kernel
theorem dX3_givenBy_24 : decode cX3_givenBy 24 = .ok (.iload_n 1, 1) := by decide +kernel
theorem dX3_givenBy_25 : decode cX3_givenBy 25 = .ok (.iconst 1, 1) := by decide +kernel
theorem dX3_givenBy_26 : decode cX3_givenBy 26 = .ok (.invokevirtual 25, 3) := by decide +kernel
theorem dX3_givenBy_29 : decode cX3_givenBy 29 = .ok (.ireturn, 1) := by decide +kernel
theorem dX4_init_0 : decode cX4_init 0 = .ok (.aload_n 0, 1) := by decide +kernel
theorem dX4_init_1 : decode cX4_init 1 = .ok (.invokespecial 3, 3) := by decide +kernel
theorem dX4_init_4 : decode cX4_init 4 = .ok (.aload_n 0, 1) := by decide +kernel
theorem dX4_init_5 : decode cX4_init 5 = .ok (.new 9, 3) := by decide +kernel
theorem dX4_init_8 : decode cX4_init 8 = .ok (.dup, 1) := by decide +kernel
theorem dX4_init_9 : decode cX4_init 9 = .ok (.invokespecial 11, 3) := by decide +kernel
theorem dX4_init_12 : decode cX4_init 12 = .ok (.putfield 12, 3) := by decide +kernel
theorem dX4_init_15 : decode cX4_init 15 = .ok (.aload_n 0, 1) := by decide +kernel
theorem dX4_init_16 : decode cX4_init 16 = .ok (.aload_n 1, 1) := by decide +kernel
theorem dX4_init_17 : decode cX4_init 17 = .ok (.putfield 18, 3) := by decide +kernel
theorem dX4_init_20 : decode cX4_init 20 = .ok (.return_, 1) := by decide +kernel
theorem dX4_read_0 : decode cX4_read 0 = .ok (.aload_n 0, 1) := by decide +kernel
theorem dX4_read_1 : decode cX4_read 1 = .ok (.getfield 12, 3) := by decide +kernel
theorem dX4_read_4 : decode cX4_read 4 = .ok (.iconst 0, 1) := by decide +kernel
theorem dX4_read_5 : decode cX4_read 5 = .ok (.putfield 22, 3) := by decide +kernel
theorem dX4_read_8 : decode cX4_read 8 = .ok (.aload_n 0, 1) := by decide +kernel
theorem dX4_read_9 : decode cX4_read 9 = .ok (.iconst 0, 1) := by decide +kernel
theorem dX4_read_10 : decode cX4_read 10 = .ok (.putfield 26, 3) := by decide +kernel
theorem dX4_read_13 : decode cX4_read 13 = .ok (.aload_n 0, 1) := by decide +kernel
theorem dX4_read_14 : decode cX4_read 14 = .ok (.iconst 0, 1) := by decide +kernel
theorem dX4_read_15 : decode cX4_read 15 = .ok (.putfield 29, 3) := by decide +kernel
theorem dX4_read_18 : decode cX4_read 18 = .ok (.iconst 0, 1) := by decide +kernel
theorem dX4_read_19 : decode cX4_read 19 = .ok (.istore_n 1, 1) := by decide +kernel
theorem dX4_read_20 : decode cX4_read 20 = .ok (.iload_n 1, 1) := by decide +kernel
theorem dX4_read_21 : decode cX4_read 21 = .ok (.bipush 80, 2) := by decide +kernel
theorem dX4_read_23 : decode cX4_read 23 = .ok (.if_icmp .gt 62, 3) := by decide +kernel
theorem dX4_read_26 : decode cX4_read 26 = .ok (.aload_n 0, 1) := by decide +kernel
theorem dX4_read_27 : decode cX4_read 27 = .ok (.invokevirtual 32, 3) := by decide +kernel
theorem dX4_read_30 : decode cX4_read 30 = .ok (.ifCond .ne 8, 3) := by decide +kernel
theorem dX4_read_33 : decode cX4_read 33 = .ok (.aload_n 0, 1) := by decide +kernel
theorem dX4_read_34 : decode cX4_read 34 = .ok (.getfield 29, 3) := by decide +kernel
theorem dX4_read_37 : decode cX4_read 37 = .ok (.ireturn, 1) := by decide +kernel
theorem dX4_read_38 : decode cX4_read 38 = .ok (.aload_n 0, 1) := by decide +kernel
theorem dX4_read_39 : decode cX4_read 39 = .ok (.dup, 1) := by decide +kernel
theorem dX4_read_40 : decode cX4_read 40 = .ok (.getfield 26, 3) := by decide +kernel
theorem dX4_read_43 : decode cX4_read 43 = .ok (.iconst 1, 1) := by decide +kernel
theorem dX4_read_44 : decode cX4_read 44 = .ok (.iadd, 1) := by decide +kernel
theorem dX4_read_45 : decode cX4_read 45 = .ok (.putfield 26, 3) := by decide +kernel
theorem dX4_read_48 : decode cX4_read 48 = .ok (.aload_n 0, 1) := by decide +kernel
theorem dX4_read_49 : decode cX4_read 49 = .ok (.getfield 29, 3) := by decide +kernel
theorem dX4_read_52 : decode cX4_read 52 = .ok (.aload_n 0, 1) := by decide +kernel
theorem dX4_read_53 : decode cX4_read 53 = .ok (.getfield 18, 3) := by decide +kernel
theorem dX4_read_56 : decode cX4_read 56 = .ok (.getfield 36, 3) := by decide +kernel
theorem dX4_read_59 : decode cX4_read 59 = .ok (.if_icmp .ne 6, 3) := by decide +kernel
theorem dX4_read_62 : decode cX4_read 62 = .ok (.bipush (-6), 2) := by decide +kernel
theorem dX4_read_64 : decode cX4_read 64 = .ok (.ireturn, 1) := by decide +kernel
theorem dX4_read_65 : decode cX4_read 65 = .ok (.aload_n 0, 1) := by decide +kernel
theorem dX4_read_66 : decode cX4_read 66 = .ok (.bipush 59, 2) := by decide +kernel
theorem dX4_read_68 : decode cX4_read 68 = .ok (.invokevirtual 41, 3) := by decide +kernel
theorem dX4_read_71 : decode cX4_read 71 = .ok (.ifCond .ne 8, 3) := by decide +kernel
theorem dX4_read_74 : decode cX4_read 74 = .ok (.aload_n 0, 1) := by decide +kernel
theorem dX4_read_75 : decode cX4_read 75 = .ok (.getfield 29, 3) := by decide +kernel
theorem dX4_read_78 : decode cX4_read 78 = .ok (.ireturn, 1) := by decide +kernel
theorem dX4_read_79 : decode cX4_read 79 = .ok (.iinc 1 1, 3) := by decide +kernel
theorem dX4_read_82 : decode cX4_read 82 = .ok (.goto (-62), 3) := by decide +kernel
theorem dX4_read_85 : decode cX4_read 85 = .ok (.aload_n 0, 1) := by decide +kernel
theorem dX4_read_86 : decode cX4_read 86 = .ok (.getfield 29, 3) := by decide +kernel
theorem dX4_read_89 : decode cX4_read 89 = .ok (.ireturn, 1) := by decide +kernel
theorem dX4_readOrder_0 : decode cX4_readOrder 0 = .ok (.aload_n 0, 1) := by decide +kernel
theorem dX4_readOrder_1 : decode cX4_readOrder 1 = .ok (.bipush 91, 2) := by decide +kernel
theorem dX4_readOrder_3 : decode cX4_readOrder 3 = .ok (.invokevirtual 41, 3) := by decide +kernel
theorem dX4_readOrder_6 : decode cX4_readOrder 6 = .ok (.ifCond .eq 8, 3) := by decide +kernel
theorem dX4_readOrder_9 : decode cX4_readOrder 9 = .ok (.aload_n 0, 1) := by decide +kernel
theorem dX4_readOrder_10 : decode cX4_readOrder 10 = .ok (.invokevirtual 45, 3) := by decide +kernel
theorem dX4_readOrder_13 : decode cX4_readOrder 13 = .ok (.ireturn, 1) := by decide +kernel
theorem dX4_readOrder_14 : decode cX4_readOrder 14 = .ok (.aload_n 0, 1) := by decide +kernel
theorem dX4_readOrder_15 : decode cX4_readOrder 15 = .ok (.invokevirtual 48, 3) := by decide +kernel
theorem dX4_readOrder_18 : decode cX4_readOrder 18 = .ok (.istore_n 1, 1) := by decide +kernel
theorem dX4_readOrder_19 : decode cX4_readOrder 19 = .ok (.iload_n 1, 1) := by decide +kernel
theorem dX4_readOrder_20 : decode cX4_readOrder 20 = .ok (.bipush (-6), 2) := by decide +kernel
theorem dX4_readOrder_22 : decode cX4_readOrder 22 = .ok (.if_icmp .ne 5, 3) := by decide +kernel
theorem dX4_readOrder_25 : decode cX4_readOrder 25 = .ok (.iconst 0, 1) := by decide +kernel
theorem dX4_readOrder_26 : decode cX4_readOrder 26 = .ok (.ireturn, 1) := by decide +kernel
theorem dX4_readOrder_27 : decode cX4_readOrder 27 = .ok (.aload_n 0, 1) := by decide +kernel
theorem dX4_readOrder_28 : decode cX4_readOrder 28 = .ok (.bipush 63, 2) := by decide +kernel
theorem dX4_readOrder_30 : decode cX4_readOrder 30 = .ok (.invokevirtual 41, 3) := by decide +kernel
theorem dX4_readOrder_33 : decode cX4_readOrder 33 = .ok (.ifCond .eq 11, 3) := by decide +kernel
theorem dX4_readOrder_36 : decode cX4_readOrder 36 = .ok (.aload_n 0, 1) := by decide +kernel
theorem dX4_readOrder_37 : decode cX4_readOrder 37 = .ok (.bipush 6, 2) := by decide +kernel
theorem dX4_readOrder_39 : decode cX4_readOrder 39 = .ok (.iload_n 1, 1) := by decide +kernel
theorem dX4_readOrder_40 : decode cX4_readOrder 40 = .ok (.invokevirtual 52, 3) := by decide +kernel
theorem dX4_readOrder_43 : decode cX4_readOrder 43 = .ok (.ireturn, 1) := by decide +kernel
theorem dX4_readOrder_44 : decode cX4_readOrder 44 = .ok (.aload_n 0, 1) := by decide +kernel
theorem dX4_readOrder_45 : decode cX4_readOrder 45 = .ok (.bipush 61, 2) := by decide +kernel
theorem dX4_readOrder_47 : decode cX4_readOrder 47 = .ok (.invokevirtual 41, 3) := by decide +kernel
theorem dX4_readOrder_50 : decode cX4_readOrder 50 = .ok (.ifCond .eq 15, 3) := by decide +kernel
theorem dX4_readOrder_53 : decode cX4_readOrder 53 = .ok (.aload_n 0, 1) := by decide +kernel
theorem dX4_readOrder_54 : decode cX4_readOrder 54 = .ok (.iload_n 1, 1) := by decide +kernel
theorem dX4_readOrder_55 : decode cX4_readOrder 55 = .ok (.invokevirtual 56, 3) := by decide +kernel
theorem dX4_readOrder_58 : decode cX4_readOrder 58 = .ok (.ifCond .eq 7, 3) := by decide +kernel
theorem dX4_readOrder_61 : decode cX4_readOrder 61 = .ok (.iconst 1, 1) := by decide +kernel
theorem dX4_readOrder_62 : decode cX4_readOrder 62 = .ok (.goto 4, 3) := by decide +kernel
theorem dX4_readOrder_65 : decode cX4_readOrder 65 = .ok (.iconst 0, 1) := by decide +kernel
theorem dX4_readOrder_66 : decode cX4_readOrder 66 = .ok (.ireturn, 1) := by decide +kernel
theorem dX4_readStore_0 : decode cX4_readStore 0 = .ok (.aload_n 0, 1) := by decide +kernel
theorem dX4_readStore_1 : decode cX4_readStore 1 = .ok (.invokevirtual 48, 3) := by decide +kernel
theorem dX4_readStore_4 : decode cX4_readStore 4 = .ok (.istore_n 1, 1) := by decide +kernel
theorem dX4_readStore_5 : decode cX4_readStore 5 = .ok (.iload_n 1, 1) := by decide +kernel
theorem dX4_readStore_6 : decode cX4_readStore 6 = .ok (.bipush (-6), 2) := by decide +kernel
theorem dX4_readStore_8 : decode cX4_readStore 8 = .ok (.if_icmp .eq 21, 3) := by decide +kernel
theorem dX4_readStore_11 : decode cX4_readStore 11 = .ok (.aload_n 0, 1) := by decide +kernel
theorem dX4_readStore_12 : decode cX4_readStore 12 = .ok (.bipush 93, 2) := by decide +kernel
theorem dX4_readStore_14 : decode cX4_readStore 14 = .ok (.invokevirtual 41, 3) := by decide +kernel
theorem dX4_readStore_17 : decode cX4_readStore 17 = .ok (.ifCond .eq 12, 3) := by decide +kernel
theorem dX4_readStore_20 : decode cX4_readStore 20 = .ok (.aload_n 0, 1) := by decide +kernel
theorem dX4_readStore_21 : decode cX4_readStore 21 = .ok (.bipush 61, 2) := by decide +kernel
theorem dX4_readStore_23 : decode cX4_readStore 23 = .ok (.invokevirtual 41, 3) := by decide +kernel
theorem dX4_readStore_26 : decode cX4_readStore 26 = .ok (.ifCond .ne 5, 3) := by decide +kernel
theorem dX4_readStore_29 : decode cX4_readStore 29 = .ok (.iconst 0, 1) := by decide +kernel
theorem dX4_readStore_30 : decode cX4_readStore 30 = .ok (.ireturn, 1) := by decide +kernel
theorem dX4_readStore_31 : decode cX4_readStore 31 = .ok (.aload_n 0, 1) := by decide +kernel
theorem dX4_readStore_32 : decode cX4_readStore 32 = .ok (.invokevirtual 48, 3) := by decide +kernel
theorem dX4_readStore_35 : decode cX4_readStore 35 = .ok (.istore_n 2, 1) := by decide +kernel
theorem dX4_readStore_36 : decode cX4_readStore 36 = .ok (.iload_n 2, 1) := by decide +kernel
theorem dX4_readStore_37 : decode cX4_readStore 37 = .ok (.bipush (-6), 2) := by decide +kernel
theorem dX4_readStore_39 : decode cX4_readStore 39 = .ok (.if_icmp .ne 5, 3) := by decide +kernel
theorem dX4_readStore_42 : decode cX4_readStore 42 = .ok (.iconst 0, 1) := by decide +kernel
theorem dX4_readStore_43 : decode cX4_readStore 43 = .ok (.ireturn, 1) := by decide +kernel
theorem dX4_readStore_44 : decode cX4_readStore 44 = .ok (.aload_n 0, 1) := by decide +kernel
theorem dX4_readStore_45 : decode cX4_readStore 45 = .ok (.getfield 12, 3) := by decide +kernel
theorem dX4_readStore_48 : decode cX4_readStore 48 = .ok (.iconst 5, 1) := by decide +kernel
theorem dX4_readStore_49 : decode cX4_readStore 49 = .ok (.iload_n 1, 1) := by decide +kernel
theorem dX4_readStore_50 : decode cX4_readStore 50 = .ok (.iload_n 2, 1) := by decide +kernel
theorem dX4_readStore_51 : decode cX4_readStore 51 = .ok (.bipush (-6), 2) := by decide +kernel
theorem dX4_readStore_53 : decode cX4_readStore 53 = .ok (.bipush (-6), 2) := by decide +kernel
theorem dX4_readStore_55 : decode cX4_readStore 55 = .ok (.invokevirtual 60, 3) := by decide +kernel
theorem dX4_readStore_58 : decode cX4_readStore 58 = .ok (.iconst 1, 1) := by decide +kernel
theorem dX4_readStore_59 : decode cX4_readStore 59 = .ok (.ireturn, 1) := by decide +kernel
theorem dX4_readGiven_0 : decode cX4_readGiven 0 = .ok (.aload_n 0, 1) := by decide +kernel
theorem dX4_readGiven_1 : decode cX4_readGiven 1 = .ok (.bipush 91, 2) := by decide +kernel
theorem dX4_readGiven_3 : decode cX4_readGiven 3 = .ok (.invokevirtual 41, 3) := by decide +kernel
theorem dX4_readGiven_6 : decode cX4_readGiven 6 = .ok (.ifCond .eq 9, 3) := by decide +kernel
theorem dX4_readGiven_9 : decode cX4_readGiven 9 = .ok (.aload_n 0, 1) := by decide +kernel
theorem dX4_readGiven_10 : decode cX4_readGiven 10 = .ok (.iload_n 1, 1) := by decide +kernel
theorem dX4_readGiven_11 : decode cX4_readGiven 11 = .ok (.invokevirtual 64, 3) := by decide +kernel
theorem dX4_readGiven_14 : decode cX4_readGiven 14 = .ok (.ireturn, 1) := by decide +kernel
theorem dX4_readGiven_15 : decode cX4_readGiven 15 = .ok (.aload_n 0, 1) := by decide +kernel
theorem dX4_readGiven_16 : decode cX4_readGiven 16 = .ok (.invokevirtual 48, 3) := by decide +kernel
theorem dX4_readGiven_19 : decode cX4_readGiven 19 = .ok (.istore_n 2, 1) := by decide +kernel
theorem dX4_readGiven_20 : decode cX4_readGiven 20 = .ok (.iload_n 2, 1) := by decide +kernel
theorem dX4_readGiven_21 : decode cX4_readGiven 21 = .ok (.bipush (-6), 2) := by decide +kernel
theorem dX4_readGiven_23 : decode cX4_readGiven 23 = .ok (.if_icmp .ne 10, 3) := by decide +kernel
theorem dX4_readGiven_26 : decode cX4_readGiven 26 = .ok (.aload_n 0, 1) := by decide +kernel
theorem dX4_readGiven_27 : decode cX4_readGiven 27 = .ok (.iconst 0, 1) := by decide +kernel
theorem dX4_readGiven_28 : decode cX4_readGiven 28 = .ok (.iload_n 1, 1) := by decide +kernel
theorem dX4_readGiven_29 : decode cX4_readGiven 29 = .ok (.invokevirtual 52, 3) := by decide +kernel
theorem dX4_readGiven_32 : decode cX4_readGiven 32 = .ok (.ireturn, 1) := by decide +kernel
theorem dX4_readGiven_33 : decode cX4_readGiven 33 = .ok (.aload_n 0, 1) := by decide +kernel
theorem dX4_readGiven_34 : decode cX4_readGiven 34 = .ok (.invokevirtual 67, 3) := by decide +kernel
theorem dX4_readGiven_37 : decode cX4_readGiven 37 = .ok (.istore_n 3, 1) := by decide +kernel
theorem dX4_readGiven_38 : decode cX4_readGiven 38 = .ok (.iload_n 3, 1) := by decide +kernel
theorem dX4_readGiven_39 : decode cX4_readGiven 39 = .ok (.bipush (-6), 2) := by decide +kernel
theorem dX4_readGiven_41 : decode cX4_readGiven 41 = .ok (.if_icmp .ne 5, 3) := by decide +kernel
theorem dX4_readGiven_44 : decode cX4_readGiven 44 = .ok (.iconst 0, 1) := by decide +kernel
theorem dX4_readGiven_45 : decode cX4_readGiven 45 = .ok (.ireturn, 1) := by decide +kernel
theorem dX4_readGiven_46 : decode cX4_readGiven 46 = .ok (.aload_n 0, 1) := by decide +kernel
theorem dX4_readGiven_47 : decode cX4_readGiven 47 = .ok (.invokevirtual 48, 3) := by decide +kernel
theorem dX4_readGiven_50 : decode cX4_readGiven 50 = .ok (.istore 4, 2) := by decide +kernel
theorem dX4_readGiven_52 : decode cX4_readGiven 52 = .ok (.iload 4, 2) := by decide +kernel
theorem dX4_readGiven_54 : decode cX4_readGiven 54 = .ok (.bipush (-6), 2) := by decide +kernel
theorem dX4_readGiven_56 : decode cX4_readGiven 56 = .ok (.if_icmp .ne 5, 3) := by decide +kernel
theorem dX4_readGiven_59 : decode cX4_readGiven 59 = .ok (.iconst 0, 1) := by decide +kernel
theorem dX4_readGiven_60 : decode cX4_readGiven 60 = .ok (.ireturn, 1) := by decide +kernel
theorem dX4_readGiven_61 : decode cX4_readGiven 61 = .ok (.aload_n 0, 1) := by decide +kernel
theorem dX4_readGiven_62 : decode cX4_readGiven 62 = .ok (.getfield 12, 3) := by decide +kernel
theorem dX4_readGiven_65 : decode cX4_readGiven 65 = .ok (.iload_n 3, 1) := by decide +kernel
theorem dX4_readGiven_66 : decode cX4_readGiven 66 = .ok (.iload_n 1, 1) := by decide +kernel
theorem dX4_readGiven_67 : decode cX4_readGiven 67 = .ok (.iload_n 2, 1) := by decide +kernel
theorem dX4_readGiven_68 : decode cX4_readGiven 68 = .ok (.iload 4, 2) := by decide +kernel
theorem dX4_readGiven_70 : decode cX4_readGiven 70 = .ok (.bipush (-6), 2) := by decide +kernel
theorem dX4_readGiven_72 : decode cX4_readGiven 72 = .ok (.invokevirtual 60, 3) := by decide +kernel
theorem dX4_readGiven_75 : decode cX4_readGiven 75 = .ok (.iconst 1, 1) := by decide +kernel
theorem dX4_readGiven_76 : decode cX4_readGiven 76 = .ok (.ireturn, 1) := by decide +kernel
theorem dX4_readLoad_0 : decode cX4_readLoad 0 = .ok (.aload_n 0, 1) := by decide +kernel
theorem dX4_readLoad_1 : decode cX4_readLoad 1 = .ok (.invokevirtual 48, 3) := by decide +kernel
theorem dX4_readLoad_4 : decode cX4_readLoad 4 = .ok (.istore_n 2, 1) := by decide +kernel
theorem dX4_readLoad_5 : decode cX4_readLoad 5 = .ok (.iload_n 2, 1) := by decide +kernel
theorem dX4_readLoad_6 : decode cX4_readLoad 6 = .ok (.bipush (-6), 2) := by decide +kernel
theorem dX4_readLoad_8 : decode cX4_readLoad 8 = .ok (.if_icmp .eq 12, 3) := by decide +kernel
theorem dX4_readLoad_11 : decode cX4_readLoad 11 = .ok (.aload_n 0, 1) := by decide +kernel
theorem dX4_readLoad_12 : decode cX4_readLoad 12 = .ok (.bipush 93, 2) := by decide +kernel
theorem dX4_readLoad_14 : decode cX4_readLoad 14 = .ok (.invokevirtual 41, 3) := by decide +kernel
theorem dX4_readLoad_17 : decode cX4_readLoad 17 = .ok (.ifCond .ne 5, 3) := by decide +kernel
theorem dX4_readLoad_20 : decode cX4_readLoad 20 = .ok (.iconst 0, 1) := by decide +kernel
theorem dX4_readLoad_21 : decode cX4_readLoad 21 = .ok (.ireturn, 1) := by decide +kernel
theorem dX4_readLoad_22 : decode cX4_readLoad 22 = .ok (.aload_n 0, 1) := by decide +kernel
theorem dX4_readLoad_23 : decode cX4_readLoad 23 = .ok (.getfield 12, 3) := by decide +kernel
theorem dX4_readLoad_26 : decode cX4_readLoad 26 = .ok (.iconst 4, 1) := by decide +kernel
theorem dX4_readLoad_27 : decode cX4_readLoad 27 = .ok (.iload_n 1, 1) := by decide +kernel
theorem dX4_readLoad_28 : decode cX4_readLoad 28 = .ok (.iload_n 2, 1) := by decide +kernel
theorem dX4_readLoad_29 : decode cX4_readLoad 29 = .ok (.bipush (-6), 2) := by decide +kernel
theorem dX4_readLoad_31 : decode cX4_readLoad 31 = .ok (.bipush (-6), 2) := by decide +kernel
theorem dX4_readLoad_33 : decode cX4_readLoad 33 = .ok (.invokevirtual 60, 3) := by decide +kernel
theorem dX4_readLoad_36 : decode cX4_readLoad 36 = .ok (.iconst 1, 1) := by decide +kernel
theorem dX4_readLoad_37 : decode cX4_readLoad 37 = .ok (.ireturn, 1) := by decide +kernel
theorem dX4_readNumber_0 : decode cX4_readNumber 0 = .ok (.aload_n 0, 1) := by decide +kernel
theorem dX4_readNumber_1 : decode cX4_readNumber 1 = .ok (.bipush 48, 2) := by decide +kernel
theorem dX4_readNumber_3 : decode cX4_readNumber 3 = .ok (.bipush 10, 2) := by decide +kernel
theorem dX4_readNumber_5 : decode cX4_readNumber 5 = .ok (.invokevirtual 70, 3) := by decide +kernel
theorem dX4_readNumber_8 : decode cX4_readNumber 8 = .ok (.istore_n 3, 1) := by decide +kernel
theorem dX4_readNumber_9 : decode cX4_readNumber 9 = .ok (.iload_n 3, 1) := by decide +kernel
theorem dX4_readNumber_10 : decode cX4_readNumber 10 = .ok (.bipush (-6), 2) := by decide +kernel
theorem dX4_readNumber_12 : decode cX4_readNumber 12 = .ok (.if_icmp .ne 5, 3) := by decide +kernel
theorem dX4_readNumber_15 : decode cX4_readNumber 15 = .ok (.iconst 0, 1) := by decide +kernel
theorem dX4_readNumber_16 : decode cX4_readNumber 16 = .ok (.ireturn, 1) := by decide +kernel
theorem dX4_readNumber_17 : decode cX4_readNumber 17 = .ok (.iload_n 3, 1) := by decide +kernel
theorem dX4_readNumber_18 : decode cX4_readNumber 18 = .ok (.ifCond .le 32, 3) := by decide +kernel
theorem dX4_readNumber_21 : decode cX4_readNumber 21 = .ok (.aload_n 0, 1) := by decide +kernel
theorem dX4_readNumber_22 : decode cX4_readNumber 22 = .ok (.bipush 48, 2) := by decide +kernel
theorem dX4_readNumber_24 : decode cX4_readNumber 24 = .ok (.bipush 10, 2) := by decide +kernel
theorem dX4_readNumber_26 : decode cX4_readNumber 26 = .ok (.invokevirtual 70, 3) := by decide +kernel
theorem dX4_readNumber_29 : decode cX4_readNumber 29 = .ok (.istore 4, 2) := by decide +kernel
theorem dX4_readNumber_31 : decode cX4_readNumber 31 = .ok (.iload 4, 2) := by decide +kernel
theorem dX4_readNumber_33 : decode cX4_readNumber 33 = .ok (.bipush (-6), 2) := by decide +kernel
theorem dX4_readNumber_35 : decode cX4_readNumber 35 = .ok (.if_icmp .ne 7, 3) := by decide +kernel
theorem dX4_readNumber_38 : decode cX4_readNumber 38 = .ok (.iload_n 3, 1) := by decide +kernel
theorem dX4_readNumber_39 : decode cX4_readNumber 39 = .ok (.goto 10, 3) := by decide +kernel
theorem dX4_readNumber_42 : decode cX4_readNumber 42 = .ok (.iload_n 3, 1) := by decide +kernel
theorem dX4_readNumber_43 : decode cX4_readNumber 43 = .ok (.bipush 10, 2) := by decide +kernel
theorem dX4_readNumber_45 : decode cX4_readNumber 45 = .ok (.imul, 1) := by decide +kernel
theorem dX4_readNumber_46 : decode cX4_readNumber 46 = .ok (.iload 4, 2) := by decide +kernel
theorem dX4_readNumber_48 : decode cX4_readNumber 48 = .ok (.iadd, 1) := by decide +kernel
theorem dX4_readNumber_49 : decode cX4_readNumber 49 = .ok (.istore_n 3, 1) := by decide +kernel
theorem dX4_readNumber_50 : decode cX4_readNumber 50 = .ok (.aload_n 0, 1) := by decide +kernel
theorem dX4_readNumber_51 : decode cX4_readNumber 51 = .ok (.getfield 12, 3) := by decide +kernel
theorem dX4_readNumber_54 : decode cX4_readNumber 54 = .ok (.iload_n 1, 1) := by decide +kernel
theorem dX4_readNumber_55 : decode cX4_readNumber 55 = .ok (.iload_n 2, 1) := by decide +kernel
theorem dX4_readNumber_56 : decode cX4_readNumber 56 = .ok (.bipush (-6), 2) := by decide +kernel
theorem dX4_readNumber_58 : decode cX4_readNumber 58 = .ok (.bipush (-6), 2) := by decide +kernel
theorem dX4_readNumber_60 : decode cX4_readNumber 60 = .ok (.iload_n 3, 1) := by decide +kernel
theorem dX4_readNumber_61 : decode cX4_readNumber 61 = .ok (.invokevirtual 60, 3) := by decide +kernel
theorem dX4_readNumber_64 : decode cX4_readNumber 64 = .ok (.iconst 1, 1) := by decide +kernel
theorem dX4_readNumber_65 : decode cX4_readNumber 65 = .ok (.ireturn, 1) := by decide +kernel
theorem dX4_take_0 : decode cX4_take 0 = .ok (.aload_n 0, 1) := by decide +kernel
theorem dX4_take_1 : decode cX4_take 1 = .ok (.getfield 18, 3) := by decide +kernel
theorem dX4_take_4 : decode cX4_take 4 = .ok (.aload_n 0, 1) := by decide +kernel
theorem dX4_take_5 : decode cX4_take 5 = .ok (.getfield 29, 3) := by decide +kernel
theorem dX4_take_8 : decode cX4_take 8 = .ok (.invokevirtual 74, 3) := by decide +kernel
theorem dX4_take_11 : decode cX4_take 11 = .ok (.iload_n 1, 1) := by decide +kernel
theorem dX4_take_12 : decode cX4_take 12 = .ok (.if_icmp .eq 5, 3) := by decide +kernel
theorem dX4_take_15 : decode cX4_take 15 = .ok (.iconst 0, 1) := by decide +kernel
theorem dX4_take_16 : decode cX4_take 16 = .ok (.ireturn, 1) := by decide +kernel
theorem dX4_take_17 : decode cX4_take 17 = .ok (.aload_n 0, 1) := by decide +kernel
theorem dX4_take_18 : decode cX4_take 18 = .ok (.dup, 1) := by decide +kernel
theorem dX4_take_19 : decode cX4_take 19 = .ok (.getfield 29, 3) := by decide +kernel
theorem dX4_take_22 : decode cX4_take 22 = .ok (.iconst 1, 1) := by decide +kernel
theorem dX4_take_23 : decode cX4_take 23 = .ok (.iadd, 1) := by decide +kernel
theorem dX4_take_24 : decode cX4_take 24 = .ok (.putfield 29, 3) := by decide +kernel
theorem dX4_take_27 : decode cX4_take 27 = .ok (.iconst 1, 1) := by decide +kernel
theorem dX4_take_28 : decode cX4_take 28 = .ok (.ireturn, 1) := by decide +kernel
theorem dX4_takeRegister_0 : decode cX4_takeRegister 0 = .ok (.aload_n 0, 1) := by decide +kernel
theorem dX4_takeRegister_1 : decode cX4_takeRegister 1 = .ok (.bipush 97, 2) := by decide +kernel
theorem dX4_takeRegister_3 : decode cX4_takeRegister 3 = .ok (.iconst 4, 1) := by decide +kernel
theorem dX4_takeRegister_4 : decode cX4_takeRegister 4 = .ok (.invokevirtual 70, 3) := by decide +kernel
theorem dX4_takeRegister_7 : decode cX4_takeRegister 7 = .ok (.ireturn, 1) := by decide +kernel
theorem dX4_takeFrom_0 : decode cX4_takeFrom 0 = .ok (.aload_n 0, 1) := by decide +kernel
theorem dX4_takeFrom_1 : decode cX4_takeFrom 1 = .ok (.getfield 18, 3) := by decide +kernel
theorem dX4_takeFrom_4 : decode cX4_takeFrom 4 = .ok (.aload_n 0, 1) := by decide +kernel
theorem dX4_takeFrom_5 : decode cX4_takeFrom 5 = .ok (.getfield 29, 3) := by decide +kernel
theorem dX4_takeFrom_8 : decode cX4_takeFrom 8 = .ok (.invokevirtual 74, 3) := by decide +kernel
theorem dX4_takeFrom_11 : decode cX4_takeFrom 11 = .ok (.iload_n 1, 1) := by decide +kernel
theorem dX4_takeFrom_12 : decode cX4_takeFrom 12 = .ok (.isub, 1) := by decide +kernel
theorem dX4_takeFrom_13 : decode cX4_takeFrom 13 = .ok (.istore_n 3, 1) := by decide +kernel
theorem dX4_takeFrom_14 : decode cX4_takeFrom 14 = .ok (.iload_n 3, 1) := by decide +kernel
theorem dX4_takeFrom_15 : decode cX4_takeFrom 15 = .ok (.ifCond .lt 8, 3) := by decide +kernel
theorem dX4_takeFrom_18 : decode cX4_takeFrom 18 = .ok (.iload_n 3, 1) := by decide +kernel
theorem dX4_takeFrom_19 : decode cX4_takeFrom 19 = .ok (.iload_n 2, 1) := by decide +kernel
theorem dX4_takeFrom_20 : decode cX4_takeFrom 20 = .ok (.if_icmp .lt 6, 3) := by decide +kernel
theorem dX4_takeFrom_23 : decode cX4_takeFrom 23 = .ok (.bipush (-6), 2) := by decide +kernel
theorem dX4_takeFrom_25 : decode cX4_takeFrom 25 = .ok (.ireturn, 1) := by decide +kernel
theorem dX4_takeFrom_26 : decode cX4_takeFrom 26 = .ok (.aload_n 0, 1) := by decide +kernel
theorem dX4_takeFrom_27 : decode cX4_takeFrom 27 = .ok (.dup, 1) := by decide +kernel
theorem dX4_takeFrom_28 : decode cX4_takeFrom 28 = .ok (.getfield 29, 3) := by decide +kernel
theorem dX4_takeFrom_31 : decode cX4_takeFrom 31 = .ok (.iconst 1, 1) := by decide +kernel
theorem dX4_takeFrom_32 : decode cX4_takeFrom 32 = .ok (.iadd, 1) := by decide +kernel
theorem dX4_takeFrom_33 : decode cX4_takeFrom 33 = .ok (.putfield 29, 3) := by decide +kernel
theorem dX4_takeFrom_36 : decode cX4_takeFrom 36 = .ok (.iload_n 3, 1) := by decide +kernel
theorem dX4_takeFrom_37 : decode cX4_takeFrom 37 = .ok (.ireturn, 1) := by decide +kernel
theorem dX4_takeSign_0 : decode cX4_takeSign 0 = .ok (.aload_n 0, 1) := by decide +kernel
theorem dX4_takeSign_1 : decode cX4_takeSign 1 = .ok (.bipush 43, 2) := by decide +kernel
theorem dX4_takeSign_3 : decode cX4_takeSign 3 = .ok (.invokevirtual 41, 3) := by decide +kernel
theorem dX4_takeSign_6 : decode cX4_takeSign 6 = .ok (.ifCond .eq 5, 3) := by decide +kernel
theorem dX4_takeSign_9 : decode cX4_takeSign 9 = .ok (.iconst 1, 1) := by decide +kernel
theorem dX4_takeSign_10 : decode cX4_takeSign 10 = .ok (.ireturn, 1) := by decide +kernel
theorem dX4_takeSign_11 : decode cX4_takeSign 11 = .ok (.aload_n 0, 1) := by decide +kernel
theorem dX4_takeSign_12 : decode cX4_takeSign 12 = .ok (.bipush 45, 2) := by decide +kernel
theorem dX4_takeSign_14 : decode cX4_takeSign 14 = .ok (.invokevirtual 41, 3) := by decide +kernel
theorem dX4_takeSign_17 : decode cX4_takeSign 17 = .ok (.ifCond .eq 5, 3) := by decide +kernel
theorem dX4_takeSign_20 : decode cX4_takeSign 20 = .ok (.iconst 2, 1) := by decide +kernel
theorem dX4_takeSign_21 : decode cX4_takeSign 21 = .ok (.ireturn, 1) := by decide +kernel
theorem dX4_takeSign_22 : decode cX4_takeSign 22 = .ok (.aload_n 0, 1) := by decide +kernel
theorem dX4_takeSign_23 : decode cX4_takeSign 23 = .ok (.bipush 42, 2) := by decide +kernel
theorem dX4_takeSign_25 : decode cX4_takeSign 25 = .ok (.invokevirtual 41, 3) := by decide +kernel
theorem dX4_takeSign_28 : decode cX4_takeSign 28 = .ok (.ifCond .eq 7, 3) := by decide +kernel
theorem dX4_takeSign_31 : decode cX4_takeSign 31 = .ok (.iconst 3, 1) := by decide +kernel
theorem dX4_takeSign_32 : decode cX4_takeSign 32 = .ok (.goto 5, 3) := by decide +kernel
theorem dX4_takeSign_35 : decode cX4_takeSign 35 = .ok (.bipush (-6), 2) := by decide +kernel
theorem dX4_takeSign_37 : decode cX4_takeSign 37 = .ok (.ireturn, 1) := by decide +kernel
theorem dX5_init_0 : decode cX5_init 0 = .ok (.aload_n 0, 1) := by decide +kernel
theorem dX5_init_1 : decode cX5_init 1 = .ok (.invokespecial 3, 3) := by decide +kernel
theorem dX5_init_4 : decode cX5_init 4 = .ok (.aload_n 0, 1) := by decide +kernel
theorem dX5_init_5 : decode cX5_init 5 = .ok (.iconst 2, 1) := by decide +kernel
theorem dX5_init_6 : decode cX5_init 6 = .ok (.anewarray 9, 3) := by decide +kernel
theorem dX5_init_9 : decode cX5_init 9 = .ok (.dup, 1) := by decide +kernel
theorem dX5_init_10 : decode cX5_init 10 = .ok (.iconst 0, 1) := by decide +kernel
theorem dX5_init_11 : decode cX5_init 11 = .ok (.new 9, 3) := by decide +kernel
theorem dX5_init_14 : decode cX5_init 14 = .ok (.dup, 1) := by decide +kernel
theorem dX5_init_15 : decode cX5_init 15 = .ok (.invokespecial 11, 3) := by decide +kernel
theorem dX5_init_18 : decode cX5_init 18 = .ok (.aastore, 1) := by decide +kernel
theorem dX5_init_19 : decode cX5_init 19 = .ok (.dup, 1) := by decide +kernel
theorem dX5_init_20 : decode cX5_init 20 = .ok (.iconst 1, 1) := by decide +kernel
theorem dX5_init_21 : decode cX5_init 21 = .ok (.new 9, 3) := by decide +kernel
theorem dX5_init_24 : decode cX5_init 24 = .ok (.dup, 1) := by decide +kernel
theorem dX5_init_25 : decode cX5_init 25 = .ok (.invokespecial 11, 3) := by decide +kernel
theorem dX5_init_28 : decode cX5_init 28 = .ok (.aastore, 1) := by decide +kernel
theorem dX5_init_29 : decode cX5_init 29 = .ok (.putfield 12, 3) := by decide +kernel
theorem dX5_init_32 : decode cX5_init 32 = .ok (.aload_n 0, 1) := by decide +kernel
theorem dX5_init_33 : decode cX5_init 33 = .ok (.iconst 2, 1) := by decide +kernel
theorem dX5_init_34 : decode cX5_init 34 = .ok (.newarray .int, 2) := by decide +kernel
theorem dX5_init_36 : decode cX5_init 36 = .ok (.putfield 18, 3) := by decide +kernel
theorem dX5_init_39 : decode cX5_init 39 = .ok (.aload_n 0, 1) := by decide +kernel
theorem dX5_init_40 : decode cX5_init 40 = .ok (.iconst 2, 1) := by decide +kernel
theorem dX5_init_41 : decode cX5_init 41 = .ok (.newarray .int, 2) := by decide +kernel
theorem dX5_init_43 : decode cX5_init 43 = .ok (.putfield 22, 3) := by decide +kernel
theorem dX5_init_46 : decode cX5_init 46 = .ok (.aload_n 0, 1) := by decide +kernel
theorem dX5_init_47 : decode cX5_init 47 = .ok (.iconst 2, 1) := by decide +kernel
theorem dX5_init_48 : decode cX5_init 48 = .ok (.bipush 100, 2) := by decide +kernel
theorem dX5_init_50 : decode cX5_init 50 = .ok (.multianewarray 25 2, 4) := by decide +kernel
theorem dX5_init_54 : decode cX5_init 54 = .ok (.putfield 27, 3) := by decide +kernel
theorem dX5_init_57 : decode cX5_init 57 = .ok (.aload_n 0, 1) := by decide +kernel
theorem dX5_init_58 : decode cX5_init 58 = .ok (.iconst 2, 1) := by decide +kernel
theorem dX5_init_59 : decode cX5_init 59 = .ok (.bipush 100, 2) := by decide +kernel
theorem dX5_init_61 : decode cX5_init 61 = .ok (.multianewarray 25 2, 4) := by decide +kernel
theorem dX5_init_65 : decode cX5_init 65 = .ok (.putfield 30, 3) := by decide +kernel
theorem dX5_init_68 : decode cX5_init 68 = .ok (.aload_n 0, 1) := by decide +kernel
theorem dX5_init_69 : decode cX5_init 69 = .ok (.iconst 2, 1) := by decide +kernel
theorem dX5_init_70 : decode cX5_init 70 = .ok (.iconst 5, 1) := by decide +kernel
theorem dX5_init_71 : decode cX5_init 71 = .ok (.multianewarray 25 2, 4) := by decide +kernel
theorem dX5_init_75 : decode cX5_init 75 = .ok (.putfield 33, 3) := by decide +kernel
theorem dX5_init_78 : decode cX5_init 78 = .ok (.aload_n 0, 1) := by decide +kernel
theorem dX5_init_79 : decode cX5_init 79 = .ok (.iconst 2, 1) := by decide +kernel
theorem dX5_init_80 : decode cX5_init 80 = .ok (.newarray .int, 2) := by decide +kernel
theorem dX5_init_82 : decode cX5_init 82 = .ok (.putfield 36, 3) := by decide +kernel
theorem dX5_init_85 : decode cX5_init 85 = .ok (.aload_n 0, 1) := by decide +kernel
theorem dX5_init_86 : decode cX5_init 86 = .ok (.iconst 2, 1) := by decide +kernel
theorem dX5_init_87 : decode cX5_init 87 = .ok (.iconst 4, 1) := by decide +kernel
theorem dX5_init_88 : decode cX5_init 88 = .ok (.multianewarray 25 2, 4) := by decide +kernel
theorem dX5_init_92 : decode cX5_init 92 = .ok (.putfield 39, 3) := by decide +kernel
theorem dX5_init_95 : decode cX5_init 95 = .ok (.aload_n 0, 1) := by decide +kernel
theorem dX5_init_96 : decode cX5_init 96 = .ok (.iconst 2, 1) := by decide +kernel
theorem dX5_init_97 : decode cX5_init 97 = .ok (.newarray .int, 2) := by decide +kernel
theorem dX5_init_99 : decode cX5_init 99 = .ok (.putfield 42, 3) := by decide +kernel
theorem dX5_init_102 : decode cX5_init 102 = .ok (.aload_n 0, 1) := by decide +kernel
theorem dX5_init_103 : decode cX5_init 103 = .ok (.iconst 2, 1) := by decide +kernel
theorem dX5_init_104 : decode cX5_init 104 = .ok (.newarray .int, 2) := by decide +kernel
theorem dX5_init_106 : decode cX5_init 106 = .ok (.putfield 45, 3) := by decide +kernel
theorem dX5_init_109 : decode cX5_init 109 = .ok (.aload_n 0, 1) := by decide +kernel
theorem dX5_init_110 : decode cX5_init 110 = .ok (.aload_n 1, 1) := by decide +kernel
theorem dX5_init_111 : decode cX5_init 111 = .ok (.putfield 48, 3) := by decide +kernel
theorem dX5_init_114 : decode cX5_init 114 = .ok (.return_, 1) := by decide +kernel
theorem dX5_play_0 : decode cX5_play 0 = .ok (.aload_n 0, 1) := by decide +kernel
theorem dX5_play_1 : decode cX5_play 1 = .ok (.invokevirtual 52, 3) := by decide +kernel
theorem dX5_play_4 : decode cX5_play 4 = .ok (.aload_n 0, 1) := by decide +kernel
theorem dX5_play_5 : decode cX5_play 5 = .ok (.iload_n 1, 1) := by decide +kernel
theorem dX5_play_6 : decode cX5_play 6 = .ok (.invokevirtual 55, 3) := by decide +kernel
theorem dX5_play_9 : decode cX5_play 9 = .ok (.return_, 1) := by decide +kernel
theorem dX5_follow_0 : decode cX5_follow 0 = .ok (.iconst 0, 1) := by decide +kernel
theorem dX5_follow_1 : decode cX5_follow 1 = .ok (.istore_n 1, 1) := by decide +kernel
theorem dX5_follow_2 : decode cX5_follow 2 = .ok (.iload_n 1, 1) := by decide +kernel
theorem dX5_follow_3 : decode cX5_follow 3 = .ok (.iconst 2, 1) := by decide +kernel
theorem dX5_follow_4 : decode cX5_follow 4 = .ok (.if_icmp .ge 36, 3) := by decide +kernel
theorem dX5_follow_7 : decode cX5_follow 7 = .ok (.aload_n 0, 1) := by decide +kernel
theorem dX5_follow_8 : decode cX5_follow 8 = .ok (.getfield 12, 3) := by decide +kernel
theorem dX5_follow_11 : decode cX5_follow 11 = .ok (.iload_n 1, 1) := by decide +kernel
theorem dX5_follow_12 : decode cX5_follow 12 = .ok (.aaload, 1) := by decide +kernel
theorem dX5_follow_13 : decode cX5_follow 13 = .ok (.aload_n 0, 1) := by decide +kernel
theorem dX5_follow_14 : decode cX5_follow 14 = .ok (.getfield 48, 3) := by decide +kernel
theorem dX5_follow_17 : decode cX5_follow 17 = .ok (.getfield 59, 3) := by decide +kernel
theorem dX5_follow_20 : decode cX5_follow 20 = .ok (.iload_n 1, 1) := by decide +kernel
theorem dX5_follow_21 : decode cX5_follow 21 = .ok (.aaload, 1) := by decide +kernel
theorem dX5_follow_22 : decode cX5_follow 22 = .ok (.aload_n 0, 1) := by decide +kernel
theorem dX5_follow_23 : decode cX5_follow 23 = .ok (.getfield 48, 3) := by decide +kernel
theorem dX5_follow_26 : decode cX5_follow 26 = .ok (.getfield 65, 3) := by decide +kernel
theorem dX5_follow_29 : decode cX5_follow 29 = .ok (.iload_n 1, 1) := by decide +kernel
theorem dX5_follow_30 : decode cX5_follow 30 = .ok (.aaload, 1) := by decide +kernel
theorem dX5_follow_31 : decode cX5_follow 31 = .ok (.invokevirtual 68, 3) := by decide +kernel
theorem dX5_follow_34 : decode cX5_follow 34 = .ok (.iinc 1 1, 3) := by decide +kernel
theorem dX5_follow_37 : decode cX5_follow 37 = .ok (.goto (-35), 3) := by decide +kernel
theorem dX5_follow_40 : decode cX5_follow 40 = .ok (.return_, 1) := by decide +kernel
theorem dX5_schedule_0 : decode cX5_schedule 0 = .ok (.aload_n 0, 1) := by decide +kernel
theorem dX5_schedule_1 : decode cX5_schedule 1 = .ok (.iload_n 1, 1) := by decide +kernel
theorem dX5_schedule_2 : decode cX5_schedule 2 = .ok (.putfield 71, 3) := by decide +kernel
theorem dX5_schedule_5 : decode cX5_schedule 5 = .ok (.aload_n 0, 1) := by decide +kernel
theorem dX5_schedule_6 : decode cX5_schedule 6 = .ok (.invokevirtual 75, 3) := by decide +kernel
theorem dX5_schedule_9 : decode cX5_schedule 9 = .ok (.iconst 0, 1) := by decide +kernel
theorem dX5_schedule_10 : decode cX5_schedule 10 = .ok (.istore_n 2, 1) := by decide +kernel
theorem dX5_schedule_11 : decode cX5_schedule 11 = .ok (.iload_n 2, 1) := by decide +kernel
theorem dX5_schedule_12 : decode cX5_schedule 12 = .ok (.sipush 4096, 3) := by decide +kernel
theorem dX5_schedule_15 : decode cX5_schedule 15 = .ok (.if_icmp .ge 30, 3) := by decide +kernel
theorem dX5_schedule_18 : decode cX5_schedule 18 = .ok (.aload_n 0, 1) := by decide +kernel
theorem dX5_schedule_19 : decode cX5_schedule 19 = .ok (.iconst 0, 1) := by decide +kernel
theorem dX5_schedule_20 : decode cX5_schedule 20 = .ok (.invokevirtual 78, 3) := by decide +kernel
theorem dX5_schedule_23 : decode cX5_schedule 23 = .ok (.ifCond .ne 11, 3) := by decide +kernel
theorem dX5_schedule_26 : decode cX5_schedule 26 = .ok (.aload_n 0, 1) := by decide +kernel
theorem dX5_schedule_27 : decode cX5_schedule 27 = .ok (.iconst 1, 1) := by decide +kernel
theorem dX5_schedule_28 : decode cX5_schedule 28 = .ok (.invokevirtual 78, 3) := by decide +kernel
theorem dX5_schedule_31 : decode cX5_schedule 31 = .ok (.ifCond .eq 14, 3) := by decide +kernel
theorem dX5_schedule_34 : decode cX5_schedule 34 = .ok (.aload_n 0, 1) := by decide +kernel
theorem dX5_schedule_35 : decode cX5_schedule 35 = .ok (.iload_n 2, 1) := by decide +kernel
theorem dX5_schedule_36 : decode cX5_schedule 36 = .ok (.invokevirtual 82, 3) := by decide +kernel
theorem dX5_schedule_39 : decode cX5_schedule 39 = .ok (.iinc 2 1, 3) := by decide +kernel
theorem dX5_schedule_42 : decode cX5_schedule 42 = .ok (.goto (-31), 3) := by decide +kernel
theorem dX5_schedule_45 : decode cX5_schedule 45 = .ok (.return_, 1) := by decide +kernel
theorem dX5_clear_0 : decode cX5_clear 0 = .ok (.iconst 0, 1) := by decide +kernel
theorem dX5_clear_1 : decode cX5_clear 1 = .ok (.istore_n 1, 1) := by decide +kernel
theorem dX5_clear_2 : decode cX5_clear 2 = .ok (.iload_n 1, 1) := by decide +kernel
theorem dX5_clear_3 : decode cX5_clear 3 = .ok (.iconst 2, 1) := by decide +kernel
theorem dX5_clear_4 : decode cX5_clear 4 = .ok (.if_icmp .ge 16, 3) := by decide +kernel
theorem dX5_clear_7 : decode cX5_clear 7 = .ok (.aload_n 0, 1) := by decide +kernel
theorem dX5_clear_8 : decode cX5_clear 8 = .ok (.getfield 42, 3) := by decide +kernel
theorem dX5_clear_11 : decode cX5_clear 11 = .ok (.iload_n 1, 1) := by decide +kernel
theorem dX5_clear_12 : decode cX5_clear 12 = .ok (.iconst 0, 1) := by decide +kernel
theorem dX5_clear_13 : decode cX5_clear 13 = .ok (.iastore, 1) := by decide +kernel
theorem dX5_clear_14 : decode cX5_clear 14 = .ok (.iinc 1 1, 3) := by decide +kernel
theorem dX5_clear_17 : decode cX5_clear 17 = .ok (.goto (-15), 3) := by decide +kernel
theorem dX5_clear_20 : decode cX5_clear 20 = .ok (.iconst 0, 1) := by decide +kernel
theorem dX5_clear_21 : decode cX5_clear 21 = .ok (.istore_n 1, 1) := by decide +kernel
theorem dX5_clear_22 : decode cX5_clear 22 = .ok (.iload_n 1, 1) := by decide +kernel
theorem dX5_clear_23 : decode cX5_clear 23 = .ok (.iconst 2, 1) := by decide +kernel
theorem dX5_clear_24 : decode cX5_clear 24 = .ok (.if_icmp .ge 67, 3) := by decide +kernel
theorem dX5_clear_27 : decode cX5_clear 27 = .ok (.aload_n 0, 1) := by decide +kernel
theorem dX5_clear_28 : decode cX5_clear 28 = .ok (.getfield 18, 3) := by decide +kernel
theorem dX5_clear_31 : decode cX5_clear 31 = .ok (.iload_n 1, 1) := by decide +kernel
theorem dX5_clear_32 : decode cX5_clear 32 = .ok (.iconst 0, 1) := by decide +kernel
theorem dX5_clear_33 : decode cX5_clear 33 = .ok (.iastore, 1) := by decide +kernel
theorem dX5_clear_34 : decode cX5_clear 34 = .ok (.aload_n 0, 1) := by decide +kernel
theorem dX5_clear_35 : decode cX5_clear 35 = .ok (.getfield 22, 3) := by decide +kernel
theorem dX5_clear_38 : decode cX5_clear 38 = .ok (.iload_n 1, 1) := by decide +kernel
theorem dX5_clear_39 : decode cX5_clear 39 = .ok (.iconst 0, 1) := by decide +kernel
theorem dX5_clear_40 : decode cX5_clear 40 = .ok (.iastore, 1) := by decide +kernel
theorem dX5_clear_41 : decode cX5_clear 41 = .ok (.iconst 0, 1) := by decide +kernel
theorem dX5_clear_42 : decode cX5_clear 42 = .ok (.istore_n 2, 1) := by decide +kernel
theorem dX5_clear_43 : decode cX5_clear 43 = .ok (.iload_n 2, 1) := by decide +kernel
theorem dX5_clear_44 : decode cX5_clear 44 = .ok (.iconst 5, 1) := by decide +kernel
theorem dX5_clear_45 : decode cX5_clear 45 = .ok (.if_icmp .ge 18, 3) := by decide +kernel
theorem dX5_clear_48 : decode cX5_clear 48 = .ok (.aload_n 0, 1) := by decide +kernel
theorem dX5_clear_49 : decode cX5_clear 49 = .ok (.getfield 33, 3) := by decide +kernel
theorem dX5_clear_52 : decode cX5_clear 52 = .ok (.iload_n 1, 1) := by decide +kernel
theorem dX5_clear_53 : decode cX5_clear 53 = .ok (.aaload, 1) := by decide +kernel
theorem dX5_clear_54 : decode cX5_clear 54 = .ok (.iload_n 2, 1) := by decide +kernel
theorem dX5_clear_55 : decode cX5_clear 55 = .ok (.iconst 0, 1) := by decide +kernel
theorem dX5_clear_56 : decode cX5_clear 56 = .ok (.iastore, 1) := by decide +kernel
theorem dX5_clear_57 : decode cX5_clear 57 = .ok (.iinc 2 1, 3) := by decide +kernel
theorem dX5_clear_60 : decode cX5_clear 60 = .ok (.goto (-17), 3) := by decide +kernel
theorem dX5_clear_63 : decode cX5_clear 63 = .ok (.iconst 0, 1) := by decide +kernel
theorem dX5_clear_64 : decode cX5_clear 64 = .ok (.istore_n 2, 1) := by decide +kernel
theorem dX5_clear_65 : decode cX5_clear 65 = .ok (.iload_n 2, 1) := by decide +kernel
theorem dX5_clear_66 : decode cX5_clear 66 = .ok (.iconst 4, 1) := by decide +kernel
theorem dX5_clear_67 : decode cX5_clear 67 = .ok (.if_icmp .ge 18, 3) := by decide +kernel
theorem dX5_clear_70 : decode cX5_clear 70 = .ok (.aload_n 0, 1) := by decide +kernel
theorem dX5_clear_71 : decode cX5_clear 71 = .ok (.getfield 39, 3) := by decide +kernel
theorem dX5_clear_74 : decode cX5_clear 74 = .ok (.iload_n 1, 1) := by decide +kernel
theorem dX5_clear_75 : decode cX5_clear 75 = .ok (.aaload, 1) := by decide +kernel
theorem dX5_clear_76 : decode cX5_clear 76 = .ok (.iload_n 2, 1) := by decide +kernel
theorem dX5_clear_77 : decode cX5_clear 77 = .ok (.iconst 0, 1) := by decide +kernel
theorem dX5_clear_78 : decode cX5_clear 78 = .ok (.iastore, 1) := by decide +kernel
theorem dX5_clear_79 : decode cX5_clear 79 = .ok (.iinc 2 1, 3) := by decide +kernel
theorem dX5_clear_82 : decode cX5_clear 82 = .ok (.goto (-17), 3) := by decide +kernel
theorem dX5_clear_85 : decode cX5_clear 85 = .ok (.iinc 1 1, 3) := by decide +kernel
theorem dX5_clear_88 : decode cX5_clear 88 = .ok (.goto (-66), 3) := by decide +kernel
theorem dX5_clear_91 : decode cX5_clear 91 = .ok (.return_, 1) := by decide +kernel
theorem dX5_hasStep_0 : decode cX5_hasStep 0 = .ok (.aload_n 0, 1) := by decide +kernel
theorem dX5_hasStep_1 : decode cX5_hasStep 1 = .ok (.getfield 18, 3) := by decide +kernel
theorem dX5_hasStep_4 : decode cX5_hasStep 4 = .ok (.iload_n 1, 1) := by decide +kernel
theorem dX5_hasStep_5 : decode cX5_hasStep 5 = .ok (.iaload, 1) := by decide +kernel
theorem dX5_hasStep_6 : decode cX5_hasStep 6 = .ok (.aload_n 0, 1) := by decide +kernel
theorem dX5_hasStep_7 : decode cX5_hasStep 7 = .ok (.getfield 12, 3) := by decide +kernel
theorem dX5_hasStep_10 : decode cX5_hasStep 10 = .ok (.iload_n 1, 1) := by decide +kernel
theorem dX5_hasStep_11 : decode cX5_hasStep 11 = .ok (.aaload, 1) := by decide +kernel
theorem dX5_hasStep_12 : decode cX5_hasStep 12 = .ok (.getfield 85, 3) := by decide +kernel
theorem dX5_hasStep_15 : decode cX5_hasStep 15 = .ok (.if_icmp .ge 7, 3) := by decide +kernel
theorem dX5_hasStep_18 : decode cX5_hasStep 18 = .ok (.iconst 1, 1) := by decide +kernel
theorem dX5_hasStep_19 : decode cX5_hasStep 19 = .ok (.goto 4, 3) := by decide +kernel
theorem dX5_hasStep_22 : decode cX5_hasStep 22 = .ok (.iconst 0, 1) := by decide +kernel
theorem dX5_hasStep_23 : decode cX5_hasStep 23 = .ok (.ireturn, 1) := by decide +kernel
theorem dX5_playTick_0 : decode cX5_playTick 0 = .ok (.iconst 0, 1) := by decide +kernel
theorem dX5_playTick_1 : decode cX5_playTick 1 = .ok (.istore_n 2, 1) := by decide +kernel
theorem dX5_playTick_2 : decode cX5_playTick 2 = .ok (.iload_n 2, 1) := by decide +kernel
theorem dX5_playTick_3 : decode cX5_playTick 3 = .ok (.iconst 2, 1) := by decide +kernel
theorem dX5_playTick_4 : decode cX5_playTick 4 = .ok (.if_icmp .ge 21, 3) := by decide +kernel
theorem dX5_playTick_7 : decode cX5_playTick 7 = .ok (.aload_n 0, 1) := by decide +kernel
theorem dX5_playTick_8 : decode cX5_playTick 8 = .ok (.getfield 36, 3) := by decide +kernel
theorem dX5_playTick_11 : decode cX5_playTick 11 = .ok (.iload_n 2, 1) := by decide +kernel
theorem dX5_playTick_12 : decode cX5_playTick 12 = .ok (.aload_n 0, 1) := by decide +kernel
theorem dX5_playTick_13 : decode cX5_playTick 13 = .ok (.iload_n 2, 1) := by decide +kernel
theorem dX5_playTick_14 : decode cX5_playTick 14 = .ok (.iload_n 1, 1) := by decide +kernel
theorem dX5_playTick_15 : decode cX5_playTick 15 = .ok (.invokevirtual 88, 3) := by decide +kernel
theorem dX5_playTick_18 : decode cX5_playTick 18 = .ok (.iastore, 1) := by decide +kernel
theorem dX5_playTick_19 : decode cX5_playTick 19 = .ok (.iinc 2 1, 3) := by decide +kernel
theorem dX5_playTick_22 : decode cX5_playTick 22 = .ok (.goto (-20), 3) := by decide +kernel
theorem dX5_playTick_25 : decode cX5_playTick 25 = .ok (.aload_n 0, 1) := by decide +kernel
theorem dX5_playTick_26 : decode cX5_playTick 26 = .ok (.iload_n 1, 1) := by decide +kernel
theorem dX5_playTick_27 : decode cX5_playTick 27 = .ok (.invokevirtual 92, 3) := by decide +kernel
theorem dX5_playTick_30 : decode cX5_playTick 30 = .ok (.istore_n 2, 1) := by decide +kernel
theorem dX5_playTick_31 : decode cX5_playTick 31 = .ok (.iconst 0, 1) := by decide +kernel
theorem dX5_playTick_32 : decode cX5_playTick 32 = .ok (.istore_n 3, 1) := by decide +kernel
theorem dX5_playTick_33 : decode cX5_playTick 33 = .ok (.iload_n 3, 1) := by decide +kernel
theorem dX5_playTick_34 : decode cX5_playTick 34 = .ok (.iconst 2, 1) := by decide +kernel
theorem dX5_playTick_35 : decode cX5_playTick 35 = .ok (.if_icmp .ge 52, 3) := by decide +kernel
theorem dX5_playTick_38 : decode cX5_playTick 38 = .ok (.iload_n 3, 1) := by decide +kernel
theorem dX5_playTick_39 : decode cX5_playTick 39 = .ok (.iload_n 2, 1) := by decide +kernel
theorem dX5_playTick_40 : decode cX5_playTick 40 = .ok (.if_icmp .eq 41, 3) := by decide +kernel
theorem dX5_playTick_43 : decode cX5_playTick 43 = .ok (.aload_n 0, 1) := by decide +kernel
theorem dX5_playTick_44 : decode cX5_playTick 44 = .ok (.iload_n 3, 1) := by decide +kernel
theorem dX5_playTick_45 : decode cX5_playTick 45 = .ok (.invokevirtual 78, 3) := by decide +kernel
theorem dX5_playTick_48 : decode cX5_playTick 48 = .ok (.ifCond .eq 33, 3) := by decide +kernel
theorem dX5_playTick_51 : decode cX5_playTick 51 = .ok (.aload_n 0, 1) := by decide +kernel
theorem dX5_playTick_52 : decode cX5_playTick 52 = .ok (.getfield 36, 3) := by decide +kernel
theorem dX5_playTick_55 : decode cX5_playTick 55 = .ok (.iload_n 3, 1) := by decide +kernel
theorem dX5_playTick_56 : decode cX5_playTick 56 = .ok (.iaload, 1) := by decide +kernel
theorem dX5_playTick_57 : decode cX5_playTick 57 = .ok (.istore 4, 2) := by decide +kernel
theorem dX5_playTick_59 : decode cX5_playTick 59 = .ok (.aload_n 0, 1) := by decide +kernel
theorem dX5_playTick_60 : decode cX5_playTick 60 = .ok (.getfield 33, 3) := by decide +kernel
theorem dX5_playTick_63 : decode cX5_playTick 63 = .ok (.iload_n 3, 1) := by decide +kernel
theorem dX5_playTick_64 : decode cX5_playTick 64 = .ok (.aaload, 1) := by decide +kernel
theorem dX5_playTick_65 : decode cX5_playTick 65 = .ok (.iload 4, 2) := by decide +kernel
theorem dX5_playTick_67 : decode cX5_playTick 67 = .ok (.ifCond .ne 7, 3) := by decide +kernel
theorem dX5_playTick_70 : decode cX5_playTick 70 = .ok (.iconst 4, 1) := by decide +kernel
theorem dX5_playTick_71 : decode cX5_playTick 71 = .ok (.goto 5, 3) := by decide +kernel
theorem dX5_playTick_74 : decode cX5_playTick 74 = .ok (.iload 4, 2) := by decide +kernel
theorem dX5_playTick_76 : decode cX5_playTick 76 = .ok (.dup2, 1) := by decide +kernel
theorem dX5_playTick_77 : decode cX5_playTick 77 = .ok (.iaload, 1) := by decide +kernel
theorem dX5_playTick_78 : decode cX5_playTick 78 = .ok (.iconst 1, 1) := by decide +kernel
theorem dX5_playTick_79 : decode cX5_playTick 79 = .ok (.iadd, 1) := by decide +kernel
theorem dX5_playTick_80 : decode cX5_playTick 80 = .ok (.iastore, 1) := by decide +kernel
theorem dX5_playTick_81 : decode cX5_playTick 81 = .ok (.iinc 3 1, 3) := by decide +kernel
theorem dX5_playTick_84 : decode cX5_playTick 84 = .ok (.goto (-51), 3) := by decide +kernel
theorem dX5_playTick_87 : decode cX5_playTick 87 = .ok (.iload_n 2, 1) := by decide +kernel
theorem dX5_playTick_88 : decode cX5_playTick 88 = .ok (.bipush (-6), 2) := by decide +kernel
theorem dX5_playTick_90 : decode cX5_playTick 90 = .ok (.if_icmp .eq 9, 3) := by decide +kernel
theorem dX5_playTick_93 : decode cX5_playTick 93 = .ok (.aload_n 0, 1) := by decide +kernel
theorem dX5_playTick_94 : decode cX5_playTick 94 = .ok (.iload_n 2, 1) := by decide +kernel
theorem dX5_playTick_95 : decode cX5_playTick 95 = .ok (.iload_n 1, 1) := by decide +kernel
theorem dX5_playTick_96 : decode cX5_playTick 96 = .ok (.invokevirtual 96, 3) := by decide +kernel
theorem dX5_playTick_99 : decode cX5_playTick 99 = .ok (.return_, 1) := by decide +kernel
theorem dX5_hindranceOf_0 : decode cX5_hindranceOf 0 = .ok (.aload_n 0, 1) := by decide +kernel
theorem dX5_hindranceOf_1 : decode cX5_hindranceOf 1 = .ok (.iload_n 1, 1) := by decide +kernel
theorem dX5_hindranceOf_2 : decode cX5_hindranceOf 2 = .ok (.invokevirtual 78, 3) := by decide +kernel
theorem dX5_hindranceOf_5 : decode cX5_hindranceOf 5 = .ok (.ifCond .ne 5, 3) := by decide +kernel
theorem dX5_hindranceOf_8 : decode cX5_hindranceOf 8 = .ok (.iconst 5, 1) := by decide +kernel
theorem dX5_hindranceOf_9 : decode cX5_hindranceOf 9 = .ok (.ireturn, 1) := by decide +kernel
theorem dX5_hindranceOf_10 : decode cX5_hindranceOf 10 = .ok (.aload_n 0, 1) := by decide +kernel
theorem dX5_hindranceOf_11 : decode cX5_hindranceOf 11 = .ok (.getfield 48, 3) := by decide +kernel
theorem dX5_hindranceOf_14 : decode cX5_hindranceOf 14 = .ok (.getfield 59, 3) := by decide +kernel
theorem dX5_hindranceOf_17 : decode cX5_hindranceOf 17 = .ok (.iload_n 1, 1) := by decide +kernel
theorem dX5_hindranceOf_18 : decode cX5_hindranceOf 18 = .ok (.aaload, 1) := by decide +kernel
theorem dX5_hindranceOf_19 : decode cX5_hindranceOf 19 = .ok (.astore_n 3, 1) := by decide +kernel
theorem dX5_hindranceOf_20 : decode cX5_hindranceOf 20 = .ok (.aload_n 0, 1) := by decide +kernel
theorem dX5_hindranceOf_21 : decode cX5_hindranceOf 21 = .ok (.getfield 12, 3) := by decide +kernel
theorem dX5_hindranceOf_24 : decode cX5_hindranceOf 24 = .ok (.iload_n 1, 1) := by decide +kernel
theorem dX5_hindranceOf_25 : decode cX5_hindranceOf 25 = .ok (.aaload, 1) := by decide +kernel
theorem dX5_hindranceOf_26 : decode cX5_hindranceOf 26 = .ok (.getfield 100, 3) := by decide +kernel
theorem dX5_hindranceOf_29 : decode cX5_hindranceOf 29 = .ok (.aload_n 0, 1) := by decide +kernel
theorem dX5_hindranceOf_30 : decode cX5_hindranceOf 30 = .ok (.getfield 18, 3) := by decide +kernel
theorem dX5_hindranceOf_33 : decode cX5_hindranceOf 33 = .ok (.iload_n 1, 1) := by decide +kernel
theorem dX5_hindranceOf_34 : decode cX5_hindranceOf 34 = .ok (.iaload, 1) := by decide +kernel
theorem dX5_hindranceOf_35 : decode cX5_hindranceOf 35 = .ok (.iaload, 1) := by decide +kernel
theorem dX5_hindranceOf_36 : decode cX5_hindranceOf 36 = .ok (.istore 4, 2) := by decide +kernel
theorem dX5_hindranceOf_38 : decode cX5_hindranceOf 38 = .ok (.iconst 1, 1) := by decide +kernel
theorem dX5_hindranceOf_39 : decode cX5_hindranceOf 39 = .ok (.istore 5, 2) := by decide +kernel
theorem dX5_hindranceOf_41 : decode cX5_hindranceOf 41 = .ok (.iload 5, 2) := by decide +kernel
theorem dX5_hindranceOf_43 : decode cX5_hindranceOf 43 = .ok (.iconst 3, 1) := by decide +kernel
theorem dX5_hindranceOf_44 : decode cX5_hindranceOf 44 = .ok (.if_icmp .gt 28, 3) := by decide +kernel
theorem dX5_hindranceOf_47 : decode cX5_hindranceOf 47 = .ok (.aload_n 0, 1) := by decide +kernel
theorem dX5_hindranceOf_48 : decode cX5_hindranceOf 48 = .ok (.iload_n 1, 1) := by decide +kernel
theorem dX5_hindranceOf_49 : decode cX5_hindranceOf 49 = .ok (.aload_n 3, 1) := by decide +kernel
theorem dX5_hindranceOf_50 : decode cX5_hindranceOf 50 = .ok (.iload 4, 2) := by decide +kernel
theorem dX5_hindranceOf_52 : decode cX5_hindranceOf 52 = .ok (.iload 5, 2) := by decide +kernel
theorem dX5_hindranceOf_54 : decode cX5_hindranceOf 54 = .ok (.invokevirtual 103, 3) := by decide +kernel
theorem dX5_hindranceOf_57 : decode cX5_hindranceOf 57 = .ok (.iload_n 2, 1) := by decide +kernel
theorem dX5_hindranceOf_58 : decode cX5_hindranceOf 58 = .ok (.invokevirtual 108, 3) := by decide +kernel
theorem dX5_hindranceOf_61 : decode cX5_hindranceOf 61 = .ok (.ifCond .ne 5, 3) := by decide +kernel
theorem dX5_hindranceOf_64 : decode cX5_hindranceOf 64 = .ok (.iconst 1, 1) := by decide +kernel
theorem dX5_hindranceOf_65 : decode cX5_hindranceOf 65 = .ok (.ireturn, 1) := by decide +kernel
theorem dX5_hindranceOf_66 : decode cX5_hindranceOf 66 = .ok (.iinc 5 1, 3) := by decide +kernel
theorem dX5_hindranceOf_69 : decode cX5_hindranceOf 69 = .ok (.goto (-28), 3) := by decide +kernel
theorem dX5_hindranceOf_72 : decode cX5_hindranceOf 72 = .ok (.aload_n 3, 1) := by decide +kernel
theorem dX5_hindranceOf_73 : decode cX5_hindranceOf 73 = .ok (.iload 4, 2) := by decide +kernel
theorem dX5_hindranceOf_75 : decode cX5_hindranceOf 75 = .ok (.invokevirtual 112, 3) := by decide +kernel
theorem dX5_hindranceOf_78 : decode cX5_hindranceOf 78 = .ok (.istore 5, 2) := by decide +kernel
theorem dX5_hindranceOf_80 : decode cX5_hindranceOf 80 = .ok (.iload 5, 2) := by decide +kernel
theorem dX5_hindranceOf_82 : decode cX5_hindranceOf 82 = .ok (.bipush (-6), 2) := by decide +kernel
theorem dX5_hindranceOf_84 : decode cX5_hindranceOf 84 = .ok (.if_icmp .eq 23, 3) := by decide +kernel
theorem dX5_hindranceOf_87 : decode cX5_hindranceOf 87 = .ok (.iload 5, 2) := by decide +kernel
theorem dX5_hindranceOf_89 : decode cX5_hindranceOf 89 = .ok (.aload_n 0, 1) := by decide +kernel
theorem dX5_hindranceOf_90 : decode cX5_hindranceOf 90 = .ok (.getfield 71, 3) := by decide +kernel
theorem dX5_hindranceOf_93 : decode cX5_hindranceOf 93 = .ok (.if_icmp .eq 14, 3) := by decide +kernel
theorem dX5_hindranceOf_96 : decode cX5_hindranceOf 96 = .ok (.aload_n 0, 1) := by decide +kernel
theorem dX5_hindranceOf_97 : decode cX5_hindranceOf 97 = .ok (.getfield 42, 3) := by decide +kernel
theorem dX5_hindranceOf_100 : decode cX5_hindranceOf 100 = .ok (.iload 5, 2) := by decide +kernel
theorem dX5_hindranceOf_102 : decode cX5_hindranceOf 102 = .ok (.iaload, 1) := by decide +kernel
theorem dX5_hindranceOf_103 : decode cX5_hindranceOf 103 = .ok (.iload_n 2, 1) := by decide +kernel
theorem dX5_hindranceOf_104 : decode cX5_hindranceOf 104 = .ok (.if_icmp .gt 5, 3) := by decide +kernel
theorem dX5_hindranceOf_107 : decode cX5_hindranceOf 107 = .ok (.iconst 0, 1) := by decide +kernel
theorem dX5_hindranceOf_108 : decode cX5_hindranceOf 108 = .ok (.ireturn, 1) := by decide +kernel
theorem dX5_hindranceOf_109 : decode cX5_hindranceOf 109 = .ok (.aload_n 0, 1) := by decide +kernel
theorem dX5_hindranceOf_110 : decode cX5_hindranceOf 110 = .ok (.getfield 45, 3) := by decide +kernel
theorem dX5_hindranceOf_113 : decode cX5_hindranceOf 113 = .ok (.iload 5, 2) := by decide +kernel
theorem dX5_hindranceOf_115 : decode cX5_hindranceOf 115 = .ok (.iaload, 1) := by decide +kernel
theorem dX5_hindranceOf_116 : decode cX5_hindranceOf 116 = .ok (.iload_n 1, 1) := by decide +kernel
theorem dX5_hindranceOf_117 : decode cX5_hindranceOf 117 = .ok (.if_icmp .ne 7, 3) := by decide +kernel
theorem dX5_hindranceOf_120 : decode cX5_hindranceOf 120 = .ok (.iconst 2, 1) := by decide +kernel
theorem dX5_hindranceOf_121 : decode cX5_hindranceOf 121 = .ok (.goto 4, 3) := by decide +kernel
theorem dX5_hindranceOf_124 : decode cX5_hindranceOf 124 = .ok (.iconst 3, 1) := by decide +kernel
theorem dX5_hindranceOf_125 : decode cX5_hindranceOf 125 = .ok (.ireturn, 1) := by decide +kernel
theorem dX5_isReady_0 : decode cX5_isReady 0 = .ok (.iload_n 2, 1) := by decide +kernel
theorem dX5_isReady_1 : decode cX5_isReady 1 = .ok (.ifCond .lt 20, 3) := by decide +kernel
theorem dX5_isReady_4 : decode cX5_isReady 4 = .ok (.iload_n 2, 1) := by decide +kernel
theorem dX5_isReady_5 : decode cX5_isReady 5 = .ok (.iconst 4, 1) := by decide +kernel
theorem dX5_isReady_6 : decode cX5_isReady 6 = .ok (.if_icmp .ge 15, 3) := by decide +kernel
theorem dX5_isReady_9 : decode cX5_isReady 9 = .ok (.aload_n 0, 1) := by decide +kernel
theorem dX5_isReady_10 : decode cX5_isReady 10 = .ok (.getfield 39, 3) := by decide +kernel
theorem dX5_isReady_13 : decode cX5_isReady 13 = .ok (.iload_n 1, 1) := by decide +kernel
theorem dX5_isReady_14 : decode cX5_isReady 14 = .ok (.aaload, 1) := by decide +kernel
theorem dX5_isReady_15 : decode cX5_isReady 15 = .ok (.iload_n 2, 1) := by decide +kernel
theorem dX5_isReady_16 : decode cX5_isReady 16 = .ok (.iaload, 1) := by decide +kernel
theorem dX5_isReady_17 : decode cX5_isReady 17 = .ok (.iload_n 3, 1) := by decide +kernel
theorem dX5_isReady_18 : decode cX5_isReady 18 = .ok (.if_icmp .gt 7, 3) := by decide +kernel
theorem dX5_isReady_21 : decode cX5_isReady 21 = .ok (.iconst 1, 1) := by decide +kernel
theorem dX5_isReady_22 : decode cX5_isReady 22 = .ok (.goto 4, 3) := by decide +kernel
theorem dX5_isReady_25 : decode cX5_isReady 25 = .ok (.iconst 0, 1) := by decide +kernel
theorem dX5_isReady_26 : decode cX5_isReady 26 = .ok (.ireturn, 1) := by decide +kernel
theorem dX5_starterNow_0 : decode cX5_starterNow 0 = .ok (.iload_n 1, 1) := by decide +kernel
theorem dX5_starterNow_1 : decode cX5_starterNow 1 = .ok (.iconst 2, 1) := by decide +kernel
theorem dX5_starterNow_2 : decode cX5_starterNow 2 = .ok (.invokestatic 115, 3) := by decide +kernel
theorem dX5_starterNow_5 : decode cX5_starterNow 5 = .ok (.istore_n 2, 1) := by decide +kernel
theorem dX5_starterNow_6 : decode cX5_starterNow 6 = .ok (.iconst 1, 1) := by decide +kernel
theorem dX5_starterNow_7 : decode cX5_starterNow 7 = .ok (.iload_n 2, 1) := by decide +kernel
theorem dX5_starterNow_8 : decode cX5_starterNow 8 = .ok (.isub, 1) := by decide +kernel
theorem dX5_starterNow_9 : decode cX5_starterNow 9 = .ok (.istore_n 3, 1) := by decide +kernel
theorem dX5_starterNow_10 : decode cX5_starterNow 10 = .ok (.aload_n 0, 1) := by decide +kernel
theorem dX5_starterNow_11 : decode cX5_starterNow 11 = .ok (.getfield 36, 3) := by decide +kernel
theorem dX5_starterNow_14 : decode cX5_starterNow 14 = .ok (.iload_n 2, 1) := by decide +kernel
theorem dX5_starterNow_15 : decode cX5_starterNow 15 = .ok (.iaload, 1) := by decide +kernel
theorem dX5_starterNow_16 : decode cX5_starterNow 16 = .ok (.ifCond .ne 7, 3) := by decide +kernel
theorem dX5_starterNow_19 : decode cX5_starterNow 19 = .ok (.iconst 1, 1) := by decide +kernel
theorem dX5_starterNow_20 : decode cX5_starterNow 20 = .ok (.goto 4, 3) := by decide +kernel
theorem dX5_starterNow_23 : decode cX5_starterNow 23 = .ok (.iconst 0, 1) := by decide +kernel
theorem dX5_starterNow_24 : decode cX5_starterNow 24 = .ok (.istore 4, 2) := by decide +kernel
theorem dX5_starterNow_26 : decode cX5_starterNow 26 = .ok (.aload_n 0, 1) := by decide +kernel
theorem dX5_starterNow_27 : decode cX5_starterNow 27 = .ok (.getfield 36, 3) := by decide +kernel
theorem dX5_starterNow_30 : decode cX5_starterNow 30 = .ok (.iload_n 3, 1) := by decide +kernel
theorem dX5_starterNow_31 : decode cX5_starterNow 31 = .ok (.iaload, 1) := by decide +kernel
theorem dX5_starterNow_32 : decode cX5_starterNow 32 = .ok (.ifCond .ne 19, 3) := by decide +kernel
theorem dX5_starterNow_35 : decode cX5_starterNow 35 = .ok (.aload_n 0, 1) := by decide +kernel
theorem dX5_starterNow_36 : decode cX5_starterNow 36 = .ok (.getfield 48, 3) := by decide +kernel
theorem dX5_starterNow_39 : decode cX5_starterNow 39 = .ok (.getfield 120, 3) := by decide +kernel
theorem dX5_starterNow_42 : decode cX5_starterNow 42 = .ok (.iconst 0, 1) := by decide +kernel
theorem dX5_starterNow_43 : decode cX5_starterNow 43 = .ok (.iaload, 1) := by decide +kernel
theorem dX5_starterNow_44 : decode cX5_starterNow 44 = .ok (.ifCond .eq 7, 3) := by decide +kernel
theorem dX5_starterNow_47 : decode cX5_starterNow 47 = .ok (.iconst 1, 1) := by decide +kernel
theorem dX5_starterNow_48 : decode cX5_starterNow 48 = .ok (.goto 4, 3) := by decide +kernel
theorem dX5_starterNow_51 : decode cX5_starterNow 51 = .ok (.iconst 0, 1) := by decide +kernel
theorem dX5_starterNow_52 : decode cX5_starterNow 52 = .ok (.istore 5, 2) := by decide +kernel
theorem dX5_starterNow_54 : decode cX5_starterNow 54 = .ok (.iload 4, 2) := by decide +kernel
theorem dX5_starterNow_56 : decode cX5_starterNow 56 = .ok (.ifCond .eq 40, 3) := by decide +kernel
theorem dX5_starterNow_59 : decode cX5_starterNow 59 = .ok (.iload 5, 2) := by decide +kernel
theorem dX5_starterNow_61 : decode cX5_starterNow 61 = .ok (.ifCond .eq 35, 3) := by decide +kernel
theorem dX5_starterNow_64 : decode cX5_starterNow 64 = .ok (.aload_n 0, 1) := by decide +kernel
theorem dX5_starterNow_65 : decode cX5_starterNow 65 = .ok (.getfield 48, 3) := by decide +kernel
theorem dX5_starterNow_68 : decode cX5_starterNow 68 = .ok (.getfield 120, 3) := by decide +kernel
theorem dX5_starterNow_71 : decode cX5_starterNow 71 = .ok (.iconst 0, 1) := by decide +kernel
theorem dX5_starterNow_72 : decode cX5_starterNow 72 = .ok (.iaload, 1) := by decide +kernel
theorem dX5_starterNow_73 : decode cX5_starterNow 73 = .ok (.iconst 2, 1) := by decide +kernel
theorem dX5_starterNow_74 : decode cX5_starterNow 74 = .ok (.if_icmp .ne 22, 3) := by decide +kernel
theorem dX5_starterNow_77 : decode cX5_starterNow 77 = .ok (.aload_n 0, 1) := by decide +kernel
theorem dX5_starterNow_78 : decode cX5_starterNow 78 = .ok (.iload_n 3, 1) := by decide +kernel
theorem dX5_starterNow_79 : decode cX5_starterNow 79 = .ok (.invokevirtual 123, 3) := by decide +kernel
theorem dX5_starterNow_82 : decode cX5_starterNow 82 = .ok (.aload_n 0, 1) := by decide +kernel
theorem dX5_starterNow_83 : decode cX5_starterNow 83 = .ok (.iload_n 2, 1) := by decide +kernel
theorem dX5_starterNow_84 : decode cX5_starterNow 84 = .ok (.invokevirtual 123, 3) := by decide +kernel
theorem dX5_starterNow_87 : decode cX5_starterNow 87 = .ok (.if_icmp .ge 7, 3) := by decide +kernel
theorem dX5_starterNow_90 : decode cX5_starterNow 90 = .ok (.iload_n 3, 1) := by decide +kernel
theorem dX5_starterNow_91 : decode cX5_starterNow 91 = .ok (.goto 4, 3) := by decide +kernel
theorem dX5_starterNow_94 : decode cX5_starterNow 94 = .ok (.iload_n 2, 1) := by decide +kernel
theorem dX5_starterNow_95 : decode cX5_starterNow 95 = .ok (.ireturn, 1) := by decide +kernel
theorem dX5_starterNow_96 : decode cX5_starterNow 96 = .ok (.iload 4, 2) := by decide +kernel
theorem dX5_starterNow_98 : decode cX5_starterNow 98 = .ok (.ifCond .eq 5, 3) := by decide +kernel
theorem dX5_starterNow_101 : decode cX5_starterNow 101 = .ok (.iload_n 2, 1) := by decide +kernel
theorem dX5_starterNow_102 : decode cX5_starterNow 102 = .ok (.ireturn, 1) := by decide +kernel
theorem dX5_starterNow_103 : decode cX5_starterNow 103 = .ok (.iload 5, 2) := by decide +kernel
theorem dX5_starterNow_105 : decode cX5_starterNow 105 = .ok (.ifCond .eq 7, 3) := by decide +kernel
theorem dX5_starterNow_108 : decode cX5_starterNow 108 = .ok (.iload_n 3, 1) := by decide +kernel
theorem dX5_starterNow_109 : decode cX5_starterNow 109 = .ok (.goto 5, 3) := by decide +kernel
theorem dX5_starterNow_112 : decode cX5_starterNow 112 = .ok (.bipush (-6), 2) := by decide +kernel
theorem dX5_starterNow_114 : decode cX5_starterNow 114 = .ok (.ireturn, 1) := by decide +kernel
theorem dX5_start_0 : decode cX5_start 0 = .ok (.aload_n 0, 1) := by decide +kernel
theorem dX5_start_1 : decode cX5_start 1 = .ok (.getfield 18, 3) := by decide +kernel
theorem dX5_start_4 : decode cX5_start 4 = .ok (.iload_n 1, 1) := by decide +kernel
theorem dX5_start_5 : decode cX5_start 5 = .ok (.iaload, 1) := by decide +kernel
theorem dX5_start_6 : decode cX5_start 6 = .ok (.istore_n 3, 1) := by decide +kernel
theorem dX5_start_7 : decode cX5_start 7 = .ok (.aload_n 0, 1) := by decide +kernel
theorem dX5_start_8 : decode cX5_start 8 = .ok (.getfield 12, 3) := by decide +kernel
theorem dX5_start_11 : decode cX5_start 11 = .ok (.iload_n 1, 1) := by decide +kernel
theorem dX5_start_12 : decode cX5_start 12 = .ok (.aaload, 1) := by decide +kernel
theorem dX5_start_13 : decode cX5_start 13 = .ok (.getfield 100, 3) := by decide +kernel
theorem dX5_start_16 : decode cX5_start 16 = .ok (.iload_n 3, 1) := by decide +kernel
theorem dX5_start_17 : decode cX5_start 17 = .ok (.iaload, 1) := by decide +kernel
theorem dX5_start_18 : decode cX5_start 18 = .ok (.istore 4, 2) := by decide +kernel
theorem dX5_start_20 : decode cX5_start 20 = .ok (.aload_n 0, 1) := by decide +kernel
theorem dX5_start_21 : decode cX5_start 21 = .ok (.getfield 48, 3) := by decide +kernel
theorem dX5_start_24 : decode cX5_start 24 = .ok (.getfield 59, 3) := by decide +kernel
theorem dX5_start_27 : decode cX5_start 27 = .ok (.iload_n 1, 1) := by decide +kernel
theorem dX5_start_28 : decode cX5_start 28 = .ok (.aaload, 1) := by decide +kernel
theorem dX5_start_29 : decode cX5_start 29 = .ok (.iload 4, 2) := by decide +kernel
theorem dX5_start_31 : decode cX5_start 31 = .ok (.invokevirtual 112, 3) := by decide +kernel
theorem dX5_start_34 : decode cX5_start 34 = .ok (.istore 5, 2) := by decide +kernel
theorem dX5_start_36 : decode cX5_start 36 = .ok (.iload_n 2, 1) := by decide +kernel
theorem dX5_start_37 : decode cX5_start 37 = .ok (.aload_n 0, 1) := by decide +kernel
theorem dX5_start_38 : decode cX5_start 38 = .ok (.getfield 48, 3) := by decide +kernel
theorem dX5_start_41 : decode cX5_start 41 = .ok (.iload 5, 2) := by decide +kernel
theorem dX5_start_43 : decode cX5_start 43 = .ok (.invokevirtual 126, 3) := by decide +kernel
theorem dX5_start_46 : decode cX5_start 46 = .ok (.iadd, 1) := by decide +kernel
theorem dX5_start_47 : decode cX5_start 47 = .ok (.istore 6, 2) := by decide +kernel
theorem dX5_start_49 : decode cX5_start 49 = .ok (.aload_n 0, 1) := by decide +kernel
theorem dX5_start_50 : decode cX5_start 50 = .ok (.getfield 27, 3) := by decide +kernel
theorem dX5_start_53 : decode cX5_start 53 = .ok (.iload_n 1, 1) := by decide +kernel
theorem dX5_start_54 : decode cX5_start 54 = .ok (.aaload, 1) := by decide +kernel
theorem dX5_start_55 : decode cX5_start 55 = .ok (.iload_n 3, 1) := by decide +kernel
theorem dX5_start_56 : decode cX5_start 56 = .ok (.iload_n 2, 1) := by decide +kernel
theorem dX5_start_57 : decode cX5_start 57 = .ok (.iastore, 1) := by decide +kernel
theorem dX5_start_58 : decode cX5_start 58 = .ok (.aload_n 0, 1) := by decide +kernel
theorem dX5_start_59 : decode cX5_start 59 = .ok (.getfield 30, 3) := by decide +kernel
theorem dX5_start_62 : decode cX5_start 62 = .ok (.iload_n 1, 1) := by decide +kernel
theorem dX5_start_63 : decode cX5_start 63 = .ok (.aaload, 1) := by decide +kernel
theorem dX5_start_64 : decode cX5_start 64 = .ok (.iload_n 3, 1) := by decide +kernel
theorem dX5_start_65 : decode cX5_start 65 = .ok (.iload 6, 2) := by decide +kernel
theorem dX5_start_67 : decode cX5_start 67 = .ok (.iastore, 1) := by decide +kernel
theorem dX5_start_68 : decode cX5_start 68 = .ok (.aload_n 0, 1) := by decide +kernel
theorem dX5_start_69 : decode cX5_start 69 = .ok (.getfield 18, 3) := by decide +kernel
theorem dX5_start_72 : decode cX5_start 72 = .ok (.iload_n 1, 1) := by decide +kernel
theorem dX5_start_73 : decode cX5_start 73 = .ok (.iload_n 3, 1) := by decide +kernel
theorem dX5_start_74 : decode cX5_start 74 = .ok (.iconst 1, 1) := by decide +kernel
theorem dX5_start_75 : decode cX5_start 75 = .ok (.iadd, 1) := by decide +kernel
theorem dX5_start_76 : decode cX5_start 76 = .ok (.iastore, 1) := by decide +kernel
theorem dX5_start_77 : decode cX5_start 77 = .ok (.aload_n 0, 1) := by decide +kernel
theorem dX5_start_78 : decode cX5_start 78 = .ok (.getfield 22, 3) := by decide +kernel
theorem dX5_start_81 : decode cX5_start 81 = .ok (.iload_n 1, 1) := by decide +kernel
theorem dX5_start_82 : decode cX5_start 82 = .ok (.aload_n 0, 1) := by decide +kernel
theorem dX5_start_83 : decode cX5_start 83 = .ok (.getfield 22, 3) := by decide +kernel
theorem dX5_start_86 : decode cX5_start 86 = .ok (.iload_n 1, 1) := by decide +kernel
theorem dX5_start_87 : decode cX5_start 87 = .ok (.iaload, 1) := by decide +kernel
theorem dX5_start_88 : decode cX5_start 88 = .ok (.iload 6, 2) := by decide +kernel
theorem dX5_start_90 : decode cX5_start 90 = .ok (.invokestatic 129, 3) := by decide +kernel
theorem dX5_start_93 : decode cX5_start 93 = .ok (.iastore, 1) := by decide +kernel
theorem dX5_start_94 : decode cX5_start 94 = .ok (.aload_n 0, 1) := by decide +kernel
theorem dX5_start_95 : decode cX5_start 95 = .ok (.getfield 48, 3) := by decide +kernel
theorem dX5_start_98 : decode cX5_start 98 = .ok (.getfield 59, 3) := by decide +kernel
theorem dX5_start_101 : decode cX5_start 101 = .ok (.iload_n 1, 1) := by decide +kernel
theorem dX5_start_102 : decode cX5_start 102 = .ok (.aaload, 1) := by decide +kernel
theorem dX5_start_103 : decode cX5_start 103 = .ok (.iload 4, 2) := by decide +kernel
theorem dX5_start_105 : decode cX5_start 105 = .ok (.invokevirtual 132, 3) := by decide +kernel
theorem dX5_start_108 : decode cX5_start 108 = .ok (.istore 7, 2) := by decide +kernel
theorem dX5_start_110 : decode cX5_start 110 = .ok (.iload 7, 2) := by decide +kernel
theorem dX5_start_112 : decode cX5_start 112 = .ok (.ifCond .lt 20, 3) := by decide +kernel
theorem dX5_start_115 : decode cX5_start 115 = .ok (.iload 7, 2) := by decide +kernel
theorem dX5_start_117 : decode cX5_start 117 = .ok (.iconst 4, 1) := by decide +kernel
theorem dX5_start_118 : decode cX5_start 118 = .ok (.if_icmp .ge 14, 3) := by decide +kernel
theorem dX5_start_121 : decode cX5_start 121 = .ok (.aload_n 0, 1) := by decide +kernel
theorem dX5_start_122 : decode cX5_start 122 = .ok (.getfield 39, 3) := by decide +kernel
theorem dX5_start_125 : decode cX5_start 125 = .ok (.iload_n 1, 1) := by decide +kernel
theorem dX5_start_126 : decode cX5_start 126 = .ok (.aaload, 1) := by decide +kernel
theorem dX5_start_127 : decode cX5_start 127 = .ok (.iload 7, 2) := by decide +kernel
theorem dX5_start_129 : decode cX5_start 129 = .ok (.iload 6, 2) := by decide +kernel
theorem dX5_start_131 : decode cX5_start 131 = .ok (.iastore, 1) := by decide +kernel
theorem dX5_start_132 : decode cX5_start 132 = .ok (.iload 5, 2) := by decide +kernel
theorem dX5_start_134 : decode cX5_start 134 = .ok (.bipush (-6), 2) := by decide +kernel
theorem dX5_start_136 : decode cX5_start 136 = .ok (.if_icmp .eq 20, 3) := by decide +kernel
theorem dX5_start_139 : decode cX5_start 139 = .ok (.aload_n 0, 1) := by decide +kernel
theorem dX5_start_140 : decode cX5_start 140 = .ok (.getfield 42, 3) := by decide +kernel
theorem dX5_start_143 : decode cX5_start 143 = .ok (.iload 5, 2) := by decide +kernel
theorem dX5_start_145 : decode cX5_start 145 = .ok (.iload 6, 2) := by decide +kernel
theorem dX5_start_147 : decode cX5_start 147 = .ok (.iastore, 1) := by decide +kernel
theorem dX5_start_148 : decode cX5_start 148 = .ok (.aload_n 0, 1) := by decide +kernel
theorem dX5_start_149 : decode cX5_start 149 = .ok (.getfield 45, 3) := by decide +kernel
theorem dX5_start_152 : decode cX5_start 152 = .ok (.iload 5, 2) := by decide +kernel
theorem dX5_start_154 : decode cX5_start 154 = .ok (.iload_n 1, 1) := by decide +kernel
theorem dX5_start_155 : decode cX5_start 155 = .ok (.iastore, 1) := by decide +kernel
theorem dX5_start_156 : decode cX5_start 156 = .ok (.return_, 1) := by decide +kernel
theorem dX5_length_0 : decode cX5_length 0 = .ok (.aload_n 0, 1) := by decide +kernel
theorem dX5_length_1 : decode cX5_length 1 = .ok (.getfield 22, 3) := by decide +kernel
theorem dX5_length_4 : decode cX5_length 4 = .ok (.iconst 0, 1) := by decide +kernel
theorem dX5_length_5 : decode cX5_length 5 = .ok (.iaload, 1) := by decide +kernel
theorem dX5_length_6 : decode cX5_length 6 = .ok (.aload_n 0, 1) := by decide +kernel
theorem dX5_length_7 : decode cX5_length 7 = .ok (.getfield 22, 3) := by decide +kernel
theorem dX5_length_10 : decode cX5_length 10 = .ok (.iconst 1, 1) := by decide +kernel
theorem dX5_length_11 : decode cX5_length 11 = .ok (.iaload, 1) := by decide +kernel
theorem dX5_length_12 : decode cX5_length 12 = .ok (.invokestatic 129, 3) := by decide +kernel
theorem dX5_length_15 : decode cX5_length 15 = .ok (.ireturn, 1) := by decide +kernel
theorem dX5_latestStart_0 : decode cX5_latestStart 0 = .ok (.aload_n 0, 1) := by decide +kernel
theorem dX5_latestStart_1 : decode cX5_latestStart 1 = .ok (.getfield 18, 3) := by decide +kernel
theorem dX5_latestStart_4 : decode cX5_latestStart 4 = .ok (.iload_n 1, 1) := by decide +kernel
theorem dX5_latestStart_5 : decode cX5_latestStart 5 = .ok (.iaload, 1) := by decide +kernel
theorem dX5_latestStart_6 : decode cX5_latestStart 6 = .ok (.istore_n 2, 1) := by decide +kernel
theorem dX5_latestStart_7 : decode cX5_latestStart 7 = .ok (.iload_n 2, 1) := by decide +kernel
theorem dX5_latestStart_8 : decode cX5_latestStart 8 = .ok (.ifCond .le 16, 3) := by decide +kernel
theorem dX5_latestStart_11 : decode cX5_latestStart 11 = .ok (.aload_n 0, 1) := by decide +kernel
theorem dX5_latestStart_12 : decode cX5_latestStart 12 = .ok (.getfield 27, 3) := by decide +kernel
theorem dX5_latestStart_15 : decode cX5_latestStart 15 = .ok (.iload_n 1, 1) := by decide +kernel
theorem dX5_latestStart_16 : decode cX5_latestStart 16 = .ok (.aaload, 1) := by decide +kernel
theorem dX5_latestStart_17 : decode cX5_latestStart 17 = .ok (.iload_n 2, 1) := by decide +kernel
theorem dX5_latestStart_18 : decode cX5_latestStart 18 = .ok (.iconst 1, 1) := by decide +kernel
theorem dX5_latestStart_19 : decode cX5_latestStart 19 = .ok (.isub, 1) := by decide +kernel
theorem dX5_latestStart_20 : decode cX5_latestStart 20 = .ok (.iaload, 1) := by decide +kernel
theorem dX5_latestStart_21 : decode cX5_latestStart 21 = .ok (.goto 5, 3) := by decide +kernel
theorem dX5_latestStart_24 : decode cX5_latestStart 24 = .ok (.bipush (-6), 2) := by decide +kernel
theorem dX5_latestStart_26 : decode cX5_latestStart 26 = .ok (.ireturn, 1) := by decide +kernel
theorem dX5_waitAhead_0 : decode cX5_waitAhead 0 = .ok (.iload_n 2, 1) := by decide +kernel
theorem dX5_waitAhead_1 : decode cX5_waitAhead 1 = .ok (.ifCond .le 18, 3) := by decide +kernel
theorem dX5_waitAhead_4 : decode cX5_waitAhead 4 = .ok (.aload_n 0, 1) := by decide +kernel
theorem dX5_waitAhead_5 : decode cX5_waitAhead 5 = .ok (.getfield 27, 3) := by decide +kernel
theorem dX5_waitAhead_8 : decode cX5_waitAhead 8 = .ok (.iload_n 1, 1) := by decide +kernel
theorem dX5_waitAhead_9 : decode cX5_waitAhead 9 = .ok (.aaload, 1) := by decide +kernel
theorem dX5_waitAhead_10 : decode cX5_waitAhead 10 = .ok (.iload_n 2, 1) := by decide +kernel
theorem dX5_waitAhead_11 : decode cX5_waitAhead 11 = .ok (.iconst 1, 1) := by decide +kernel
theorem dX5_waitAhead_12 : decode cX5_waitAhead 12 = .ok (.isub, 1) := by decide +kernel
theorem dX5_waitAhead_13 : decode cX5_waitAhead 13 = .ok (.iaload, 1) := by decide +kernel
theorem dX5_waitAhead_14 : decode cX5_waitAhead 14 = .ok (.iconst 1, 1) := by decide +kernel
theorem dX5_waitAhead_15 : decode cX5_waitAhead 15 = .ok (.iadd, 1) := by decide +kernel
theorem dX5_waitAhead_16 : decode cX5_waitAhead 16 = .ok (.goto 4, 3) := by decide +kernel
theorem dX5_waitAhead_19 : decode cX5_waitAhead 19 = .ok (.iconst 0, 1) := by decide +kernel
theorem dX5_waitAhead_20 : decode cX5_waitAhead 20 = .ok (.istore_n 3, 1) := by decide +kernel
theorem dX5_waitAhead_21 : decode cX5_waitAhead 21 = .ok (.aload_n 0, 1) := by decide +kernel
theorem dX5_waitAhead_22 : decode cX5_waitAhead 22 = .ok (.getfield 27, 3) := by decide +kernel
theorem dX5_waitAhead_25 : decode cX5_waitAhead 25 = .ok (.iload_n 1, 1) := by decide +kernel
theorem dX5_waitAhead_26 : decode cX5_waitAhead 26 = .ok (.aaload, 1) := by decide +kernel
theorem dX5_waitAhead_27 : decode cX5_waitAhead 27 = .ok (.iload_n 2, 1) := by decide +kernel
theorem dX5_waitAhead_28 : decode cX5_waitAhead 28 = .ok (.iaload, 1) := by decide +kernel
theorem dX5_waitAhead_29 : decode cX5_waitAhead 29 = .ok (.iload_n 3, 1) := by decide +kernel
theorem dX5_waitAhead_30 : decode cX5_waitAhead 30 = .ok (.isub, 1) := by decide +kernel
theorem dX5_waitAhead_31 : decode cX5_waitAhead 31 = .ok (.ireturn, 1) := by decide +kernel
theorem dX5_stepsIn_0 : decode cX5_stepsIn 0 = .ok (.iconst 0, 1) := by decide +kernel
theorem dX5_stepsIn_1 : decode cX5_stepsIn 1 = .ok (.istore_n 3, 1) := by decide +kernel
theorem dX5_stepsIn_2 : decode cX5_stepsIn 2 = .ok (.iconst 0, 1) := by decide +kernel
theorem dX5_stepsIn_3 : decode cX5_stepsIn 3 = .ok (.istore 4, 2) := by decide +kernel
theorem dX5_stepsIn_5 : decode cX5_stepsIn 5 = .ok (.iload 4, 2) := by decide +kernel
theorem dX5_stepsIn_7 : decode cX5_stepsIn 7 = .ok (.aload_n 0, 1) := by decide +kernel
theorem dX5_stepsIn_8 : decode cX5_stepsIn 8 = .ok (.getfield 18, 3) := by decide +kernel
theorem dX5_stepsIn_11 : decode cX5_stepsIn 11 = .ok (.iload_n 1, 1) := by decide +kernel
theorem dX5_stepsIn_12 : decode cX5_stepsIn 12 = .ok (.iaload, 1) := by decide +kernel
theorem dX5_stepsIn_13 : decode cX5_stepsIn 13 = .ok (.if_icmp .ge 40, 3) := by decide +kernel
theorem dX5_stepsIn_16 : decode cX5_stepsIn 16 = .ok (.aload_n 0, 1) := by decide +kernel
theorem dX5_stepsIn_17 : decode cX5_stepsIn 17 = .ok (.getfield 48, 3) := by decide +kernel
theorem dX5_stepsIn_20 : decode cX5_stepsIn 20 = .ok (.getfield 59, 3) := by decide +kernel
theorem dX5_stepsIn_23 : decode cX5_stepsIn 23 = .ok (.iload_n 1, 1) := by decide +kernel
theorem dX5_stepsIn_24 : decode cX5_stepsIn 24 = .ok (.aaload, 1) := by decide +kernel
theorem dX5_stepsIn_25 : decode cX5_stepsIn 25 = .ok (.aload_n 0, 1) := by decide +kernel
theorem dX5_stepsIn_26 : decode cX5_stepsIn 26 = .ok (.getfield 12, 3) := by decide +kernel
theorem dX5_stepsIn_29 : decode cX5_stepsIn 29 = .ok (.iload_n 1, 1) := by decide +kernel
theorem dX5_stepsIn_30 : decode cX5_stepsIn 30 = .ok (.aaload, 1) := by decide +kernel
theorem dX5_stepsIn_31 : decode cX5_stepsIn 31 = .ok (.getfield 100, 3) := by decide +kernel
theorem dX5_stepsIn_34 : decode cX5_stepsIn 34 = .ok (.iload 4, 2) := by decide +kernel
theorem dX5_stepsIn_36 : decode cX5_stepsIn 36 = .ok (.iaload, 1) := by decide +kernel
theorem dX5_stepsIn_37 : decode cX5_stepsIn 37 = .ok (.invokevirtual 112, 3) := by decide +kernel
theorem dX5_stepsIn_40 : decode cX5_stepsIn 40 = .ok (.iload_n 2, 1) := by decide +kernel
theorem dX5_stepsIn_41 : decode cX5_stepsIn 41 = .ok (.if_icmp .ne 6, 3) := by decide +kernel
theorem dX5_stepsIn_44 : decode cX5_stepsIn 44 = .ok (.iinc 3 1, 3) := by decide +kernel
theorem dX5_stepsIn_47 : decode cX5_stepsIn 47 = .ok (.iinc 4 1, 3) := by decide +kernel
theorem dX5_stepsIn_50 : decode cX5_stepsIn 50 = .ok (.goto (-45), 3) := by decide +kernel
theorem dX5_stepsIn_53 : decode cX5_stepsIn 53 = .ok (.iload_n 3, 1) := by decide +kernel
theorem dX5_stepsIn_54 : decode cX5_stepsIn 54 = .ok (.ireturn, 1) := by decide +kernel
theorem dX5_ticksIn_0 : decode cX5_ticksIn 0 = .ok (.aload_n 0, 1) := by decide +kernel
theorem dX5_ticksIn_1 : decode cX5_ticksIn 1 = .ok (.iconst 0, 1) := by decide +kernel
theorem dX5_ticksIn_2 : decode cX5_ticksIn 2 = .ok (.iload_n 1, 1) := by decide +kernel
theorem dX5_ticksIn_3 : decode cX5_ticksIn 3 = .ok (.invokevirtual 135, 3) := by decide +kernel
theorem dX5_ticksIn_6 : decode cX5_ticksIn 6 = .ok (.aload_n 0, 1) := by decide +kernel
theorem dX5_ticksIn_7 : decode cX5_ticksIn 7 = .ok (.iconst 1, 1) := by decide +kernel
theorem dX5_ticksIn_8 : decode cX5_ticksIn 8 = .ok (.iload_n 1, 1) := by decide +kernel
theorem dX5_ticksIn_9 : decode cX5_ticksIn 9 = .ok (.invokevirtual 135, 3) := by decide +kernel
theorem dX5_ticksIn_12 : decode cX5_ticksIn 12 = .ok (.iadd, 1) := by decide +kernel
theorem dX5_ticksIn_13 : decode cX5_ticksIn 13 = .ok (.aload_n 0, 1) := by decide +kernel
theorem dX5_ticksIn_14 : decode cX5_ticksIn 14 = .ok (.getfield 48, 3) := by decide +kernel
theorem dX5_ticksIn_17 : decode cX5_ticksIn 17 = .ok (.iload_n 1, 1) := by decide +kernel
theorem dX5_ticksIn_18 : decode cX5_ticksIn 18 = .ok (.invokevirtual 126, 3) := by decide +kernel
theorem dX5_ticksIn_21 : decode cX5_ticksIn 21 = .ok (.imul, 1) := by decide +kernel
theorem dX5_ticksIn_22 : decode cX5_ticksIn 22 = .ok (.ireturn, 1) := by decide +kernel
theorem dX5_starterIn_0 : decode cX5_starterIn 0 = .ok (.iconst 0, 1) := by decide +kernel
theorem dX5_starterIn_1 : decode cX5_starterIn 1 = .ok (.istore_n 2, 1) := by decide +kernel
theorem dX5_starterIn_2 : decode cX5_starterIn 2 = .ok (.iload_n 2, 1) := by decide +kernel
theorem dX5_starterIn_3 : decode cX5_starterIn 3 = .ok (.iconst 2, 1) := by decide +kernel
theorem dX5_starterIn_4 : decode cX5_starterIn 4 = .ok (.if_icmp .ge 41, 3) := by decide +kernel
theorem dX5_starterIn_7 : decode cX5_starterIn 7 = .ok (.iconst 0, 1) := by decide +kernel
theorem dX5_starterIn_8 : decode cX5_starterIn 8 = .ok (.istore_n 3, 1) := by decide +kernel
theorem dX5_starterIn_9 : decode cX5_starterIn 9 = .ok (.iload_n 3, 1) := by decide +kernel
theorem dX5_starterIn_10 : decode cX5_starterIn 10 = .ok (.aload_n 0, 1) := by decide +kernel
theorem dX5_starterIn_11 : decode cX5_starterIn 11 = .ok (.getfield 18, 3) := by decide +kernel
theorem dX5_starterIn_14 : decode cX5_starterIn 14 = .ok (.iload_n 2, 1) := by decide +kernel
theorem dX5_starterIn_15 : decode cX5_starterIn 15 = .ok (.iaload, 1) := by decide +kernel
theorem dX5_starterIn_16 : decode cX5_starterIn 16 = .ok (.if_icmp .ge 23, 3) := by decide +kernel
theorem dX5_starterIn_19 : decode cX5_starterIn 19 = .ok (.aload_n 0, 1) := by decide +kernel
theorem dX5_starterIn_20 : decode cX5_starterIn 20 = .ok (.getfield 27, 3) := by decide +kernel
theorem dX5_starterIn_23 : decode cX5_starterIn 23 = .ok (.iload_n 2, 1) := by decide +kernel
theorem dX5_starterIn_24 : decode cX5_starterIn 24 = .ok (.aaload, 1) := by decide +kernel
theorem dX5_starterIn_25 : decode cX5_starterIn 25 = .ok (.iload_n 3, 1) := by decide +kernel
theorem dX5_starterIn_26 : decode cX5_starterIn 26 = .ok (.iaload, 1) := by decide +kernel
theorem dX5_starterIn_27 : decode cX5_starterIn 27 = .ok (.iload_n 1, 1) := by decide +kernel
theorem dX5_starterIn_28 : decode cX5_starterIn 28 = .ok (.if_icmp .ne 5, 3) := by decide +kernel
theorem dX5_starterIn_31 : decode cX5_starterIn 31 = .ok (.iload_n 2, 1) := by decide +kernel
theorem dX5_starterIn_32 : decode cX5_starterIn 32 = .ok (.ireturn, 1) := by decide +kernel
theorem dX5_starterIn_33 : decode cX5_starterIn 33 = .ok (.iinc 3 1, 3) := by decide +kernel
theorem dX5_starterIn_36 : decode cX5_starterIn 36 = .ok (.goto (-27), 3) := by decide +kernel
theorem dX5_starterIn_39 : decode cX5_starterIn 39 = .ok (.iinc 2 1, 3) := by decide +kernel
theorem dX5_starterIn_42 : decode cX5_starterIn 42 = .ok (.goto (-40), 3) := by decide +kernel
theorem dX5_starterIn_45 : decode cX5_starterIn 45 = .ok (.bipush (-6), 2) := by decide +kernel
theorem dX5_starterIn_47 : decode cX5_starterIn 47 = .ok (.ireturn, 1) := by decide +kernel
theorem dX5_userIn_0 : decode cX5_userIn 0 = .ok (.iconst 0, 1) := by decide +kernel
theorem dX5_userIn_1 : decode cX5_userIn 1 = .ok (.istore_n 3, 1) := by decide +kernel
theorem dX5_userIn_2 : decode cX5_userIn 2 = .ok (.iload_n 3, 1) := by decide +kernel
theorem dX5_userIn_3 : decode cX5_userIn 3 = .ok (.iconst 2, 1) := by decide +kernel
theorem dX5_userIn_4 : decode cX5_userIn 4 = .ok (.if_icmp .ge 97, 3) := by decide +kernel
theorem dX5_userIn_7 : decode cX5_userIn 7 = .ok (.iconst 0, 1) := by decide +kernel
theorem dX5_userIn_8 : decode cX5_userIn 8 = .ok (.istore 4, 2) := by decide +kernel
theorem dX5_userIn_10 : decode cX5_userIn 10 = .ok (.iload 4, 2) := by decide +kernel
theorem dX5_userIn_12 : decode cX5_userIn 12 = .ok (.aload_n 0, 1) := by decide +kernel
theorem dX5_userIn_13 : decode cX5_userIn 13 = .ok (.getfield 18, 3) := by decide +kernel
theorem dX5_userIn_16 : decode cX5_userIn 16 = .ok (.iload_n 3, 1) := by decide +kernel
theorem dX5_userIn_17 : decode cX5_userIn 17 = .ok (.iaload, 1) := by decide +kernel
theorem dX5_userIn_18 : decode cX5_userIn 18 = .ok (.if_icmp .ge 77, 3) := by decide +kernel
theorem dX5_userIn_21 : decode cX5_userIn 21 = .ok (.aload_n 0, 1) := by decide +kernel
theorem dX5_userIn_22 : decode cX5_userIn 22 = .ok (.getfield 27, 3) := by decide +kernel
theorem dX5_userIn_25 : decode cX5_userIn 25 = .ok (.iload_n 3, 1) := by decide +kernel
theorem dX5_userIn_26 : decode cX5_userIn 26 = .ok (.aaload, 1) := by decide +kernel
theorem dX5_userIn_27 : decode cX5_userIn 27 = .ok (.iload 4, 2) := by decide +kernel
theorem dX5_userIn_29 : decode cX5_userIn 29 = .ok (.iaload, 1) := by decide +kernel
theorem dX5_userIn_30 : decode cX5_userIn 30 = .ok (.iload_n 1, 1) := by decide +kernel
theorem dX5_userIn_31 : decode cX5_userIn 31 = .ok (.if_icmp .gt 20, 3) := by decide +kernel
theorem dX5_userIn_34 : decode cX5_userIn 34 = .ok (.iload_n 1, 1) := by decide +kernel
theorem dX5_userIn_35 : decode cX5_userIn 35 = .ok (.aload_n 0, 1) := by decide +kernel
theorem dX5_userIn_36 : decode cX5_userIn 36 = .ok (.getfield 30, 3) := by decide +kernel
theorem dX5_userIn_39 : decode cX5_userIn 39 = .ok (.iload_n 3, 1) := by decide +kernel
theorem dX5_userIn_40 : decode cX5_userIn 40 = .ok (.aaload, 1) := by decide +kernel
theorem dX5_userIn_41 : decode cX5_userIn 41 = .ok (.iload 4, 2) := by decide +kernel
theorem dX5_userIn_43 : decode cX5_userIn 43 = .ok (.iaload, 1) := by decide +kernel
theorem dX5_userIn_44 : decode cX5_userIn 44 = .ok (.if_icmp .ge 7, 3) := by decide +kernel
theorem dX5_userIn_47 : decode cX5_userIn 47 = .ok (.iconst 1, 1) := by decide +kernel
theorem dX5_userIn_48 : decode cX5_userIn 48 = .ok (.goto 4, 3) := by decide +kernel
theorem dX5_userIn_51 : decode cX5_userIn 51 = .ok (.iconst 0, 1) := by decide +kernel
theorem dX5_userIn_52 : decode cX5_userIn 52 = .ok (.istore 5, 2) := by decide +kernel
theorem dX5_userIn_54 : decode cX5_userIn 54 = .ok (.iload 5, 2) := by decide +kernel
theorem dX5_userIn_56 : decode cX5_userIn 56 = .ok (.ifCond .eq 33, 3) := by decide +kernel
theorem dX5_userIn_59 : decode cX5_userIn 59 = .ok (.aload_n 0, 1) := by decide +kernel
theorem dX5_userIn_60 : decode cX5_userIn 60 = .ok (.getfield 48, 3) := by decide +kernel
theorem dX5_userIn_63 : decode cX5_userIn 63 = .ok (.getfield 59, 3) := by decide +kernel
theorem dX5_userIn_66 : decode cX5_userIn 66 = .ok (.iload_n 3, 1) := by decide +kernel
theorem dX5_userIn_67 : decode cX5_userIn 67 = .ok (.aaload, 1) := by decide +kernel
theorem dX5_userIn_68 : decode cX5_userIn 68 = .ok (.aload_n 0, 1) := by decide +kernel
theorem dX5_userIn_69 : decode cX5_userIn 69 = .ok (.getfield 12, 3) := by decide +kernel
theorem dX5_userIn_72 : decode cX5_userIn 72 = .ok (.iload_n 3, 1) := by decide +kernel
theorem dX5_userIn_73 : decode cX5_userIn 73 = .ok (.aaload, 1) := by decide +kernel
theorem dX5_userIn_74 : decode cX5_userIn 74 = .ok (.getfield 100, 3) := by decide +kernel
theorem dX5_userIn_77 : decode cX5_userIn 77 = .ok (.iload 4, 2) := by decide +kernel
theorem dX5_userIn_79 : decode cX5_userIn 79 = .ok (.iaload, 1) := by decide +kernel
theorem dX5_userIn_80 : decode cX5_userIn 80 = .ok (.invokevirtual 112, 3) := by decide +kernel
theorem dX5_userIn_83 : decode cX5_userIn 83 = .ok (.iload_n 2, 1) := by decide +kernel
theorem dX5_userIn_84 : decode cX5_userIn 84 = .ok (.if_icmp .ne 5, 3) := by decide +kernel
theorem dX5_userIn_87 : decode cX5_userIn 87 = .ok (.iload_n 3, 1) := by decide +kernel
theorem dX5_userIn_88 : decode cX5_userIn 88 = .ok (.ireturn, 1) := by decide +kernel
theorem dX5_userIn_89 : decode cX5_userIn 89 = .ok (.iinc 4 1, 3) := by decide +kernel
theorem dX5_userIn_92 : decode cX5_userIn 92 = .ok (.goto (-82), 3) := by decide +kernel
theorem dX5_userIn_95 : decode cX5_userIn 95 = .ok (.iinc 3 1, 3) := by decide +kernel
theorem dX5_userIn_98 : decode cX5_userIn 98 = .ok (.goto (-96), 3) := by decide +kernel
theorem dX5_userIn_101 : decode cX5_userIn 101 = .ok (.bipush (-6), 2) := by decide +kernel
theorem dX5_userIn_103 : decode cX5_userIn 103 = .ok (.ireturn, 1) := by decide +kernel
theorem dX6_init_0 : decode cX6_init 0 = .ok (.aload_n 0, 1) := by decide +kernel
theorem dX6_init_1 : decode cX6_init 1 = .ok (.invokespecial 3, 3) := by decide +kernel
theorem dX6_init_4 : decode cX6_init 4 = .ok (.aload_n 0, 1) := by decide +kernel
theorem dX6_init_5 : decode cX6_init 5 = .ok (.iconst 3, 1) := by decide +kernel
theorem dX6_init_6 : decode cX6_init 6 = .ok (.newarray .int, 2) := by decide +kernel
theorem dX6_init_8 : decode cX6_init 8 = .ok (.dup, 1) := by decide +kernel
theorem dX6_init_9 : decode cX6_init 9 = .ok (.iconst 0, 1) := by decide +kernel
theorem dX6_init_10 : decode cX6_init 10 = .ok (.iconst 0, 1) := by decide +kernel
theorem dX6_init_11 : decode cX6_init 11 = .ok (.iastore, 1) := by decide +kernel
theorem dX6_init_12 : decode cX6_init 12 = .ok (.dup, 1) := by decide +kernel
theorem dX6_init_13 : decode cX6_init 13 = .ok (.iconst 1, 1) := by decide +kernel
theorem dX6_init_14 : decode cX6_init 14 = .ok (.iconst 3, 1) := by decide +kernel
theorem dX6_init_15 : decode cX6_init 15 = .ok (.iastore, 1) := by decide +kernel
theorem dX6_init_16 : decode cX6_init 16 = .ok (.dup, 1) := by decide +kernel
theorem dX6_init_17 : decode cX6_init 17 = .ok (.iconst 2, 1) := by decide +kernel
theorem dX6_init_18 : decode cX6_init 18 = .ok (.iconst 4, 1) := by decide +kernel
theorem dX6_init_19 : decode cX6_init 19 = .ok (.iastore, 1) := by decide +kernel
theorem dX6_init_20 : decode cX6_init 20 = .ok (.putfield 9, 3) := by decide +kernel
theorem dX6_init_23 : decode cX6_init 23 = .ok (.aload_n 0, 1) := by decide +kernel
theorem dX6_init_24 : decode cX6_init 24 = .ok (.iconst 2, 1) := by decide +kernel
theorem dX6_init_25 : decode cX6_init 25 = .ok (.anewarray 15, 3) := by decide +kernel
theorem dX6_init_28 : decode cX6_init 28 = .ok (.dup, 1) := by decide +kernel
theorem dX6_init_29 : decode cX6_init 29 = .ok (.iconst 0, 1) := by decide +kernel
theorem dX6_init_30 : decode cX6_init 30 = .ok (.new 15, 3) := by decide +kernel
theorem dX6_init_33 : decode cX6_init 33 = .ok (.dup, 1) := by decide +kernel
theorem dX6_init_34 : decode cX6_init 34 = .ok (.invokespecial 17, 3) := by decide +kernel
theorem dX6_init_37 : decode cX6_init 37 = .ok (.aastore, 1) := by decide +kernel
theorem dX6_init_38 : decode cX6_init 38 = .ok (.dup, 1) := by decide +kernel
theorem dX6_init_39 : decode cX6_init 39 = .ok (.iconst 1, 1) := by decide +kernel
theorem dX6_init_40 : decode cX6_init 40 = .ok (.new 15, 3) := by decide +kernel
theorem dX6_init_43 : decode cX6_init 43 = .ok (.dup, 1) := by decide +kernel
theorem dX6_init_44 : decode cX6_init 44 = .ok (.invokespecial 17, 3) := by decide +kernel
theorem dX6_init_47 : decode cX6_init 47 = .ok (.aastore, 1) := by decide +kernel
theorem dX6_init_48 : decode cX6_init 48 = .ok (.putfield 18, 3) := by decide +kernel
theorem dX6_init_51 : decode cX6_init 51 = .ok (.aload_n 0, 1) := by decide +kernel
theorem dX6_init_52 : decode cX6_init 52 = .ok (.iconst 2, 1) := by decide +kernel
theorem dX6_init_53 : decode cX6_init 53 = .ok (.bipush 12, 2) := by decide +kernel
theorem dX6_init_55 : decode cX6_init 55 = .ok (.multianewarray 22 2, 4) := by decide +kernel
theorem dX6_init_59 : decode cX6_init 59 = .ok (.putfield 24, 3) := by decide +kernel
theorem dX6_init_62 : decode cX6_init 62 = .ok (.return_, 1) := by decide +kernel
theorem dX6_copyFrom_0 : decode cX6_copyFrom 0 = .ok (.aload_n 1, 1) := by decide +kernel
theorem dX6_copyFrom_1 : decode cX6_copyFrom 1 = .ok (.getfield 9, 3) := by decide +kernel
theorem dX6_copyFrom_4 : decode cX6_copyFrom 4 = .ok (.iconst 0, 1) := by decide +kernel
theorem dX6_copyFrom_5 : decode cX6_copyFrom 5 = .ok (.aload_n 0, 1) := by decide +kernel
theorem dX6_copyFrom_6 : decode cX6_copyFrom 6 = .ok (.getfield 9, 3) := by decide +kernel
theorem dX6_copyFrom_9 : decode cX6_copyFrom 9 = .ok (.iconst 0, 1) := by decide +kernel
theorem dX6_copyFrom_10 : decode cX6_copyFrom 10 = .ok (.iconst 3, 1) := by decide +kernel
theorem dX6_copyFrom_11 : decode cX6_copyFrom 11 = .ok (.invokestatic 27, 3) := by decide +kernel
theorem dX6_copyFrom_14 : decode cX6_copyFrom 14 = .ok (.iconst 0, 1) := by decide +kernel
theorem dX6_copyFrom_15 : decode cX6_copyFrom 15 = .ok (.istore_n 2, 1) := by decide +kernel
theorem dX6_copyFrom_16 : decode cX6_copyFrom 16 = .ok (.iload_n 2, 1) := by decide +kernel
theorem dX6_copyFrom_17 : decode cX6_copyFrom 17 = .ok (.iconst 2, 1) := by decide +kernel
theorem dX6_copyFrom_18 : decode cX6_copyFrom 18 = .ok (.if_icmp .ge 43, 3) := by decide +kernel
theorem dX6_copyFrom_21 : decode cX6_copyFrom 21 = .ok (.aload_n 0, 1) := by decide +kernel
theorem dX6_copyFrom_22 : decode cX6_copyFrom 22 = .ok (.getfield 18, 3) := by decide +kernel
theorem dX6_copyFrom_25 : decode cX6_copyFrom 25 = .ok (.iload_n 2, 1) := by decide +kernel
theorem dX6_copyFrom_26 : decode cX6_copyFrom 26 = .ok (.aaload, 1) := by decide +kernel
theorem dX6_copyFrom_27 : decode cX6_copyFrom 27 = .ok (.aload_n 1, 1) := by decide +kernel
theorem dX6_copyFrom_28 : decode cX6_copyFrom 28 = .ok (.getfield 18, 3) := by decide +kernel
theorem dX6_copyFrom_31 : decode cX6_copyFrom 31 = .ok (.iload_n 2, 1) := by decide +kernel
theorem dX6_copyFrom_32 : decode cX6_copyFrom 32 = .ok (.aaload, 1) := by decide +kernel
theorem dX6_copyFrom_33 : decode cX6_copyFrom 33 = .ok (.invokevirtual 33, 3) := by decide +kernel
theorem dX6_copyFrom_36 : decode cX6_copyFrom 36 = .ok (.aload_n 1, 1) := by decide +kernel
theorem dX6_copyFrom_37 : decode cX6_copyFrom 37 = .ok (.getfield 24, 3) := by decide +kernel
theorem dX6_copyFrom_40 : decode cX6_copyFrom 40 = .ok (.iload_n 2, 1) := by decide +kernel
theorem dX6_copyFrom_41 : decode cX6_copyFrom 41 = .ok (.aaload, 1) := by decide +kernel
theorem dX6_copyFrom_42 : decode cX6_copyFrom 42 = .ok (.iconst 0, 1) := by decide +kernel
theorem dX6_copyFrom_43 : decode cX6_copyFrom 43 = .ok (.aload_n 0, 1) := by decide +kernel
theorem dX6_copyFrom_44 : decode cX6_copyFrom 44 = .ok (.getfield 24, 3) := by decide +kernel
theorem dX6_copyFrom_47 : decode cX6_copyFrom 47 = .ok (.iload_n 2, 1) := by decide +kernel
theorem dX6_copyFrom_48 : decode cX6_copyFrom 48 = .ok (.aaload, 1) := by decide +kernel
theorem dX6_copyFrom_49 : decode cX6_copyFrom 49 = .ok (.iconst 0, 1) := by decide +kernel
theorem dX6_copyFrom_50 : decode cX6_copyFrom 50 = .ok (.bipush 12, 2) := by decide +kernel
theorem dX6_copyFrom_52 : decode cX6_copyFrom 52 = .ok (.invokestatic 27, 3) := by decide +kernel
theorem dX6_copyFrom_55 : decode cX6_copyFrom 55 = .ok (.iinc 2 1, 3) := by decide +kernel
theorem dX6_copyFrom_58 : decode cX6_copyFrom 58 = .ok (.goto (-42), 3) := by decide +kernel
theorem dX6_copyFrom_61 : decode cX6_copyFrom 61 = .ok (.return_, 1) := by decide +kernel
theorem dX6_exchangeThreads_0 : decode cX6_exchangeThreads 0 = .ok (.aload_n 0, 1) := by decide +kernel
theorem dX6_exchangeThreads_1 : decode cX6_exchangeThreads 1 = .ok (.getfield 18, 3) := by decide +kernel
theorem dX6_exchangeThreads_4 : decode cX6_exchangeThreads 4 = .ok (.iconst 0, 1) := by decide +kernel
theorem dX6_exchangeThreads_5 : decode cX6_exchangeThreads 5 = .ok (.aaload, 1) := by decide +kernel
theorem dX6_exchangeThreads_6 : decode cX6_exchangeThreads 6 = .ok (.astore_n 1, 1) := by decide +kernel
theorem dX6_exchangeThreads_7 : decode cX6_exchangeThreads 7 = .ok (.aload_n 0, 1) := by decide +kernel
theorem dX6_exchangeThreads_8 : decode cX6_exchangeThreads 8 = .ok (.getfield 18, 3) := by decide +kernel
theorem dX6_exchangeThreads_11 : decode cX6_exchangeThreads 11 = .ok (.iconst 0, 1) := by decide +kernel
theorem dX6_exchangeThreads_12 : decode cX6_exchangeThreads 12 = .ok (.aload_n 0, 1) := by decide +kernel
theorem dX6_exchangeThreads_13 : decode cX6_exchangeThreads 13 = .ok (.getfield 18, 3) := by decide +kernel
theorem dX6_exchangeThreads_16 : decode cX6_exchangeThreads 16 = .ok (.iconst 1, 1) := by decide +kernel
theorem dX6_exchangeThreads_17 : decode cX6_exchangeThreads 17 = .ok (.aaload, 1) := by decide +kernel
theorem dX6_exchangeThreads_18 : decode cX6_exchangeThreads 18 = .ok (.aastore, 1) := by decide +kernel
theorem dX6_exchangeThreads_19 : decode cX6_exchangeThreads 19 = .ok (.aload_n 0, 1) := by decide +kernel
theorem dX6_exchangeThreads_20 : decode cX6_exchangeThreads 20 = .ok (.getfield 18, 3) := by decide +kernel
theorem dX6_exchangeThreads_23 : decode cX6_exchangeThreads 23 = .ok (.iconst 1, 1) := by decide +kernel
theorem dX6_exchangeThreads_24 : decode cX6_exchangeThreads 24 = .ok (.aload_n 1, 1) := by decide +kernel
theorem dX6_exchangeThreads_25 : decode cX6_exchangeThreads 25 = .ok (.aastore, 1) := by decide +kernel
theorem dX6_exchangeThreads_26 : decode cX6_exchangeThreads 26 = .ok (.aload_n 0, 1) := by decide +kernel
theorem dX6_exchangeThreads_27 : decode cX6_exchangeThreads 27 = .ok (.getfield 24, 3) := by decide +kernel
theorem dX6_exchangeThreads_30 : decode cX6_exchangeThreads 30 = .ok (.iconst 0, 1) := by decide +kernel
theorem dX6_exchangeThreads_31 : decode cX6_exchangeThreads 31 = .ok (.aaload, 1) := by decide +kernel
theorem dX6_exchangeThreads_32 : decode cX6_exchangeThreads 32 = .ok (.astore_n 2, 1) := by decide +kernel
theorem dX6_exchangeThreads_33 : decode cX6_exchangeThreads 33 = .ok (.aload_n 0, 1) := by decide +kernel
theorem dX6_exchangeThreads_34 : decode cX6_exchangeThreads 34 = .ok (.getfield 24, 3) := by decide +kernel
theorem dX6_exchangeThreads_37 : decode cX6_exchangeThreads 37 = .ok (.iconst 0, 1) := by decide +kernel
theorem dX6_exchangeThreads_38 : decode cX6_exchangeThreads 38 = .ok (.aload_n 0, 1) := by decide +kernel
theorem dX6_exchangeThreads_39 : decode cX6_exchangeThreads 39 = .ok (.getfield 24, 3) := by decide +kernel
theorem dX6_exchangeThreads_42 : decode cX6_exchangeThreads 42 = .ok (.iconst 1, 1) := by decide +kernel
theorem dX6_exchangeThreads_43 : decode cX6_exchangeThreads 43 = .ok (.aaload, 1) := by decide +kernel
theorem dX6_exchangeThreads_44 : decode cX6_exchangeThreads 44 = .ok (.aastore, 1) := by decide +kernel
theorem dX6_exchangeThreads_45 : decode cX6_exchangeThreads 45 = .ok (.aload_n 0, 1) := by decide +kernel
theorem dX6_exchangeThreads_46 : decode cX6_exchangeThreads 46 = .ok (.getfield 24, 3) := by decide +kernel
theorem dX6_exchangeThreads_49 : decode cX6_exchangeThreads 49 = .ok (.iconst 1, 1) := by decide +kernel
theorem dX6_exchangeThreads_50 : decode cX6_exchangeThreads 50 = .ok (.aload_n 2, 1) := by decide +kernel
theorem dX6_exchangeThreads_51 : decode cX6_exchangeThreads 51 = .ok (.aastore, 1) := by decide +kernel
theorem dX6_exchangeThreads_52 : decode cX6_exchangeThreads 52 = .ok (.return_, 1) := by decide +kernel
theorem dX6_ticksFor_0 : decode cX6_ticksFor 0 = .ok (.iload_n 1, 1) := by decide +kernel
theorem dX6_ticksFor_1 : decode cX6_ticksFor 1 = .ok (.ifCond .ne 10, 3) := by decide +kernel
theorem dX6_ticksFor_4 : decode cX6_ticksFor 4 = .ok (.aload_n 0, 1) := by decide +kernel
theorem dX6_ticksFor_5 : decode cX6_ticksFor 5 = .ok (.getfield 9, 3) := by decide +kernel
theorem dX6_ticksFor_8 : decode cX6_ticksFor 8 = .ok (.iconst 1, 1) := by decide +kernel
theorem dX6_ticksFor_9 : decode cX6_ticksFor 9 = .ok (.iaload, 1) := by decide +kernel
theorem dX6_ticksFor_10 : decode cX6_ticksFor 10 = .ok (.ireturn, 1) := by decide +kernel
theorem dX6_ticksFor_11 : decode cX6_ticksFor 11 = .ok (.iload_n 1, 1) := by decide +kernel
theorem dX6_ticksFor_12 : decode cX6_ticksFor 12 = .ok (.iconst 1, 1) := by decide +kernel
theorem dX6_ticksFor_13 : decode cX6_ticksFor 13 = .ok (.if_icmp .ne 12, 3) := by decide +kernel
theorem dX6_ticksFor_16 : decode cX6_ticksFor 16 = .ok (.aload_n 0, 1) := by decide +kernel
theorem dX6_ticksFor_17 : decode cX6_ticksFor 17 = .ok (.getfield 9, 3) := by decide +kernel
theorem dX6_ticksFor_20 : decode cX6_ticksFor 20 = .ok (.iconst 2, 1) := by decide +kernel
theorem dX6_ticksFor_21 : decode cX6_ticksFor 21 = .ok (.iaload, 1) := by decide +kernel
theorem dX6_ticksFor_22 : decode cX6_ticksFor 22 = .ok (.goto 4, 3) := by decide +kernel
theorem dX6_ticksFor_25 : decode cX6_ticksFor 25 = .ok (.iconst 1, 1) := by decide +kernel
theorem dX6_ticksFor_26 : decode cX6_ticksFor 26 = .ok (.ireturn, 1) := by decide +kernel
theorem dX7_init_0 : decode cX7_init 0 = .ok (.aload_n 0, 1) := by decide +kernel
theorem dX7_init_1 : decode cX7_init 1 = .ok (.invokespecial 1, 3) := by decide +kernel
theorem dX7_init_4 : decode cX7_init 4 = .ok (.aload_n 0, 1) := by decide +kernel
theorem dX7_init_5 : decode cX7_init 5 = .ok (.new 7, 3) := by decide +kernel
theorem dX7_init_8 : decode cX7_init 8 = .ok (.dup, 1) := by decide +kernel
theorem dX7_init_9 : decode cX7_init 9 = .ok (.invokespecial 9, 3) := by decide +kernel
theorem dX7_init_12 : decode cX7_init 12 = .ok (.putfield 10, 3) := by decide +kernel
theorem dX7_init_15 : decode cX7_init 15 = .ok (.aload_n 0, 1) := by decide +kernel
theorem dX7_init_16 : decode cX7_init 16 = .ok (.new 16, 3) := by decide +kernel
theorem dX7_init_19 : decode cX7_init 19 = .ok (.dup, 1) := by decide +kernel
theorem dX7_init_20 : decode cX7_init 20 = .ok (.aload_n 0, 1) := by decide +kernel
theorem dX7_init_21 : decode cX7_init 21 = .ok (.getfield 10, 3) := by decide +kernel
theorem dX7_init_24 : decode cX7_init 24 = .ok (.invokespecial 18, 3) := by decide +kernel
theorem dX7_init_27 : decode cX7_init 27 = .ok (.putfield 21, 3) := by decide +kernel
theorem dX7_init_30 : decode cX7_init 30 = .ok (.aload_n 0, 1) := by decide +kernel
theorem dX7_init_31 : decode cX7_init 31 = .ok (.new 7, 3) := by decide +kernel
theorem dX7_init_34 : decode cX7_init 34 = .ok (.dup, 1) := by decide +kernel
theorem dX7_init_35 : decode cX7_init 35 = .ok (.invokespecial 9, 3) := by decide +kernel
theorem dX7_init_38 : decode cX7_init 38 = .ok (.putfield 25, 3) := by decide +kernel
theorem dX7_init_41 : decode cX7_init 41 = .ok (.aload_n 0, 1) := by decide +kernel
theorem dX7_init_42 : decode cX7_init 42 = .ok (.new 16, 3) := by decide +kernel
theorem dX7_init_45 : decode cX7_init 45 = .ok (.dup, 1) := by decide +kernel
theorem dX7_init_46 : decode cX7_init 46 = .ok (.aload_n 0, 1) := by decide +kernel
theorem dX7_init_47 : decode cX7_init 47 = .ok (.getfield 25, 3) := by decide +kernel
theorem dX7_init_50 : decode cX7_init 50 = .ok (.invokespecial 18, 3) := by decide +kernel
theorem dX7_init_53 : decode cX7_init 53 = .ok (.putfield 28, 3) := by decide +kernel
theorem dX7_init_56 : decode cX7_init 56 = .ok (.aload_n 0, 1) := by decide +kernel
theorem dX7_init_57 : decode cX7_init 57 = .ok (.new 31, 3) := by decide +kernel
theorem dX7_init_60 : decode cX7_init 60 = .ok (.dup, 1) := by decide +kernel
theorem dX7_init_61 : decode cX7_init 61 = .ok (.invokespecial 33, 3) := by decide +kernel
theorem dX7_init_64 : decode cX7_init 64 = .ok (.putfield 34, 3) := by decide +kernel
theorem dX7_init_67 : decode cX7_init 67 = .ok (.aload_n 0, 1) := by decide +kernel
theorem dX7_init_68 : decode cX7_init 68 = .ok (.new 38, 3) := by decide +kernel
theorem dX7_init_71 : decode cX7_init 71 = .ok (.dup, 1) := by decide +kernel
theorem dX7_init_72 : decode cX7_init 72 = .ok (.aload_n 0, 1) := by decide +kernel
theorem dX7_init_73 : decode cX7_init 73 = .ok (.getfield 34, 3) := by decide +kernel
theorem dX7_init_76 : decode cX7_init 76 = .ok (.invokespecial 40, 3) := by decide +kernel
theorem dX7_init_79 : decode cX7_init 79 = .ok (.putfield 43, 3) := by decide +kernel
theorem dX7_init_82 : decode cX7_init 82 = .ok (.aload_n 0, 1) := by decide +kernel
theorem dX7_init_83 : decode cX7_init 83 = .ok (.new 47, 3) := by decide +kernel
theorem dX7_init_86 : decode cX7_init 86 = .ok (.dup, 1) := by decide +kernel
theorem dX7_init_87 : decode cX7_init 87 = .ok (.invokespecial 49, 3) := by decide +kernel
theorem dX7_init_90 : decode cX7_init 90 = .ok (.putfield 50, 3) := by decide +kernel
theorem dX7_init_93 : decode cX7_init 93 = .ok (.aload_n 0, 1) := by decide +kernel
theorem dX7_init_94 : decode cX7_init 94 = .ok (.iconst 2, 1) := by decide +kernel
theorem dX7_init_95 : decode cX7_init 95 = .ok (.anewarray 7, 3) := by decide +kernel
theorem dX7_init_98 : decode cX7_init 98 = .ok (.putfield 54, 3) := by decide +kernel
theorem dX7_init_101 : decode cX7_init 101 = .ok (.iconst 0, 1) := by decide +kernel
theorem dX7_init_102 : decode cX7_init 102 = .ok (.istore_n 1, 1) := by decide +kernel
theorem dX7_init_103 : decode cX7_init 103 = .ok (.iload_n 1, 1) := by decide +kernel
theorem dX7_init_104 : decode cX7_init 104 = .ok (.iconst 2, 1) := by decide +kernel
theorem dX7_init_105 : decode cX7_init 105 = .ok (.if_icmp .ge 22, 3) := by decide +kernel
theorem dX7_init_108 : decode cX7_init 108 = .ok (.aload_n 0, 1) := by decide +kernel
theorem dX7_init_109 : decode cX7_init 109 = .ok (.getfield 54, 3) := by decide +kernel
theorem dX7_init_112 : decode cX7_init 112 = .ok (.iload_n 1, 1) := by decide +kernel
theorem dX7_init_113 : decode cX7_init 113 = .ok (.new 7, 3) := by decide +kernel
theorem dX7_init_116 : decode cX7_init 116 = .ok (.dup, 1) := by decide +kernel
theorem dX7_init_117 : decode cX7_init 117 = .ok (.invokespecial 9, 3) := by decide +kernel
theorem dX7_init_120 : decode cX7_init 120 = .ok (.aastore, 1) := by decide +kernel
theorem dX7_init_121 : decode cX7_init 121 = .ok (.iinc 1 1, 3) := by decide +kernel
theorem dX7_init_124 : decode cX7_init 124 = .ok (.goto (-21), 3) := by decide +kernel
theorem dX7_init_127 : decode cX7_init 127 = .ok (.aload_n 0, 1) := by decide +kernel
theorem dX7_init_128 : decode cX7_init 128 = .ok (.iconst 2, 1) := by decide +kernel
theorem dX7_init_129 : decode cX7_init 129 = .ok (.newarray .boolean, 2) := by decide +kernel
theorem dX7_init_131 : decode cX7_init 131 = .ok (.putfield 58, 3) := by decide +kernel
theorem dX7_init_134 : decode cX7_init 134 = .ok (.return_, 1) := by decide +kernel
theorem dX7_set_0 : decode cX7_set 0 = .ok (.iload_n 1, 1) := by decide +kernel
theorem dX7_set_1 : decode cX7_set 1 = .ok (.ifCond .lt 26, 3) := by decide +kernel
theorem dX7_set_4 : decode cX7_set 4 = .ok (.iload_n 1, 1) := by decide +kernel
theorem dX7_set_5 : decode cX7_set 5 = .ok (.iconst 3, 1) := by decide +kernel
theorem dX7_set_6 : decode cX7_set 6 = .ok (.if_icmp .ge 21, 3) := by decide +kernel
theorem dX7_set_9 : decode cX7_set 9 = .ok (.iload_n 2, 1) := by decide +kernel
theorem dX7_set_10 : decode cX7_set 10 = .ok (.getstatic 62, 3) := by decide +kernel
theorem dX7_set_13 : decode cX7_set 13 = .ok (.iload_n 1, 1) := by decide +kernel
theorem dX7_set_14 : decode cX7_set 14 = .ok (.iaload, 1) := by decide +kernel
theorem dX7_set_15 : decode cX7_set 15 = .ok (.if_icmp .lt 12, 3) := by decide +kernel
theorem dX7_set_18 : decode cX7_set 18 = .ok (.iload_n 2, 1) := by decide +kernel
theorem dX7_set_19 : decode cX7_set 19 = .ok (.getstatic 66, 3) := by decide +kernel
theorem dX7_set_22 : decode cX7_set 22 = .ok (.iload_n 1, 1) := by decide +kernel
theorem dX7_set_23 : decode cX7_set 23 = .ok (.iaload, 1) := by decide +kernel
theorem dX7_set_24 : decode cX7_set 24 = .ok (.if_icmp .le 6, 3) := by decide +kernel
theorem dX7_set_27 : decode cX7_set 27 = .ok (.bipush (-2), 2) := by decide +kernel
theorem dX7_set_29 : decode cX7_set 29 = .ok (.ireturn, 1) := by decide +kernel
theorem dX7_set_30 : decode cX7_set 30 = .ok (.aload_n 0, 1) := by decide +kernel
theorem dX7_set_31 : decode cX7_set 31 = .ok (.getfield 10, 3) := by decide +kernel
theorem dX7_set_34 : decode cX7_set 34 = .ok (.getfield 69, 3) := by decide +kernel
theorem dX7_set_37 : decode cX7_set 37 = .ok (.iload_n 1, 1) := by decide +kernel
theorem dX7_set_38 : decode cX7_set 38 = .ok (.iaload, 1) := by decide +kernel
theorem dX7_set_39 : decode cX7_set 39 = .ok (.istore_n 3, 1) := by decide +kernel
theorem dX7_set_40 : decode cX7_set 40 = .ok (.aload_n 0, 1) := by decide +kernel
theorem dX7_set_41 : decode cX7_set 41 = .ok (.getfield 50, 3) := by decide +kernel
theorem dX7_set_44 : decode cX7_set 44 = .ok (.aload_n 0, 1) := by decide +kernel
theorem dX7_set_45 : decode cX7_set 45 = .ok (.getfield 10, 3) := by decide +kernel
theorem dX7_set_48 : decode cX7_set 48 = .ok (.invokevirtual 72, 3) := by decide +kernel
theorem dX7_set_51 : decode cX7_set 51 = .ok (.aload_n 0, 1) := by decide +kernel
theorem dX7_set_52 : decode cX7_set 52 = .ok (.getfield 10, 3) := by decide +kernel
theorem dX7_set_55 : decode cX7_set 55 = .ok (.getfield 69, 3) := by decide +kernel
theorem dX7_set_58 : decode cX7_set 58 = .ok (.iload_n 1, 1) := by decide +kernel
theorem dX7_set_59 : decode cX7_set 59 = .ok (.iload_n 2, 1) := by decide +kernel
theorem dX7_set_60 : decode cX7_set 60 = .ok (.iastore, 1) := by decide +kernel
theorem dX7_set_61 : decode cX7_set 61 = .ok (.aload_n 0, 1) := by decide +kernel
theorem dX7_set_62 : decode cX7_set 62 = .ok (.getfield 21, 3) := by decide +kernel
theorem dX7_set_65 : decode cX7_set 65 = .ok (.bipush (-6), 2) := by decide +kernel
theorem dX7_set_67 : decode cX7_set 67 = .ok (.invokevirtual 75, 3) := by decide +kernel
theorem dX7_set_70 : decode cX7_set 70 = .ok (.iload_n 3, 1) := by decide +kernel
theorem dX7_set_71 : decode cX7_set 71 = .ok (.ireturn, 1) := by decide +kernel
theorem dX7_put_0 : decode cX7_put 0 = .ok (.lload_n 1, 1) := by decide +kernel
theorem dX7_put_1 : decode cX7_put 1 = .ok (.invokestatic 79, 3) := by decide +kernel
theorem dX7_put_4 : decode cX7_put 4 = .ok (.istore_n 3, 1) := by decide +kernel
theorem dX7_put_5 : decode cX7_put 5 = .ok (.iload_n 3, 1) := by decide +kernel
theorem dX7_put_6 : decode cX7_put 6 = .ok (.ifCond .ne 6, 3) := by decide +kernel
theorem dX7_put_9 : decode cX7_put 9 = .ok (.bipush (-2), 2) := by decide +kernel
theorem dX7_put_11 : decode cX7_put 11 = .ok (.ireturn, 1) := by decide +kernel
theorem dX7_put_12 : decode cX7_put 12 = .ok (.aload_n 0, 1) := by decide +kernel
theorem dX7_put_13 : decode cX7_put 13 = .ok (.getfield 34, 3) := by decide +kernel
theorem dX7_put_16 : decode cX7_put 16 = .ok (.getfield 83, 3) := by decide +kernel
theorem dX7_put_19 : decode cX7_put 19 = .ok (.iload_n 3, 1) := by decide +kernel
theorem dX7_put_20 : decode cX7_put 20 = .ok (.iadd, 1) := by decide +kernel
theorem dX7_put_21 : decode cX7_put 21 = .ok (.bipush 80, 2) := by decide +kernel
theorem dX7_put_23 : decode cX7_put 23 = .ok (.if_icmp .le 6, 3) := by decide +kernel
theorem dX7_put_26 : decode cX7_put 26 = .ok (.bipush (-4), 2) := by decide +kernel
theorem dX7_put_28 : decode cX7_put 28 = .ok (.ireturn, 1) := by decide +kernel
theorem dX7_put_29 : decode cX7_put 29 = .ok (.aload_n 0, 1) := by decide +kernel
theorem dX7_put_30 : decode cX7_put 30 = .ok (.getfield 34, 3) := by decide +kernel
theorem dX7_put_33 : decode cX7_put 33 = .ok (.lload_n 1, 1) := by decide +kernel
theorem dX7_put_34 : decode cX7_put 34 = .ok (.iload_n 3, 1) := by decide +kernel
theorem dX7_put_35 : decode cX7_put 35 = .ok (.invokevirtual 87, 3) := by decide +kernel
theorem dX7_put_38 : decode cX7_put 38 = .ok (.aload_n 0, 1) := by decide +kernel
theorem dX7_put_39 : decode cX7_put 39 = .ok (.getfield 34, 3) := by decide +kernel
theorem dX7_put_42 : decode cX7_put 42 = .ok (.getfield 83, 3) := by decide +kernel
theorem dX7_put_45 : decode cX7_put 45 = .ok (.ireturn, 1) := by decide +kernel
theorem dX7_wipe_0 : decode cX7_wipe 0 = .ok (.aload_n 0, 1) := by decide +kernel
theorem dX7_wipe_1 : decode cX7_wipe 1 = .ok (.getfield 34, 3) := by decide +kernel
theorem dX7_wipe_4 : decode cX7_wipe 4 = .ok (.getfield 83, 3) := by decide +kernel
theorem dX7_wipe_7 : decode cX7_wipe 7 = .ok (.istore_n 1, 1) := by decide +kernel
theorem dX7_wipe_8 : decode cX7_wipe 8 = .ok (.aload_n 0, 1) := by decide +kernel
theorem dX7_wipe_9 : decode cX7_wipe 9 = .ok (.getfield 34, 3) := by decide +kernel
theorem dX7_wipe_12 : decode cX7_wipe 12 = .ok (.iconst 0, 1) := by decide +kernel
theorem dX7_wipe_13 : decode cX7_wipe 13 = .ok (.putfield 83, 3) := by decide +kernel
theorem dX7_wipe_16 : decode cX7_wipe 16 = .ok (.iload_n 1, 1) := by decide +kernel
theorem dX7_wipe_17 : decode cX7_wipe 17 = .ok (.ireturn, 1) := by decide +kernel
theorem dX7_fault_0 : decode cX7_fault 0 = .ok (.aload_n 0, 1) := by decide +kernel
theorem dX7_fault_1 : decode cX7_fault 1 = .ok (.getfield 43, 3) := by decide +kernel
theorem dX7_fault_4 : decode cX7_fault 4 = .ok (.invokevirtual 91, 3) := by decide +kernel
theorem dX7_fault_7 : decode cX7_fault 7 = .ok (.ireturn, 1) := by decide +kernel
theorem dX7_program_0 : decode cX7_program 0 = .ok (.iload_n 1, 1) := by decide +kernel
theorem dX7_program_1 : decode cX7_program 1 = .ok (.invokestatic 95, 3) := by decide +kernel
theorem dX7_program_4 : decode cX7_program 4 = .ok (.ifCond .ne 5, 3) := by decide +kernel
theorem dX7_program_7 : decode cX7_program 7 = .ok (.iconst (-1), 1) := by decide +kernel
theorem dX7_program_8 : decode cX7_program 8 = .ok (.ireturn, 1) := by decide +kernel
theorem dX7_program_9 : decode cX7_program 9 = .ok (.aload_n 0, 1) := by decide +kernel
theorem dX7_program_10 : decode cX7_program 10 = .ok (.getfield 43, 3) := by decide +kernel
theorem dX7_program_13 : decode cX7_program 13 = .ok (.invokevirtual 91, 3) := by decide +kernel
theorem dX7_program_16 : decode cX7_program 16 = .ok (.bipush (-6), 2) := by decide +kernel
theorem dX7_program_18 : decode cX7_program 18 = .ok (.if_icmp .eq 6, 3) := by decide +kernel
theorem dX7_program_21 : decode cX7_program 21 = .ok (.bipush (-3), 2) := by decide +kernel
theorem dX7_program_23 : decode cX7_program 23 = .ok (.ireturn, 1) := by decide +kernel
theorem dX7_program_24 : decode cX7_program 24 = .ok (.aload_n 0, 1) := by decide +kernel
theorem dX7_program_25 : decode cX7_program 25 = .ok (.getfield 43, 3) := by decide +kernel
theorem dX7_program_28 : decode cX7_program 28 = .ok (.getfield 99, 3) := by decide +kernel
theorem dX7_program_31 : decode cX7_program 31 = .ok (.bipush 12, 2) := by decide +kernel
theorem dX7_program_33 : decode cX7_program 33 = .ok (.if_icmp .le 6, 3) := by decide +kernel
theorem dX7_program_36 : decode cX7_program 36 = .ok (.bipush (-4), 2) := by decide +kernel
theorem dX7_program_38 : decode cX7_program 38 = .ok (.ireturn, 1) := by decide +kernel
theorem dX7_program_39 : decode cX7_program 39 = .ok (.aload_n 0, 1) := by decide +kernel
theorem dX7_program_40 : decode cX7_program 40 = .ok (.getfield 50, 3) := by decide +kernel
theorem dX7_program_43 : decode cX7_program 43 = .ok (.aload_n 0, 1) := by decide +kernel
theorem dX7_program_44 : decode cX7_program 44 = .ok (.getfield 10, 3) := by decide +kernel
theorem dX7_program_47 : decode cX7_program 47 = .ok (.invokevirtual 72, 3) := by decide +kernel
theorem dX7_program_50 : decode cX7_program 50 = .ok (.aload_n 0, 1) := by decide +kernel
theorem dX7_program_51 : decode cX7_program 51 = .ok (.getfield 10, 3) := by decide +kernel
theorem dX7_program_54 : decode cX7_program 54 = .ok (.getfield 102, 3) := by decide +kernel
theorem dX7_program_57 : decode cX7_program 57 = .ok (.iload_n 1, 1) := by decide +kernel
theorem dX7_program_58 : decode cX7_program 58 = .ok (.aaload, 1) := by decide +kernel
theorem dX7_program_59 : decode cX7_program 59 = .ok (.aload_n 0, 1) := by decide +kernel
theorem dX7_program_60 : decode cX7_program 60 = .ok (.getfield 43, 3) := by decide +kernel
theorem dX7_program_63 : decode cX7_program 63 = .ok (.getfield 106, 3) := by decide +kernel
theorem dX7_program_66 : decode cX7_program 66 = .ok (.invokevirtual 110, 3) := by decide +kernel
theorem dX7_program_69 : decode cX7_program 69 = .ok (.aload_n 0, 1) := by decide +kernel
theorem dX7_program_70 : decode cX7_program 70 = .ok (.getfield 34, 3) := by decide +kernel
theorem dX7_program_73 : decode cX7_program 73 = .ok (.iconst 0, 1) := by decide +kernel
theorem dX7_program_74 : decode cX7_program 74 = .ok (.putfield 83, 3) := by decide +kernel
theorem dX7_program_77 : decode cX7_program 77 = .ok (.aload_n 0, 1) := by decide +kernel
theorem dX7_program_78 : decode cX7_program 78 = .ok (.getfield 21, 3) := by decide +kernel
theorem dX7_program_81 : decode cX7_program 81 = .ok (.bipush (-6), 2) := by decide +kernel
theorem dX7_program_83 : decode cX7_program 83 = .ok (.invokevirtual 75, 3) := by decide +kernel
theorem dX7_program_86 : decode cX7_program 86 = .ok (.aload_n 0, 1) := by decide +kernel
theorem dX7_program_87 : decode cX7_program 87 = .ok (.getfield 10, 3) := by decide +kernel
theorem dX7_program_90 : decode cX7_program 90 = .ok (.getfield 102, 3) := by decide +kernel
theorem dX7_program_93 : decode cX7_program 93 = .ok (.iload_n 1, 1) := by decide +kernel
theorem dX7_program_94 : decode cX7_program 94 = .ok (.aaload, 1) := by decide +kernel
theorem dX7_program_95 : decode cX7_program 95 = .ok (.getfield 116, 3) := by decide +kernel
theorem dX7_program_98 : decode cX7_program 98 = .ok (.ireturn, 1) := by decide +kernel
theorem dX7_drop_0 : decode cX7_drop 0 = .ok (.iload_n 1, 1) := by decide +kernel
theorem dX7_drop_1 : decode cX7_drop 1 = .ok (.invokestatic 95, 3) := by decide +kernel
theorem dX7_drop_4 : decode cX7_drop 4 = .ok (.ifCond .ne 5, 3) := by decide +kernel
theorem dX7_drop_7 : decode cX7_drop 7 = .ok (.iconst (-1), 1) := by decide +kernel
theorem dX7_drop_8 : decode cX7_drop 8 = .ok (.ireturn, 1) := by decide +kernel
theorem dX7_drop_9 : decode cX7_drop 9 = .ok (.aload_n 0, 1) := by decide +kernel
theorem dX7_drop_10 : decode cX7_drop 10 = .ok (.getfield 10, 3) := by decide +kernel
theorem dX7_drop_13 : decode cX7_drop 13 = .ok (.getfield 102, 3) := by decide +kernel
theorem dX7_drop_16 : decode cX7_drop 16 = .ok (.iload_n 1, 1) := by decide +kernel
theorem dX7_drop_17 : decode cX7_drop 17 = .ok (.aaload, 1) := by decide +kernel
theorem dX7_drop_18 : decode cX7_drop 18 = .ok (.getfield 116, 3) := by decide +kernel
theorem dX7_drop_21 : decode cX7_drop 21 = .ok (.istore_n 2, 1) := by decide +kernel
theorem dX7_drop_22 : decode cX7_drop 22 = .ok (.aload_n 0, 1) := by decide +kernel
theorem dX7_drop_23 : decode cX7_drop 23 = .ok (.getfield 50, 3) := by decide +kernel
theorem dX7_drop_26 : decode cX7_drop 26 = .ok (.aload_n 0, 1) := by decide +kernel
theorem dX7_drop_27 : decode cX7_drop 27 = .ok (.getfield 10, 3) := by decide +kernel
theorem dX7_drop_30 : decode cX7_drop 30 = .ok (.invokevirtual 72, 3) := by decide +kernel
theorem dX7_drop_33 : decode cX7_drop 33 = .ok (.aload_n 0, 1) := by decide +kernel
theorem dX7_drop_34 : decode cX7_drop 34 = .ok (.getfield 10, 3) := by decide +kernel
theorem dX7_drop_37 : decode cX7_drop 37 = .ok (.getfield 102, 3) := by decide +kernel
theorem dX7_drop_40 : decode cX7_drop 40 = .ok (.iload_n 1, 1) := by decide +kernel
theorem dX7_drop_41 : decode cX7_drop 41 = .ok (.aaload, 1) := by decide +kernel
theorem dX7_drop_42 : decode cX7_drop 42 = .ok (.iconst 0, 1) := by decide +kernel
theorem dX7_drop_43 : decode cX7_drop 43 = .ok (.putfield 116, 3) := by decide +kernel
theorem dX7_drop_46 : decode cX7_drop 46 = .ok (.aload_n 0, 1) := by decide +kernel
theorem dX7_drop_47 : decode cX7_drop 47 = .ok (.getfield 21, 3) := by decide +kernel
theorem dX7_drop_50 : decode cX7_drop 50 = .ok (.bipush (-6), 2) := by decide +kernel
theorem dX7_drop_52 : decode cX7_drop 52 = .ok (.invokevirtual 75, 3) := by decide +kernel
theorem dX7_drop_55 : decode cX7_drop 55 = .ok (.iload_n 2, 1) := by decide +kernel
theorem dX7_drop_56 : decode cX7_drop 56 = .ok (.ireturn, 1) := by decide +kernel
theorem dX7_first_0 : decode cX7_first 0 = .ok (.iload_n 1, 1) := by decide +kernel
theorem dX7_first_1 : decode cX7_first 1 = .ok (.invokestatic 95, 3) := by decide +kernel
theorem dX7_first_4 : decode cX7_first 4 = .ok (.ifCond .eq 13, 3) := by decide +kernel
theorem dX7_first_7 : decode cX7_first 7 = .ok (.iload_n 2, 1) := by decide +kernel
theorem dX7_first_8 : decode cX7_first 8 = .ok (.ifCond .lt 9, 3) := by decide +kernel
theorem dX7_first_11 : decode cX7_first 11 = .ok (.iload_n 2, 1) := by decide +kernel
theorem dX7_first_12 : decode cX7_first 12 = .ok (.bipush 12, 2) := by decide +kernel
theorem dX7_first_14 : decode cX7_first 14 = .ok (.if_icmp .lt 5, 3) := by decide +kernel
theorem dX7_first_17 : decode cX7_first 17 = .ok (.iconst (-1), 1) := by decide +kernel
theorem dX7_first_18 : decode cX7_first 18 = .ok (.ireturn, 1) := by decide +kernel
theorem dX7_first_19 : decode cX7_first 19 = .ok (.iload_n 3, 1) := by decide +kernel
theorem dX7_first_20 : decode cX7_first 20 = .ok (.ifCond .lt 10, 3) := by decide +kernel
theorem dX7_first_23 : decode cX7_first 23 = .ok (.iload_n 3, 1) := by decide +kernel
theorem dX7_first_24 : decode cX7_first 24 = .ok (.sipush 1000, 3) := by decide +kernel
theorem dX7_first_27 : decode cX7_first 27 = .ok (.if_icmp .lt 6, 3) := by decide +kernel
theorem dX7_first_30 : decode cX7_first 30 = .ok (.bipush (-2), 2) := by decide +kernel
theorem dX7_first_32 : decode cX7_first 32 = .ok (.ireturn, 1) := by decide +kernel
theorem dX7_first_33 : decode cX7_first 33 = .ok (.aload_n 0, 1) := by decide +kernel
theorem dX7_first_34 : decode cX7_first 34 = .ok (.getfield 10, 3) := by decide +kernel
theorem dX7_first_37 : decode cX7_first 37 = .ok (.getfield 119, 3) := by decide +kernel
theorem dX7_first_40 : decode cX7_first 40 = .ok (.iload_n 1, 1) := by decide +kernel
theorem dX7_first_41 : decode cX7_first 41 = .ok (.aaload, 1) := by decide +kernel
theorem dX7_first_42 : decode cX7_first 42 = .ok (.iload_n 2, 1) := by decide +kernel
theorem dX7_first_43 : decode cX7_first 43 = .ok (.iaload, 1) := by decide +kernel
theorem dX7_first_44 : decode cX7_first 44 = .ok (.istore 4, 2) := by decide +kernel
theorem dX7_first_46 : decode cX7_first 46 = .ok (.aload_n 0, 1) := by decide +kernel
theorem dX7_first_47 : decode cX7_first 47 = .ok (.getfield 50, 3) := by decide +kernel
theorem dX7_first_50 : decode cX7_first 50 = .ok (.aload_n 0, 1) := by decide +kernel
theorem dX7_first_51 : decode cX7_first 51 = .ok (.getfield 10, 3) := by decide +kernel
theorem dX7_first_54 : decode cX7_first 54 = .ok (.invokevirtual 72, 3) := by decide +kernel
theorem dX7_first_57 : decode cX7_first 57 = .ok (.aload_n 0, 1) := by decide +kernel
theorem dX7_first_58 : decode cX7_first 58 = .ok (.getfield 10, 3) := by decide +kernel
theorem dX7_first_61 : decode cX7_first 61 = .ok (.getfield 119, 3) := by decide +kernel
theorem dX7_first_64 : decode cX7_first 64 = .ok (.iload_n 1, 1) := by decide +kernel
theorem dX7_first_65 : decode cX7_first 65 = .ok (.aaload, 1) := by decide +kernel
theorem dX7_first_66 : decode cX7_first 66 = .ok (.iload_n 2, 1) := by decide +kernel
theorem dX7_first_67 : decode cX7_first 67 = .ok (.iload_n 3, 1) := by decide +kernel
theorem dX7_first_68 : decode cX7_first 68 = .ok (.iastore, 1) := by decide +kernel
theorem dX7_first_69 : decode cX7_first 69 = .ok (.aload_n 0, 1) := by decide +kernel
theorem dX7_first_70 : decode cX7_first 70 = .ok (.getfield 21, 3) := by decide +kernel
theorem dX7_first_73 : decode cX7_first 73 = .ok (.bipush (-6), 2) := by decide +kernel
theorem dX7_first_75 : decode cX7_first 75 = .ok (.invokevirtual 75, 3) := by decide +kernel
theorem dX7_first_78 : decode cX7_first 78 = .ok (.iload 4, 2) := by decide +kernel
theorem dX7_first_80 : decode cX7_first 80 = .ok (.ireturn, 1) := by decide +kernel
theorem dX7_exchange_0 : decode cX7_exchange 0 = .ok (.aload_n 0, 1) := by decide +kernel
theorem dX7_exchange_1 : decode cX7_exchange 1 = .ok (.getfield 50, 3) := by decide +kernel
theorem dX7_exchange_4 : decode cX7_exchange 4 = .ok (.aload_n 0, 1) := by decide +kernel
theorem dX7_exchange_5 : decode cX7_exchange 5 = .ok (.getfield 10, 3) := by decide +kernel
theorem dX7_exchange_8 : decode cX7_exchange 8 = .ok (.invokevirtual 72, 3) := by decide +kernel
theorem dX7_exchange_11 : decode cX7_exchange 11 = .ok (.aload_n 0, 1) := by decide +kernel
theorem dX7_exchange_12 : decode cX7_exchange 12 = .ok (.getfield 10, 3) := by decide +kernel
theorem dX7_exchange_15 : decode cX7_exchange 15 = .ok (.invokevirtual 123, 3) := by decide +kernel
theorem dX7_exchange_18 : decode cX7_exchange 18 = .ok (.aload_n 0, 1) := by decide +kernel
theorem dX7_exchange_19 : decode cX7_exchange 19 = .ok (.getfield 21, 3) := by decide +kernel
theorem dX7_exchange_22 : decode cX7_exchange 22 = .ok (.bipush (-6), 2) := by decide +kernel
theorem dX7_exchange_24 : decode cX7_exchange 24 = .ok (.invokevirtual 75, 3) := by decide +kernel
theorem dX7_exchange_27 : decode cX7_exchange 27 = .ok (.aload_n 0, 1) := by decide +kernel
theorem dX7_exchange_28 : decode cX7_exchange 28 = .ok (.getfield 21, 3) := by decide +kernel
theorem dX7_exchange_31 : decode cX7_exchange 31 = .ok (.invokevirtual 126, 3) := by decide +kernel
theorem dX7_exchange_34 : decode cX7_exchange 34 = .ok (.ireturn, 1) := by decide +kernel
theorem dX7_ofOrder_0 : decode cX7_ofOrder 0 = .ok (.iload_n 1, 1) := by decide +kernel
theorem dX7_ofOrder_1 : decode cX7_ofOrder 1 = .ok (.invokestatic 95, 3) := by decide +kernel
theorem dX7_ofOrder_4 : decode cX7_ofOrder 4 = .ok (.ifCond .eq 23, 3) := by decide +kernel
theorem dX7_ofOrder_7 : decode cX7_ofOrder 7 = .ok (.iload_n 2, 1) := by decide +kernel
theorem dX7_ofOrder_8 : decode cX7_ofOrder 8 = .ok (.ifCond .lt 19, 3) := by decide +kernel
theorem dX7_ofOrder_11 : decode cX7_ofOrder 11 = .ok (.iload_n 2, 1) := by decide +kernel
theorem dX7_ofOrder_12 : decode cX7_ofOrder 12 = .ok (.aload_n 0, 1) := by decide +kernel
theorem dX7_ofOrder_13 : decode cX7_ofOrder 13 = .ok (.getfield 10, 3) := by decide +kernel
theorem dX7_ofOrder_16 : decode cX7_ofOrder 16 = .ok (.getfield 102, 3) := by decide +kernel
theorem dX7_ofOrder_19 : decode cX7_ofOrder 19 = .ok (.iload_n 1, 1) := by decide +kernel
theorem dX7_ofOrder_20 : decode cX7_ofOrder 20 = .ok (.aaload, 1) := by decide +kernel
theorem dX7_ofOrder_21 : decode cX7_ofOrder 21 = .ok (.getfield 116, 3) := by decide +kernel
theorem dX7_ofOrder_24 : decode cX7_ofOrder 24 = .ok (.if_icmp .lt 5, 3) := by decide +kernel
theorem dX7_ofOrder_27 : decode cX7_ofOrder 27 = .ok (.iconst (-1), 1) := by decide +kernel
theorem dX7_ofOrder_28 : decode cX7_ofOrder 28 = .ok (.ireturn, 1) := by decide +kernel
theorem dX7_ofOrder_29 : decode cX7_ofOrder 29 = .ok (.iload_n 3, 1) := by decide +kernel
theorem dX7_ofOrder_30 : decode cX7_ofOrder 30 = .ok (.ifCond .lt 8, 3) := by decide +kernel
theorem dX7_ofOrder_33 : decode cX7_ofOrder 33 = .ok (.iload_n 3, 1) := by decide +kernel
theorem dX7_ofOrder_34 : decode cX7_ofOrder 34 = .ok (.iconst 5, 1) := by decide +kernel
theorem dX7_ofOrder_35 : decode cX7_ofOrder 35 = .ok (.if_icmp .lt 6, 3) := by decide +kernel
theorem dX7_ofOrder_38 : decode cX7_ofOrder 38 = .ok (.bipush (-2), 2) := by decide +kernel
theorem dX7_ofOrder_40 : decode cX7_ofOrder 40 = .ok (.ireturn, 1) := by decide +kernel
theorem dX7_ofOrder_41 : decode cX7_ofOrder 41 = .ok (.aload_n 0, 1) := by decide +kernel
theorem dX7_ofOrder_42 : decode cX7_ofOrder 42 = .ok (.getfield 10, 3) := by decide +kernel
theorem dX7_ofOrder_45 : decode cX7_ofOrder 45 = .ok (.getfield 102, 3) := by decide +kernel
theorem dX7_ofOrder_48 : decode cX7_ofOrder 48 = .ok (.iload_n 1, 1) := by decide +kernel
theorem dX7_ofOrder_49 : decode cX7_ofOrder 49 = .ok (.aaload, 1) := by decide +kernel
theorem dX7_ofOrder_50 : decode cX7_ofOrder 50 = .ok (.iload_n 2, 1) := by decide +kernel
theorem dX7_ofOrder_51 : decode cX7_ofOrder 51 = .ok (.iload_n 3, 1) := by decide +kernel
theorem dX7_ofOrder_52 : decode cX7_ofOrder 52 = .ok (.invokevirtual 128, 3) := by decide +kernel
theorem dX7_ofOrder_55 : decode cX7_ofOrder 55 = .ok (.ireturn, 1) := by decide +kernel
theorem dX7_ofThread_0 : decode cX7_ofThread 0 = .ok (.iload_n 1, 1) := by decide +kernel
theorem dX7_ofThread_1 : decode cX7_ofThread 1 = .ok (.invokestatic 95, 3) := by decide +kernel
theorem dX7_ofThread_4 : decode cX7_ofThread 4 = .ok (.ifCond .ne 5, 3) := by decide +kernel
theorem dX7_ofThread_7 : decode cX7_ofThread 7 = .ok (.iconst (-1), 1) := by decide +kernel
theorem dX7_ofThread_8 : decode cX7_ofThread 8 = .ok (.ireturn, 1) := by decide +kernel
theorem dX7_ofThread_9 : decode cX7_ofThread 9 = .ok (.iload_n 2, 1) := by decide +kernel
theorem dX7_ofThread_10 : decode cX7_ofThread 10 = .ok (.tableswitch 189 0 10 #[58, 71, 81, 91, 112, 124, 136, 148, 160, 169, 179], 58) := by decide +kernel
theorem dX7_ofThread_68 : decode cX7_ofThread 68 = .ok (.aload_n 0, 1) := by decide +kernel
theorem dX7_ofThread_69 : decode cX7_ofThread 69 = .ok (.getfield 10, 3) := by decide +kernel
theorem dX7_ofThread_72 : decode cX7_ofThread 72 = .ok (.getfield 102, 3) := by decide +kernel
theorem dX7_ofThread_75 : decode cX7_ofThread 75 = .ok (.iload_n 1, 1) := by decide +kernel
theorem dX7_ofThread_76 : decode cX7_ofThread 76 = .ok (.aaload, 1) := by decide +kernel
theorem dX7_ofThread_77 : decode cX7_ofThread 77 = .ok (.getfield 116, 3) := by decide +kernel
theorem dX7_ofThread_80 : decode cX7_ofThread 80 = .ok (.ireturn, 1) := by decide +kernel
theorem dX7_ofThread_81 : decode cX7_ofThread 81 = .ok (.aload_n 0, 1) := by decide +kernel
theorem dX7_ofThread_82 : decode cX7_ofThread 82 = .ok (.getfield 21, 3) := by decide +kernel
theorem dX7_ofThread_85 : decode cX7_ofThread 85 = .ok (.getfield 132, 3) := by decide +kernel
theorem dX7_ofThread_88 : decode cX7_ofThread 88 = .ok (.iload_n 1, 1) := by decide +kernel
theorem dX7_ofThread_89 : decode cX7_ofThread 89 = .ok (.iaload, 1) := by decide +kernel
theorem dX7_ofThread_90 : decode cX7_ofThread 90 = .ok (.ireturn, 1) := by decide +kernel
theorem dX7_ofThread_91 : decode cX7_ofThread 91 = .ok (.aload_n 0, 1) := by decide +kernel
theorem dX7_ofThread_92 : decode cX7_ofThread 92 = .ok (.getfield 21, 3) := by decide +kernel
theorem dX7_ofThread_95 : decode cX7_ofThread 95 = .ok (.getfield 135, 3) := by decide +kernel
theorem dX7_ofThread_98 : decode cX7_ofThread 98 = .ok (.iload_n 1, 1) := by decide +kernel
theorem dX7_ofThread_99 : decode cX7_ofThread 99 = .ok (.iaload, 1) := by decide +kernel
theorem dX7_ofThread_100 : decode cX7_ofThread 100 = .ok (.ireturn, 1) := by decide +kernel
theorem dX7_ofThread_101 : decode cX7_ofThread 101 = .ok (.aload_n 0, 1) := by decide +kernel
theorem dX7_ofThread_102 : decode cX7_ofThread 102 = .ok (.getfield 21, 3) := by decide +kernel
theorem dX7_ofThread_105 : decode cX7_ofThread 105 = .ok (.getfield 138, 3) := by decide +kernel
theorem dX7_ofThread_108 : decode cX7_ofThread 108 = .ok (.iload_n 1, 1) := by decide +kernel
theorem dX7_ofThread_109 : decode cX7_ofThread 109 = .ok (.aaload, 1) := by decide +kernel
theorem dX7_ofThread_110 : decode cX7_ofThread 110 = .ok (.getfield 142, 3) := by decide +kernel
theorem dX7_ofThread_113 : decode cX7_ofThread 113 = .ok (.ifCond .eq 7, 3) := by decide +kernel
theorem dX7_ofThread_116 : decode cX7_ofThread 116 = .ok (.iconst 1, 1) := by decide +kernel
theorem dX7_ofThread_117 : decode cX7_ofThread 117 = .ok (.goto 4, 3) := by decide +kernel
theorem dX7_ofThread_120 : decode cX7_ofThread 120 = .ok (.iconst 0, 1) := by decide +kernel
theorem dX7_ofThread_121 : decode cX7_ofThread 121 = .ok (.ireturn, 1) := by decide +kernel
theorem dX7_ofThread_122 : decode cX7_ofThread 122 = .ok (.aload_n 0, 1) := by decide +kernel
theorem dX7_ofThread_123 : decode cX7_ofThread 123 = .ok (.getfield 21, 3) := by decide +kernel
theorem dX7_ofThread_126 : decode cX7_ofThread 126 = .ok (.getfield 148, 3) := by decide +kernel
theorem dX7_ofThread_129 : decode cX7_ofThread 129 = .ok (.iload_n 1, 1) := by decide +kernel
theorem dX7_ofThread_130 : decode cX7_ofThread 130 = .ok (.aaload, 1) := by decide +kernel
theorem dX7_ofThread_131 : decode cX7_ofThread 131 = .ok (.iconst 1, 1) := by decide +kernel
theorem dX7_ofThread_132 : decode cX7_ofThread 132 = .ok (.iaload, 1) := by decide +kernel
theorem dX7_ofThread_133 : decode cX7_ofThread 133 = .ok (.ireturn, 1) := by decide +kernel
theorem dX7_ofThread_134 : decode cX7_ofThread 134 = .ok (.aload_n 0, 1) := by decide +kernel
theorem dX7_ofThread_135 : decode cX7_ofThread 135 = .ok (.getfield 21, 3) := by decide +kernel
theorem dX7_ofThread_138 : decode cX7_ofThread 138 = .ok (.getfield 148, 3) := by decide +kernel
theorem dX7_ofThread_141 : decode cX7_ofThread 141 = .ok (.iload_n 1, 1) := by decide +kernel
theorem dX7_ofThread_142 : decode cX7_ofThread 142 = .ok (.aaload, 1) := by decide +kernel
theorem dX7_ofThread_143 : decode cX7_ofThread 143 = .ok (.iconst 2, 1) := by decide +kernel
theorem dX7_ofThread_144 : decode cX7_ofThread 144 = .ok (.iaload, 1) := by decide +kernel
theorem dX7_ofThread_145 : decode cX7_ofThread 145 = .ok (.ireturn, 1) := by decide +kernel
theorem dX7_ofThread_146 : decode cX7_ofThread 146 = .ok (.aload_n 0, 1) := by decide +kernel
theorem dX7_ofThread_147 : decode cX7_ofThread 147 = .ok (.getfield 21, 3) := by decide +kernel
theorem dX7_ofThread_150 : decode cX7_ofThread 150 = .ok (.getfield 148, 3) := by decide +kernel
theorem dX7_ofThread_153 : decode cX7_ofThread 153 = .ok (.iload_n 1, 1) := by decide +kernel
theorem dX7_ofThread_154 : decode cX7_ofThread 154 = .ok (.aaload, 1) := by decide +kernel
theorem dX7_ofThread_155 : decode cX7_ofThread 155 = .ok (.iconst 3, 1) := by decide +kernel
theorem dX7_ofThread_156 : decode cX7_ofThread 156 = .ok (.iaload, 1) := by decide +kernel
theorem dX7_ofThread_157 : decode cX7_ofThread 157 = .ok (.ireturn, 1) := by decide +kernel
theorem dX7_ofThread_158 : decode cX7_ofThread 158 = .ok (.aload_n 0, 1) := by decide +kernel
theorem dX7_ofThread_159 : decode cX7_ofThread 159 = .ok (.getfield 21, 3) := by decide +kernel
theorem dX7_ofThread_162 : decode cX7_ofThread 162 = .ok (.getfield 148, 3) := by decide +kernel
theorem dX7_ofThread_165 : decode cX7_ofThread 165 = .ok (.iload_n 1, 1) := by decide +kernel
theorem dX7_ofThread_166 : decode cX7_ofThread 166 = .ok (.aaload, 1) := by decide +kernel
theorem dX7_ofThread_167 : decode cX7_ofThread 167 = .ok (.iconst 4, 1) := by decide +kernel
theorem dX7_ofThread_168 : decode cX7_ofThread 168 = .ok (.iaload, 1) := by decide +kernel
theorem dX7_ofThread_169 : decode cX7_ofThread 169 = .ok (.ireturn, 1) := by decide +kernel
theorem dX7_ofThread_170 : decode cX7_ofThread 170 = .ok (.aload_n 0, 1) := by decide +kernel
theorem dX7_ofThread_171 : decode cX7_ofThread 171 = .ok (.getfield 21, 3) := by decide +kernel
theorem dX7_ofThread_174 : decode cX7_ofThread 174 = .ok (.iload_n 1, 1) := by decide +kernel
theorem dX7_ofThread_175 : decode cX7_ofThread 175 = .ok (.invokevirtual 151, 3) := by decide +kernel
theorem dX7_ofThread_178 : decode cX7_ofThread 178 = .ok (.ireturn, 1) := by decide +kernel
theorem dX7_ofThread_179 : decode cX7_ofThread 179 = .ok (.aload_n 0, 1) := by decide +kernel
theorem dX7_ofThread_180 : decode cX7_ofThread 180 = .ok (.getfield 21, 3) := by decide +kernel
theorem dX7_ofThread_183 : decode cX7_ofThread 183 = .ok (.iload_n 1, 1) := by decide +kernel
theorem dX7_ofThread_184 : decode cX7_ofThread 184 = .ok (.iconst 0, 1) := by decide +kernel
theorem dX7_ofThread_185 : decode cX7_ofThread 185 = .ok (.invokevirtual 155, 3) := by decide +kernel
theorem dX7_ofThread_188 : decode cX7_ofThread 188 = .ok (.ireturn, 1) := by decide +kernel
theorem dX7_ofThread_189 : decode cX7_ofThread 189 = .ok (.aload_n 0, 1) := by decide +kernel
theorem dX7_ofThread_190 : decode cX7_ofThread 190 = .ok (.getfield 21, 3) := by decide +kernel
theorem dX7_ofThread_193 : decode cX7_ofThread 193 = .ok (.iload_n 1, 1) := by decide +kernel
theorem dX7_ofThread_194 : decode cX7_ofThread 194 = .ok (.iconst 1, 1) := by decide +kernel
theorem dX7_ofThread_195 : decode cX7_ofThread 195 = .ok (.invokevirtual 155, 3) := by decide +kernel
theorem dX7_ofThread_198 : decode cX7_ofThread 198 = .ok (.ireturn, 1) := by decide +kernel
theorem dX7_ofThread_199 : decode cX7_ofThread 199 = .ok (.bipush (-2), 2) := by decide +kernel
theorem dX7_ofThread_201 : decode cX7_ofThread 201 = .ok (.ireturn, 1) := by decide +kernel
theorem dX7_last_0 : decode cX7_last 0 = .ok (.iload_n 1, 1) := by decide +kernel
theorem dX7_last_1 : decode cX7_last 1 = .ok (.invokestatic 95, 3) := by decide +kernel
theorem dX7_last_4 : decode cX7_last 4 = .ok (.ifCond .eq 13, 3) := by decide +kernel
theorem dX7_last_7 : decode cX7_last 7 = .ok (.iload_n 2, 1) := by decide +kernel
theorem dX7_last_8 : decode cX7_last 8 = .ok (.ifCond .lt 9, 3) := by decide +kernel
theorem dX7_last_11 : decode cX7_last 11 = .ok (.iload_n 2, 1) := by decide +kernel
theorem dX7_last_12 : decode cX7_last 12 = .ok (.bipush 12, 2) := by decide +kernel
theorem dX7_last_14 : decode cX7_last 14 = .ok (.if_icmp .lt 5, 3) := by decide +kernel
theorem dX7_last_17 : decode cX7_last 17 = .ok (.iconst (-1), 1) := by decide +kernel
theorem dX7_last_18 : decode cX7_last 18 = .ok (.ireturn, 1) := by decide +kernel
theorem dX7_last_19 : decode cX7_last 19 = .ok (.aload_n 0, 1) := by decide +kernel
theorem dX7_last_20 : decode cX7_last 20 = .ok (.getfield 21, 3) := by decide +kernel
theorem dX7_last_23 : decode cX7_last 23 = .ok (.getfield 138, 3) := by decide +kernel
theorem dX7_last_26 : decode cX7_last 26 = .ok (.iload_n 1, 1) := by decide +kernel
theorem dX7_last_27 : decode cX7_last 27 = .ok (.aaload, 1) := by decide +kernel
theorem dX7_last_28 : decode cX7_last 28 = .ok (.getfield 158, 3) := by decide +kernel
theorem dX7_last_31 : decode cX7_last 31 = .ok (.iload_n 2, 1) := by decide +kernel
theorem dX7_last_32 : decode cX7_last 32 = .ok (.iaload, 1) := by decide +kernel
theorem dX7_last_33 : decode cX7_last 33 = .ok (.ireturn, 1) := by decide +kernel
theorem dX7_ofStep_0 : decode cX7_ofStep 0 = .ok (.iload_n 1, 1) := by decide +kernel
theorem dX7_ofStep_1 : decode cX7_ofStep 1 = .ok (.invokestatic 95, 3) := by decide +kernel
theorem dX7_ofStep_4 : decode cX7_ofStep 4 = .ok (.ifCond .eq 20, 3) := by decide +kernel
theorem dX7_ofStep_7 : decode cX7_ofStep 7 = .ok (.iload_n 2, 1) := by decide +kernel
theorem dX7_ofStep_8 : decode cX7_ofStep 8 = .ok (.ifCond .lt 16, 3) := by decide +kernel
theorem dX7_ofStep_11 : decode cX7_ofStep 11 = .ok (.iload_n 2, 1) := by decide +kernel
theorem dX7_ofStep_12 : decode cX7_ofStep 12 = .ok (.aload_n 0, 1) := by decide +kernel
theorem dX7_ofStep_13 : decode cX7_ofStep 13 = .ok (.getfield 21, 3) := by decide +kernel
theorem dX7_ofStep_16 : decode cX7_ofStep 16 = .ok (.getfield 132, 3) := by decide +kernel
theorem dX7_ofStep_19 : decode cX7_ofStep 19 = .ok (.iload_n 1, 1) := by decide +kernel
theorem dX7_ofStep_20 : decode cX7_ofStep 20 = .ok (.iaload, 1) := by decide +kernel
theorem dX7_ofStep_21 : decode cX7_ofStep 21 = .ok (.if_icmp .lt 5, 3) := by decide +kernel
theorem dX7_ofStep_24 : decode cX7_ofStep 24 = .ok (.iconst (-1), 1) := by decide +kernel
theorem dX7_ofStep_25 : decode cX7_ofStep 25 = .ok (.ireturn, 1) := by decide +kernel
theorem dX7_ofStep_26 : decode cX7_ofStep 26 = .ok (.iload_n 3, 1) := by decide +kernel
theorem dX7_ofStep_27 : decode cX7_ofStep 27 = .ok (.tableswitch 78 0 3 #[29, 41, 56, 68], 29) := by decide +kernel
theorem dX7_ofStep_56 : decode cX7_ofStep 56 = .ok (.aload_n 0, 1) := by decide +kernel
theorem dX7_ofStep_57 : decode cX7_ofStep 57 = .ok (.getfield 21, 3) := by decide +kernel
theorem dX7_ofStep_60 : decode cX7_ofStep 60 = .ok (.getfield 161, 3) := by decide +kernel
theorem dX7_ofStep_63 : decode cX7_ofStep 63 = .ok (.iload_n 1, 1) := by decide +kernel
theorem dX7_ofStep_64 : decode cX7_ofStep 64 = .ok (.aaload, 1) := by decide +kernel
theorem dX7_ofStep_65 : decode cX7_ofStep 65 = .ok (.iload_n 2, 1) := by decide +kernel
theorem dX7_ofStep_66 : decode cX7_ofStep 66 = .ok (.iaload, 1) := by decide +kernel
theorem dX7_ofStep_67 : decode cX7_ofStep 67 = .ok (.ireturn, 1) := by decide +kernel
theorem dX7_ofStep_68 : decode cX7_ofStep 68 = .ok (.aload_n 0, 1) := by decide +kernel
theorem dX7_ofStep_69 : decode cX7_ofStep 69 = .ok (.getfield 21, 3) := by decide +kernel
theorem dX7_ofStep_72 : decode cX7_ofStep 72 = .ok (.getfield 138, 3) := by decide +kernel
theorem dX7_ofStep_75 : decode cX7_ofStep 75 = .ok (.iload_n 1, 1) := by decide +kernel
theorem dX7_ofStep_76 : decode cX7_ofStep 76 = .ok (.aaload, 1) := by decide +kernel
theorem dX7_ofStep_77 : decode cX7_ofStep 77 = .ok (.getfield 164, 3) := by decide +kernel
theorem dX7_ofStep_80 : decode cX7_ofStep 80 = .ok (.iload_n 2, 1) := by decide +kernel
theorem dX7_ofStep_81 : decode cX7_ofStep 81 = .ok (.iaload, 1) := by decide +kernel
theorem dX7_ofStep_82 : decode cX7_ofStep 82 = .ok (.ireturn, 1) := by decide +kernel
theorem dX7_ofStep_83 : decode cX7_ofStep 83 = .ok (.aload_n 0, 1) := by decide +kernel
theorem dX7_ofStep_84 : decode cX7_ofStep 84 = .ok (.getfield 21, 3) := by decide +kernel
theorem dX7_ofStep_87 : decode cX7_ofStep 87 = .ok (.getfield 166, 3) := by decide +kernel
theorem dX7_ofStep_90 : decode cX7_ofStep 90 = .ok (.iload_n 1, 1) := by decide +kernel
theorem dX7_ofStep_91 : decode cX7_ofStep 91 = .ok (.aaload, 1) := by decide +kernel
theorem dX7_ofStep_92 : decode cX7_ofStep 92 = .ok (.iload_n 2, 1) := by decide +kernel
theorem dX7_ofStep_93 : decode cX7_ofStep 93 = .ok (.iaload, 1) := by decide +kernel
theorem dX7_ofStep_94 : decode cX7_ofStep 94 = .ok (.ireturn, 1) := by decide +kernel
theorem dX7_ofStep_95 : decode cX7_ofStep 95 = .ok (.aload_n 0, 1) := by decide +kernel
theorem dX7_ofStep_96 : decode cX7_ofStep 96 = .ok (.getfield 21, 3) := by decide +kernel
theorem dX7_ofStep_99 : decode cX7_ofStep 99 = .ok (.iload_n 1, 1) := by decide +kernel
theorem dX7_ofStep_100 : decode cX7_ofStep 100 = .ok (.iload_n 2, 1) := by decide +kernel
theorem dX7_ofStep_101 : decode cX7_ofStep 101 = .ok (.invokevirtual 169, 3) := by decide +kernel
theorem dX7_ofStep_104 : decode cX7_ofStep 104 = .ok (.ireturn, 1) := by decide +kernel
theorem dX7_ofStep_105 : decode cX7_ofStep 105 = .ok (.bipush (-2), 2) := by decide +kernel
theorem dX7_ofStep_107 : decode cX7_ofStep 107 = .ok (.ireturn, 1) := by decide +kernel
theorem dX7_at_0 : decode cX7_at 0 = .ok (.iload_n 1, 1) := by decide +kernel
theorem dX7_at_1 : decode cX7_at 1 = .ok (.ifCond .ge 6, 3) := by decide +kernel
theorem dX7_at_4 : decode cX7_at 4 = .ok (.bipush (-2), 2) := by decide +kernel
theorem dX7_at_6 : decode cX7_at 6 = .ok (.ireturn, 1) := by decide +kernel
theorem dX7_at_7 : decode cX7_at 7 = .ok (.iload_n 2, 1) := by decide +kernel
theorem dX7_at_8 : decode cX7_at 8 = .ok (.tableswitch 57 0 2 #[28, 37, 47], 28) := by decide +kernel
theorem dX7_at_36 : decode cX7_at 36 = .ok (.aload_n 0, 1) := by decide +kernel
theorem dX7_at_37 : decode cX7_at 37 = .ok (.getfield 21, 3) := by decide +kernel
theorem dX7_at_40 : decode cX7_at 40 = .ok (.iload_n 1, 1) := by decide +kernel
theorem dX7_at_41 : decode cX7_at 41 = .ok (.invokevirtual 172, 3) := by decide +kernel
theorem dX7_at_44 : decode cX7_at 44 = .ok (.ireturn, 1) := by decide +kernel
theorem dX7_at_45 : decode cX7_at 45 = .ok (.aload_n 0, 1) := by decide +kernel
theorem dX7_at_46 : decode cX7_at 46 = .ok (.getfield 21, 3) := by decide +kernel
theorem dX7_at_49 : decode cX7_at 49 = .ok (.iload_n 1, 1) := by decide +kernel
theorem dX7_at_50 : decode cX7_at 50 = .ok (.iconst 0, 1) := by decide +kernel
theorem dX7_at_51 : decode cX7_at 51 = .ok (.invokevirtual 175, 3) := by decide +kernel
theorem dX7_at_54 : decode cX7_at 54 = .ok (.ireturn, 1) := by decide +kernel
theorem dX7_at_55 : decode cX7_at 55 = .ok (.aload_n 0, 1) := by decide +kernel
theorem dX7_at_56 : decode cX7_at 56 = .ok (.getfield 21, 3) := by decide +kernel
theorem dX7_at_59 : decode cX7_at 59 = .ok (.iload_n 1, 1) := by decide +kernel
theorem dX7_at_60 : decode cX7_at 60 = .ok (.iconst 1, 1) := by decide +kernel
theorem dX7_at_61 : decode cX7_at 61 = .ok (.invokevirtual 175, 3) := by decide +kernel
theorem dX7_at_64 : decode cX7_at 64 = .ok (.ireturn, 1) := by decide +kernel
theorem dX7_at_65 : decode cX7_at 65 = .ok (.bipush (-2), 2) := by decide +kernel
theorem dX7_at_67 : decode cX7_at 67 = .ok (.ireturn, 1) := by decide +kernel
theorem dX7_count_0 : decode cX7_count 0 = .ok (.iload_n 1, 1) := by decide +kernel
theorem dX7_count_1 : decode cX7_count 1 = .ok (.tableswitch 175 0 9 #[55, 63, 83, 111, 120, 129, 137, 145, 155, 165], 55) := by decide +kernel
theorem dX7_count_56 : decode cX7_count 56 = .ok (.aload_n 0, 1) := by decide +kernel
theorem dX7_count_57 : decode cX7_count 57 = .ok (.getfield 21, 3) := by decide +kernel
theorem dX7_count_60 : decode cX7_count 60 = .ok (.invokevirtual 126, 3) := by decide +kernel
theorem dX7_count_63 : decode cX7_count 63 = .ok (.ireturn, 1) := by decide +kernel
theorem dX7_count_64 : decode cX7_count 64 = .ok (.aload_n 0, 1) := by decide +kernel
theorem dX7_count_65 : decode cX7_count 65 = .ok (.getfield 21, 3) := by decide +kernel
theorem dX7_count_68 : decode cX7_count 68 = .ok (.getfield 132, 3) := by decide +kernel
theorem dX7_count_71 : decode cX7_count 71 = .ok (.iconst 0, 1) := by decide +kernel
theorem dX7_count_72 : decode cX7_count 72 = .ok (.iaload, 1) := by decide +kernel
theorem dX7_count_73 : decode cX7_count 73 = .ok (.aload_n 0, 1) := by decide +kernel
theorem dX7_count_74 : decode cX7_count 74 = .ok (.getfield 21, 3) := by decide +kernel
theorem dX7_count_77 : decode cX7_count 77 = .ok (.getfield 132, 3) := by decide +kernel
theorem dX7_count_80 : decode cX7_count 80 = .ok (.iconst 1, 1) := by decide +kernel
theorem dX7_count_81 : decode cX7_count 81 = .ok (.iaload, 1) := by decide +kernel
theorem dX7_count_82 : decode cX7_count 82 = .ok (.iadd, 1) := by decide +kernel
theorem dX7_count_83 : decode cX7_count 83 = .ok (.ireturn, 1) := by decide +kernel
theorem dX7_count_84 : decode cX7_count 84 = .ok (.aload_n 0, 1) := by decide +kernel
theorem dX7_count_85 : decode cX7_count 85 = .ok (.getfield 21, 3) := by decide +kernel
theorem dX7_count_88 : decode cX7_count 88 = .ok (.invokevirtual 126, 3) := by decide +kernel
theorem dX7_count_91 : decode cX7_count 91 = .ok (.aload_n 0, 1) := by decide +kernel
theorem dX7_count_92 : decode cX7_count 92 = .ok (.getfield 21, 3) := by decide +kernel
theorem dX7_count_95 : decode cX7_count 95 = .ok (.getfield 132, 3) := by decide +kernel
theorem dX7_count_98 : decode cX7_count 98 = .ok (.iconst 0, 1) := by decide +kernel
theorem dX7_count_99 : decode cX7_count 99 = .ok (.iaload, 1) := by decide +kernel
theorem dX7_count_100 : decode cX7_count 100 = .ok (.isub, 1) := by decide +kernel
theorem dX7_count_101 : decode cX7_count 101 = .ok (.aload_n 0, 1) := by decide +kernel
theorem dX7_count_102 : decode cX7_count 102 = .ok (.getfield 21, 3) := by decide +kernel
theorem dX7_count_105 : decode cX7_count 105 = .ok (.getfield 132, 3) := by decide +kernel
theorem dX7_count_108 : decode cX7_count 108 = .ok (.iconst 1, 1) := by decide +kernel
theorem dX7_count_109 : decode cX7_count 109 = .ok (.iaload, 1) := by decide +kernel
theorem dX7_count_110 : decode cX7_count 110 = .ok (.isub, 1) := by decide +kernel
theorem dX7_count_111 : decode cX7_count 111 = .ok (.ireturn, 1) := by decide +kernel
theorem dX7_count_112 : decode cX7_count 112 = .ok (.aload_n 0, 1) := by decide +kernel
theorem dX7_count_113 : decode cX7_count 113 = .ok (.getfield 21, 3) := by decide +kernel
theorem dX7_count_116 : decode cX7_count 116 = .ok (.iconst 0, 1) := by decide +kernel
theorem dX7_count_117 : decode cX7_count 117 = .ok (.invokevirtual 178, 3) := by decide +kernel
theorem dX7_count_120 : decode cX7_count 120 = .ok (.ireturn, 1) := by decide +kernel
theorem dX7_count_121 : decode cX7_count 121 = .ok (.aload_n 0, 1) := by decide +kernel
theorem dX7_count_122 : decode cX7_count 122 = .ok (.getfield 21, 3) := by decide +kernel
theorem dX7_count_125 : decode cX7_count 125 = .ok (.iconst 1, 1) := by decide +kernel
theorem dX7_count_126 : decode cX7_count 126 = .ok (.invokevirtual 178, 3) := by decide +kernel
theorem dX7_count_129 : decode cX7_count 129 = .ok (.ireturn, 1) := by decide +kernel
theorem dX7_count_130 : decode cX7_count 130 = .ok (.aload_n 0, 1) := by decide +kernel
theorem dX7_count_131 : decode cX7_count 131 = .ok (.getfield 34, 3) := by decide +kernel
theorem dX7_count_134 : decode cX7_count 134 = .ok (.getfield 83, 3) := by decide +kernel
theorem dX7_count_137 : decode cX7_count 137 = .ok (.ireturn, 1) := by decide +kernel
theorem dX7_count_138 : decode cX7_count 138 = .ok (.aload_n 0, 1) := by decide +kernel
theorem dX7_count_139 : decode cX7_count 139 = .ok (.getfield 50, 3) := by decide +kernel
theorem dX7_count_142 : decode cX7_count 142 = .ok (.getfield 181, 3) := by decide +kernel
theorem dX7_count_145 : decode cX7_count 145 = .ok (.ireturn, 1) := by decide +kernel
theorem dX7_count_146 : decode cX7_count 146 = .ok (.aload_n 0, 1) := by decide +kernel
theorem dX7_count_147 : decode cX7_count 147 = .ok (.getfield 10, 3) := by decide +kernel
theorem dX7_count_150 : decode cX7_count 150 = .ok (.getfield 69, 3) := by decide +kernel
theorem dX7_count_153 : decode cX7_count 153 = .ok (.iconst 0, 1) := by decide +kernel
theorem dX7_count_154 : decode cX7_count 154 = .ok (.iaload, 1) := by decide +kernel
theorem dX7_count_155 : decode cX7_count 155 = .ok (.ireturn, 1) := by decide +kernel
theorem dX7_count_156 : decode cX7_count 156 = .ok (.aload_n 0, 1) := by decide +kernel
theorem dX7_count_157 : decode cX7_count 157 = .ok (.getfield 10, 3) := by decide +kernel
theorem dX7_count_160 : decode cX7_count 160 = .ok (.getfield 69, 3) := by decide +kernel
theorem dX7_count_163 : decode cX7_count 163 = .ok (.iconst 1, 1) := by decide +kernel
theorem dX7_count_164 : decode cX7_count 164 = .ok (.iaload, 1) := by decide +kernel
theorem dX7_count_165 : decode cX7_count 165 = .ok (.ireturn, 1) := by decide +kernel
theorem dX7_count_166 : decode cX7_count 166 = .ok (.aload_n 0, 1) := by decide +kernel
theorem dX7_count_167 : decode cX7_count 167 = .ok (.getfield 10, 3) := by decide +kernel
theorem dX7_count_170 : decode cX7_count 170 = .ok (.getfield 69, 3) := by decide +kernel
theorem dX7_count_173 : decode cX7_count 173 = .ok (.iconst 2, 1) := by decide +kernel
theorem dX7_count_174 : decode cX7_count 174 = .ok (.iaload, 1) := by decide +kernel
theorem dX7_count_175 : decode cX7_count 175 = .ok (.ireturn, 1) := by decide +kernel
theorem dX7_count_176 : decode cX7_count 176 = .ok (.bipush (-2), 2) := by decide +kernel
theorem dX7_count_178 : decode cX7_count 178 = .ok (.ireturn, 1) := by decide +kernel
theorem dX7_alone_0 : decode cX7_alone 0 = .ok (.iload_n 1, 1) := by decide +kernel
theorem dX7_alone_1 : decode cX7_alone 1 = .ok (.invokestatic 95, 3) := by decide +kernel
theorem dX7_alone_4 : decode cX7_alone 4 = .ok (.ifCond .ne 5, 3) := by decide +kernel
theorem dX7_alone_7 : decode cX7_alone 7 = .ok (.iconst (-1), 1) := by decide +kernel
theorem dX7_alone_8 : decode cX7_alone 8 = .ok (.ireturn, 1) := by decide +kernel
theorem dX7_alone_9 : decode cX7_alone 9 = .ok (.aload_n 0, 1) := by decide +kernel
theorem dX7_alone_10 : decode cX7_alone 10 = .ok (.getfield 25, 3) := by decide +kernel
theorem dX7_alone_13 : decode cX7_alone 13 = .ok (.aload_n 0, 1) := by decide +kernel
theorem dX7_alone_14 : decode cX7_alone 14 = .ok (.getfield 10, 3) := by decide +kernel
theorem dX7_alone_17 : decode cX7_alone 17 = .ok (.invokevirtual 182, 3) := by decide +kernel
theorem dX7_alone_20 : decode cX7_alone 20 = .ok (.aload_n 0, 1) := by decide +kernel
theorem dX7_alone_21 : decode cX7_alone 21 = .ok (.getfield 25, 3) := by decide +kernel
theorem dX7_alone_24 : decode cX7_alone 24 = .ok (.getfield 102, 3) := by decide +kernel
theorem dX7_alone_27 : decode cX7_alone 27 = .ok (.iconst 1, 1) := by decide +kernel
theorem dX7_alone_28 : decode cX7_alone 28 = .ok (.iload_n 1, 1) := by decide +kernel
theorem dX7_alone_29 : decode cX7_alone 29 = .ok (.isub, 1) := by decide +kernel
theorem dX7_alone_30 : decode cX7_alone 30 = .ok (.aaload, 1) := by decide +kernel
theorem dX7_alone_31 : decode cX7_alone 31 = .ok (.iconst 0, 1) := by decide +kernel
theorem dX7_alone_32 : decode cX7_alone 32 = .ok (.putfield 116, 3) := by decide +kernel
theorem dX7_alone_35 : decode cX7_alone 35 = .ok (.aload_n 0, 1) := by decide +kernel
theorem dX7_alone_36 : decode cX7_alone 36 = .ok (.getfield 28, 3) := by decide +kernel
theorem dX7_alone_39 : decode cX7_alone 39 = .ok (.bipush (-6), 2) := by decide +kernel
theorem dX7_alone_41 : decode cX7_alone 41 = .ok (.invokevirtual 75, 3) := by decide +kernel
theorem dX7_alone_44 : decode cX7_alone 44 = .ok (.aload_n 0, 1) := by decide +kernel
theorem dX7_alone_45 : decode cX7_alone 45 = .ok (.getfield 28, 3) := by decide +kernel
theorem dX7_alone_48 : decode cX7_alone 48 = .ok (.invokevirtual 126, 3) := by decide +kernel
theorem dX7_alone_51 : decode cX7_alone 51 = .ok (.ireturn, 1) := by decide +kernel
theorem dX7_lengthWith_0 : decode cX7_lengthWith 0 = .ok (.iload_n 1, 1) := by decide +kernel
theorem dX7_lengthWith_1 : decode cX7_lengthWith 1 = .ok (.getstatic 62, 3) := by decide +kernel
theorem dX7_lengthWith_4 : decode cX7_lengthWith 4 = .ok (.iconst 0, 1) := by decide +kernel
theorem dX7_lengthWith_5 : decode cX7_lengthWith 5 = .ok (.iaload, 1) := by decide +kernel
theorem dX7_lengthWith_6 : decode cX7_lengthWith 6 = .ok (.if_icmp .lt 12, 3) := by decide +kernel
theorem dX7_lengthWith_9 : decode cX7_lengthWith 9 = .ok (.iload_n 1, 1) := by decide +kernel
theorem dX7_lengthWith_10 : decode cX7_lengthWith 10 = .ok (.getstatic 66, 3) := by decide +kernel
theorem dX7_lengthWith_13 : decode cX7_lengthWith 13 = .ok (.iconst 0, 1) := by decide +kernel
theorem dX7_lengthWith_14 : decode cX7_lengthWith 14 = .ok (.iaload, 1) := by decide +kernel
theorem dX7_lengthWith_15 : decode cX7_lengthWith 15 = .ok (.if_icmp .le 6, 3) := by decide +kernel
theorem dX7_lengthWith_18 : decode cX7_lengthWith 18 = .ok (.bipush (-2), 2) := by decide +kernel
theorem dX7_lengthWith_20 : decode cX7_lengthWith 20 = .ok (.ireturn, 1) := by decide +kernel
theorem dX7_lengthWith_21 : decode cX7_lengthWith 21 = .ok (.aload_n 0, 1) := by decide +kernel
theorem dX7_lengthWith_22 : decode cX7_lengthWith 22 = .ok (.iload_n 1, 1) := by decide +kernel
theorem dX7_lengthWith_23 : decode cX7_lengthWith 23 = .ok (.invokevirtual 184, 3) := by decide +kernel
theorem dX7_lengthWith_26 : decode cX7_lengthWith 26 = .ok (.ireturn, 1) := by decide +kernel
theorem dX7_bestTurns_0 : decode cX7_bestTurns 0 = .ok (.getstatic 62, 3) := by decide +kernel
theorem dX7_bestTurns_3 : decode cX7_bestTurns 3 = .ok (.iconst 0, 1) := by decide +kernel
theorem dX7_bestTurns_4 : decode cX7_bestTurns 4 = .ok (.iaload, 1) := by decide +kernel
theorem dX7_bestTurns_5 : decode cX7_bestTurns 5 = .ok (.istore_n 1, 1) := by decide +kernel
theorem dX7_bestTurns_6 : decode cX7_bestTurns 6 = .ok (.aload_n 0, 1) := by decide +kernel
theorem dX7_bestTurns_7 : decode cX7_bestTurns 7 = .ok (.iload_n 1, 1) := by decide +kernel
theorem dX7_bestTurns_8 : decode cX7_bestTurns 8 = .ok (.invokevirtual 184, 3) := by decide +kernel
theorem dX7_bestTurns_11 : decode cX7_bestTurns 11 = .ok (.istore_n 2, 1) := by decide +kernel
theorem dX7_bestTurns_12 : decode cX7_bestTurns 12 = .ok (.iload_n 1, 1) := by decide +kernel
theorem dX7_bestTurns_13 : decode cX7_bestTurns 13 = .ok (.iconst 1, 1) := by decide +kernel
theorem dX7_bestTurns_14 : decode cX7_bestTurns 14 = .ok (.iadd, 1) := by decide +kernel
theorem dX7_bestTurns_15 : decode cX7_bestTurns 15 = .ok (.istore_n 3, 1) := by decide +kernel
theorem dX7_bestTurns_16 : decode cX7_bestTurns 16 = .ok (.iload_n 3, 1) := by decide +kernel
theorem dX7_bestTurns_17 : decode cX7_bestTurns 17 = .ok (.getstatic 66, 3) := by decide +kernel
theorem dX7_bestTurns_20 : decode cX7_bestTurns 20 = .ok (.iconst 0, 1) := by decide +kernel
theorem dX7_bestTurns_21 : decode cX7_bestTurns 21 = .ok (.iaload, 1) := by decide +kernel
theorem dX7_bestTurns_22 : decode cX7_bestTurns 22 = .ok (.if_icmp .gt 27, 3) := by decide +kernel
theorem dX7_bestTurns_25 : decode cX7_bestTurns 25 = .ok (.aload_n 0, 1) := by decide +kernel
theorem dX7_bestTurns_26 : decode cX7_bestTurns 26 = .ok (.iload_n 3, 1) := by decide +kernel
theorem dX7_bestTurns_27 : decode cX7_bestTurns 27 = .ok (.invokevirtual 184, 3) := by decide +kernel
theorem dX7_bestTurns_30 : decode cX7_bestTurns 30 = .ok (.istore 4, 2) := by decide +kernel
theorem dX7_bestTurns_32 : decode cX7_bestTurns 32 = .ok (.iload 4, 2) := by decide +kernel
theorem dX7_bestTurns_34 : decode cX7_bestTurns 34 = .ok (.iload_n 2, 1) := by decide +kernel
theorem dX7_bestTurns_35 : decode cX7_bestTurns 35 = .ok (.if_icmp .ge 8, 3) := by decide +kernel
theorem dX7_bestTurns_38 : decode cX7_bestTurns 38 = .ok (.iload_n 3, 1) := by decide +kernel
theorem dX7_bestTurns_39 : decode cX7_bestTurns 39 = .ok (.istore_n 1, 1) := by decide +kernel
theorem dX7_bestTurns_40 : decode cX7_bestTurns 40 = .ok (.iload 4, 2) := by decide +kernel
theorem dX7_bestTurns_42 : decode cX7_bestTurns 42 = .ok (.istore_n 2, 1) := by decide +kernel
theorem dX7_bestTurns_43 : decode cX7_bestTurns 43 = .ok (.iinc 3 1, 3) := by decide +kernel
theorem dX7_bestTurns_46 : decode cX7_bestTurns 46 = .ok (.goto (-30), 3) := by decide +kernel
theorem dX7_bestTurns_49 : decode cX7_bestTurns 49 = .ok (.iload_n 1, 1) := by decide +kernel
theorem dX7_bestTurns_50 : decode cX7_bestTurns 50 = .ok (.ireturn, 1) := by decide +kernel
theorem dX7_lengthByTurns_0 : decode cX7_lengthByTurns 0 = .ok (.aload_n 0, 1) := by decide +kernel
theorem dX7_lengthByTurns_1 : decode cX7_lengthByTurns 1 = .ok (.getfield 25, 3) := by decide +kernel
theorem dX7_lengthByTurns_4 : decode cX7_lengthByTurns 4 = .ok (.aload_n 0, 1) := by decide +kernel
theorem dX7_lengthByTurns_5 : decode cX7_lengthByTurns 5 = .ok (.getfield 10, 3) := by decide +kernel
theorem dX7_lengthByTurns_8 : decode cX7_lengthByTurns 8 = .ok (.invokevirtual 182, 3) := by decide +kernel
theorem dX7_lengthByTurns_11 : decode cX7_lengthByTurns 11 = .ok (.aload_n 0, 1) := by decide +kernel
theorem dX7_lengthByTurns_12 : decode cX7_lengthByTurns 12 = .ok (.getfield 25, 3) := by decide +kernel
theorem dX7_lengthByTurns_15 : decode cX7_lengthByTurns 15 = .ok (.getfield 69, 3) := by decide +kernel
theorem dX7_lengthByTurns_18 : decode cX7_lengthByTurns 18 = .ok (.iconst 0, 1) := by decide +kernel
theorem dX7_lengthByTurns_19 : decode cX7_lengthByTurns 19 = .ok (.iload_n 1, 1) := by decide +kernel
theorem dX7_lengthByTurns_20 : decode cX7_lengthByTurns 20 = .ok (.iastore, 1) := by decide +kernel
theorem dX7_lengthByTurns_21 : decode cX7_lengthByTurns 21 = .ok (.aload_n 0, 1) := by decide +kernel
theorem dX7_lengthByTurns_22 : decode cX7_lengthByTurns 22 = .ok (.getfield 28, 3) := by decide +kernel
theorem dX7_lengthByTurns_25 : decode cX7_lengthByTurns 25 = .ok (.bipush (-6), 2) := by decide +kernel
theorem dX7_lengthByTurns_27 : decode cX7_lengthByTurns 27 = .ok (.invokevirtual 75, 3) := by decide +kernel
theorem dX7_lengthByTurns_30 : decode cX7_lengthByTurns 30 = .ok (.aload_n 0, 1) := by decide +kernel
theorem dX7_lengthByTurns_31 : decode cX7_lengthByTurns 31 = .ok (.getfield 28, 3) := by decide +kernel
theorem dX7_lengthByTurns_34 : decode cX7_lengthByTurns 34 = .ok (.invokevirtual 126, 3) := by decide +kernel
theorem dX7_lengthByTurns_37 : decode cX7_lengthByTurns 37 = .ok (.ireturn, 1) := by decide +kernel
theorem dX7_lengthWithout_0 : decode cX7_lengthWithout 0 = .ok (.iload_n 1, 1) := by decide +kernel
theorem dX7_lengthWithout_1 : decode cX7_lengthWithout 1 = .ok (.ifCond .eq 11, 3) := by decide +kernel
theorem dX7_lengthWithout_4 : decode cX7_lengthWithout 4 = .ok (.iload_n 1, 1) := by decide +kernel
theorem dX7_lengthWithout_5 : decode cX7_lengthWithout 5 = .ok (.iconst 1, 1) := by decide +kernel
theorem dX7_lengthWithout_6 : decode cX7_lengthWithout 6 = .ok (.if_icmp .eq 6, 3) := by decide +kernel
theorem dX7_lengthWithout_9 : decode cX7_lengthWithout 9 = .ok (.bipush (-2), 2) := by decide +kernel
theorem dX7_lengthWithout_11 : decode cX7_lengthWithout 11 = .ok (.ireturn, 1) := by decide +kernel
theorem dX7_lengthWithout_12 : decode cX7_lengthWithout 12 = .ok (.aload_n 0, 1) := by decide +kernel
theorem dX7_lengthWithout_13 : decode cX7_lengthWithout 13 = .ok (.getfield 25, 3) := by decide +kernel
theorem dX7_lengthWithout_16 : decode cX7_lengthWithout 16 = .ok (.aload_n 0, 1) := by decide +kernel
theorem dX7_lengthWithout_17 : decode cX7_lengthWithout 17 = .ok (.getfield 10, 3) := by decide +kernel
theorem dX7_lengthWithout_20 : decode cX7_lengthWithout 20 = .ok (.invokevirtual 182, 3) := by decide +kernel
theorem dX7_lengthWithout_23 : decode cX7_lengthWithout 23 = .ok (.aload_n 0, 1) := by decide +kernel
theorem dX7_lengthWithout_24 : decode cX7_lengthWithout 24 = .ok (.getfield 28, 3) := by decide +kernel
theorem dX7_lengthWithout_27 : decode cX7_lengthWithout 27 = .ok (.iload_n 1, 1) := by decide +kernel
theorem dX7_lengthWithout_28 : decode cX7_lengthWithout 28 = .ok (.invokevirtual 75, 3) := by decide +kernel
theorem dX7_lengthWithout_31 : decode cX7_lengthWithout 31 = .ok (.aload_n 0, 1) := by decide +kernel
theorem dX7_lengthWithout_32 : decode cX7_lengthWithout 32 = .ok (.getfield 28, 3) := by decide +kernel
theorem dX7_lengthWithout_35 : decode cX7_lengthWithout 35 = .ok (.invokevirtual 126, 3) := by decide +kernel
theorem dX7_lengthWithout_38 : decode cX7_lengthWithout 38 = .ok (.ireturn, 1) := by decide +kernel
theorem dX7_bestExchange_0 : decode cX7_bestExchange 0 = .ok (.iload_n 1, 1) := by decide +kernel
theorem dX7_bestExchange_1 : decode cX7_bestExchange 1 = .ok (.invokestatic 95, 3) := by decide +kernel
theorem dX7_bestExchange_4 : decode cX7_bestExchange 4 = .ok (.ifCond .ne 5, 3) := by decide +kernel
theorem dX7_bestExchange_7 : decode cX7_bestExchange 7 = .ok (.iconst (-1), 1) := by decide +kernel
theorem dX7_bestExchange_8 : decode cX7_bestExchange 8 = .ok (.ireturn, 1) := by decide +kernel
theorem dX7_bestExchange_9 : decode cX7_bestExchange 9 = .ok (.iload_n 2, 1) := by decide +kernel
theorem dX7_bestExchange_10 : decode cX7_bestExchange 10 = .ok (.ifCond .eq 11, 3) := by decide +kernel
theorem dX7_bestExchange_13 : decode cX7_bestExchange 13 = .ok (.iload_n 2, 1) := by decide +kernel
theorem dX7_bestExchange_14 : decode cX7_bestExchange 14 = .ok (.iconst 1, 1) := by decide +kernel
theorem dX7_bestExchange_15 : decode cX7_bestExchange 15 = .ok (.if_icmp .eq 6, 3) := by decide +kernel
theorem dX7_bestExchange_18 : decode cX7_bestExchange 18 = .ok (.bipush (-2), 2) := by decide +kernel
theorem dX7_bestExchange_20 : decode cX7_bestExchange 20 = .ok (.ireturn, 1) := by decide +kernel
theorem dX7_bestExchange_21 : decode cX7_bestExchange 21 = .ok (.aload_n 0, 1) := by decide +kernel
theorem dX7_bestExchange_22 : decode cX7_bestExchange 22 = .ok (.getfield 10, 3) := by decide +kernel
theorem dX7_bestExchange_25 : decode cX7_bestExchange 25 = .ok (.getfield 102, 3) := by decide +kernel
theorem dX7_bestExchange_28 : decode cX7_bestExchange 28 = .ok (.iload_n 1, 1) := by decide +kernel
theorem dX7_bestExchange_29 : decode cX7_bestExchange 29 = .ok (.aaload, 1) := by decide +kernel
theorem dX7_bestExchange_30 : decode cX7_bestExchange 30 = .ok (.astore_n 3, 1) := by decide +kernel
theorem dX7_bestExchange_31 : decode cX7_bestExchange 31 = .ok (.bipush (-6), 2) := by decide +kernel
theorem dX7_bestExchange_33 : decode cX7_bestExchange 33 = .ok (.istore 4, 2) := by decide +kernel
theorem dX7_bestExchange_35 : decode cX7_bestExchange 35 = .ok (.aload_n 0, 1) := by decide +kernel
theorem dX7_bestExchange_36 : decode cX7_bestExchange 36 = .ok (.getfield 21, 3) := by decide +kernel
theorem dX7_bestExchange_39 : decode cX7_bestExchange 39 = .ok (.invokevirtual 126, 3) := by decide +kernel
theorem dX7_bestExchange_42 : decode cX7_bestExchange 42 = .ok (.istore 5, 2) := by decide +kernel
theorem dX7_bestExchange_44 : decode cX7_bestExchange 44 = .ok (.iconst 0, 1) := by decide +kernel
theorem dX7_bestExchange_45 : decode cX7_bestExchange 45 = .ok (.istore 6, 2) := by decide +kernel
theorem dX7_bestExchange_47 : decode cX7_bestExchange 47 = .ok (.iload 6, 2) := by decide +kernel
theorem dX7_bestExchange_49 : decode cX7_bestExchange 49 = .ok (.iconst 1, 1) := by decide +kernel
theorem dX7_bestExchange_50 : decode cX7_bestExchange 50 = .ok (.iadd, 1) := by decide +kernel
theorem dX7_bestExchange_51 : decode cX7_bestExchange 51 = .ok (.aload_n 3, 1) := by decide +kernel
theorem dX7_bestExchange_52 : decode cX7_bestExchange 52 = .ok (.getfield 116, 3) := by decide +kernel
theorem dX7_bestExchange_55 : decode cX7_bestExchange 55 = .ok (.if_icmp .ge 60, 3) := by decide +kernel
theorem dX7_bestExchange_58 : decode cX7_bestExchange 58 = .ok (.aload_n 3, 1) := by decide +kernel
theorem dX7_bestExchange_59 : decode cX7_bestExchange 59 = .ok (.iload 6, 2) := by decide +kernel
theorem dX7_bestExchange_61 : decode cX7_bestExchange 61 = .ok (.invokevirtual 187, 3) := by decide +kernel
theorem dX7_bestExchange_64 : decode cX7_bestExchange 64 = .ok (.ifCond .eq 45, 3) := by decide +kernel
theorem dX7_bestExchange_67 : decode cX7_bestExchange 67 = .ok (.aload_n 3, 1) := by decide +kernel
theorem dX7_bestExchange_68 : decode cX7_bestExchange 68 = .ok (.iload 6, 2) := by decide +kernel
theorem dX7_bestExchange_70 : decode cX7_bestExchange 70 = .ok (.iconst 1, 1) := by decide +kernel
theorem dX7_bestExchange_71 : decode cX7_bestExchange 71 = .ok (.iadd, 1) := by decide +kernel
theorem dX7_bestExchange_72 : decode cX7_bestExchange 72 = .ok (.invokevirtual 187, 3) := by decide +kernel
theorem dX7_bestExchange_75 : decode cX7_bestExchange 75 = .ok (.ifCond .eq 34, 3) := by decide +kernel
theorem dX7_bestExchange_78 : decode cX7_bestExchange 78 = .ok (.aload_n 0, 1) := by decide +kernel
theorem dX7_bestExchange_79 : decode cX7_bestExchange 79 = .ok (.iload_n 1, 1) := by decide +kernel
theorem dX7_bestExchange_80 : decode cX7_bestExchange 80 = .ok (.iload 6, 2) := by decide +kernel
theorem dX7_bestExchange_82 : decode cX7_bestExchange 82 = .ok (.invokevirtual 190, 3) := by decide +kernel
theorem dX7_bestExchange_85 : decode cX7_bestExchange 85 = .ok (.istore 7, 2) := by decide +kernel
theorem dX7_bestExchange_87 : decode cX7_bestExchange 87 = .ok (.iload 7, 2) := by decide +kernel
theorem dX7_bestExchange_89 : decode cX7_bestExchange 89 = .ok (.bipush (-6), 2) := by decide +kernel
theorem dX7_bestExchange_91 : decode cX7_bestExchange 91 = .ok (.if_icmp .eq 18, 3) := by decide +kernel
theorem dX7_bestExchange_94 : decode cX7_bestExchange 94 = .ok (.iload 7, 2) := by decide +kernel
theorem dX7_bestExchange_96 : decode cX7_bestExchange 96 = .ok (.iload 5, 2) := by decide +kernel
theorem dX7_bestExchange_98 : decode cX7_bestExchange 98 = .ok (.if_icmp .ge 11, 3) := by decide +kernel
theorem dX7_bestExchange_101 : decode cX7_bestExchange 101 = .ok (.iload 6, 2) := by decide +kernel
theorem dX7_bestExchange_103 : decode cX7_bestExchange 103 = .ok (.istore 4, 2) := by decide +kernel
theorem dX7_bestExchange_105 : decode cX7_bestExchange 105 = .ok (.iload 7, 2) := by decide +kernel
theorem dX7_bestExchange_107 : decode cX7_bestExchange 107 = .ok (.istore 5, 2) := by decide +kernel
theorem dX7_bestExchange_109 : decode cX7_bestExchange 109 = .ok (.iinc 6 1, 3) := by decide +kernel
theorem dX7_bestExchange_112 : decode cX7_bestExchange 112 = .ok (.goto (-65), 3) := by decide +kernel
theorem dX7_bestExchange_115 : decode cX7_bestExchange 115 = .ok (.iload 4, 2) := by decide +kernel
theorem dX7_bestExchange_117 : decode cX7_bestExchange 117 = .ok (.bipush (-6), 2) := by decide +kernel
theorem dX7_bestExchange_119 : decode cX7_bestExchange 119 = .ok (.if_icmp .ne 6, 3) := by decide +kernel
theorem dX7_bestExchange_122 : decode cX7_bestExchange 122 = .ok (.bipush (-6), 2) := by decide +kernel
theorem dX7_bestExchange_124 : decode cX7_bestExchange 124 = .ok (.ireturn, 1) := by decide +kernel
theorem dX7_bestExchange_125 : decode cX7_bestExchange 125 = .ok (.iload_n 2, 1) := by decide +kernel
theorem dX7_bestExchange_126 : decode cX7_bestExchange 126 = .ok (.ifCond .ne 8, 3) := by decide +kernel
theorem dX7_bestExchange_129 : decode cX7_bestExchange 129 = .ok (.iload 4, 2) := by decide +kernel
theorem dX7_bestExchange_131 : decode cX7_bestExchange 131 = .ok (.goto 5, 3) := by decide +kernel
theorem dX7_bestExchange_134 : decode cX7_bestExchange 134 = .ok (.iload 5, 2) := by decide +kernel
theorem dX7_bestExchange_136 : decode cX7_bestExchange 136 = .ok (.ireturn, 1) := by decide +kernel
theorem dX7_lengthExchanged_0 : decode cX7_lengthExchanged 0 = .ok (.aload_n 0, 1) := by decide +kernel
theorem dX7_lengthExchanged_1 : decode cX7_lengthExchanged 1 = .ok (.getfield 25, 3) := by decide +kernel
theorem dX7_lengthExchanged_4 : decode cX7_lengthExchanged 4 = .ok (.aload_n 0, 1) := by decide +kernel
theorem dX7_lengthExchanged_5 : decode cX7_lengthExchanged 5 = .ok (.getfield 10, 3) := by decide +kernel
theorem dX7_lengthExchanged_8 : decode cX7_lengthExchanged 8 = .ok (.invokevirtual 182, 3) := by decide +kernel
theorem dX7_lengthExchanged_11 : decode cX7_lengthExchanged 11 = .ok (.aload_n 0, 1) := by decide +kernel
theorem dX7_lengthExchanged_12 : decode cX7_lengthExchanged 12 = .ok (.getfield 25, 3) := by decide +kernel
theorem dX7_lengthExchanged_15 : decode cX7_lengthExchanged 15 = .ok (.getfield 102, 3) := by decide +kernel
theorem dX7_lengthExchanged_18 : decode cX7_lengthExchanged 18 = .ok (.iload_n 1, 1) := by decide +kernel
theorem dX7_lengthExchanged_19 : decode cX7_lengthExchanged 19 = .ok (.aaload, 1) := by decide +kernel
theorem dX7_lengthExchanged_20 : decode cX7_lengthExchanged 20 = .ok (.iload_n 2, 1) := by decide +kernel
theorem dX7_lengthExchanged_21 : decode cX7_lengthExchanged 21 = .ok (.invokevirtual 193, 3) := by decide +kernel
theorem dX7_lengthExchanged_24 : decode cX7_lengthExchanged 24 = .ok (.aload_n 0, 1) := by decide +kernel
theorem dX7_lengthExchanged_25 : decode cX7_lengthExchanged 25 = .ok (.getfield 28, 3) := by decide +kernel
theorem dX7_lengthExchanged_28 : decode cX7_lengthExchanged 28 = .ok (.invokevirtual 196, 3) := by decide +kernel
theorem dX7_lengthExchanged_31 : decode cX7_lengthExchanged 31 = .ok (.aload_n 0, 1) := by decide +kernel
theorem dX7_lengthExchanged_32 : decode cX7_lengthExchanged 32 = .ok (.getfield 28, 3) := by decide +kernel
theorem dX7_lengthExchanged_35 : decode cX7_lengthExchanged 35 = .ok (.getfield 138, 3) := by decide +kernel
theorem dX7_lengthExchanged_38 : decode cX7_lengthExchanged 38 = .ok (.iload_n 1, 1) := by decide +kernel
theorem dX7_lengthExchanged_39 : decode cX7_lengthExchanged 39 = .ok (.aaload, 1) := by decide +kernel
theorem dX7_lengthExchanged_40 : decode cX7_lengthExchanged 40 = .ok (.aload_n 0, 1) := by decide +kernel
theorem dX7_lengthExchanged_41 : decode cX7_lengthExchanged 41 = .ok (.getfield 21, 3) := by decide +kernel
theorem dX7_lengthExchanged_44 : decode cX7_lengthExchanged 44 = .ok (.getfield 138, 3) := by decide +kernel
theorem dX7_lengthExchanged_47 : decode cX7_lengthExchanged 47 = .ok (.iload_n 1, 1) := by decide +kernel
theorem dX7_lengthExchanged_48 : decode cX7_lengthExchanged 48 = .ok (.aaload, 1) := by decide +kernel
theorem dX7_lengthExchanged_49 : decode cX7_lengthExchanged 49 = .ok (.invokevirtual 199, 3) := by decide +kernel
theorem dX7_lengthExchanged_52 : decode cX7_lengthExchanged 52 = .ok (.ifCond .ne 6, 3) := by decide +kernel
theorem dX7_lengthExchanged_55 : decode cX7_lengthExchanged 55 = .ok (.bipush (-6), 2) := by decide +kernel
theorem dX7_lengthExchanged_57 : decode cX7_lengthExchanged 57 = .ok (.ireturn, 1) := by decide +kernel
theorem dX7_lengthExchanged_58 : decode cX7_lengthExchanged 58 = .ok (.aload_n 0, 1) := by decide +kernel
theorem dX7_lengthExchanged_59 : decode cX7_lengthExchanged 59 = .ok (.getfield 28, 3) := by decide +kernel
theorem dX7_lengthExchanged_62 : decode cX7_lengthExchanged 62 = .ok (.bipush (-6), 2) := by decide +kernel
theorem dX7_lengthExchanged_64 : decode cX7_lengthExchanged 64 = .ok (.invokevirtual 203, 3) := by decide +kernel
theorem dX7_lengthExchanged_67 : decode cX7_lengthExchanged 67 = .ok (.aload_n 0, 1) := by decide +kernel
theorem dX7_lengthExchanged_68 : decode cX7_lengthExchanged 68 = .ok (.getfield 28, 3) := by decide +kernel
theorem dX7_lengthExchanged_71 : decode cX7_lengthExchanged 71 = .ok (.invokevirtual 126, 3) := by decide +kernel
theorem dX7_lengthExchanged_74 : decode cX7_lengthExchanged 74 = .ok (.ireturn, 1) := by decide +kernel
theorem dX7_undo_0 : decode cX7_undo 0 = .ok (.aload_n 0, 1) := by decide +kernel
theorem dX7_undo_1 : decode cX7_undo 1 = .ok (.getfield 50, 3) := by decide +kernel
theorem dX7_undo_4 : decode cX7_undo 4 = .ok (.getfield 181, 3) := by decide +kernel
theorem dX7_undo_7 : decode cX7_undo 7 = .ok (.ifCond .ne 6, 3) := by decide +kernel
theorem dX7_undo_10 : decode cX7_undo 10 = .ok (.bipush (-5), 2) := by decide +kernel
theorem dX7_undo_12 : decode cX7_undo 12 = .ok (.ireturn, 1) := by decide +kernel
theorem dX7_undo_13 : decode cX7_undo 13 = .ok (.aload_n 0, 1) := by decide +kernel
theorem dX7_undo_14 : decode cX7_undo 14 = .ok (.getfield 50, 3) := by decide +kernel
theorem dX7_undo_17 : decode cX7_undo 17 = .ok (.aload_n 0, 1) := by decide +kernel
theorem dX7_undo_18 : decode cX7_undo 18 = .ok (.getfield 10, 3) := by decide +kernel
theorem dX7_undo_21 : decode cX7_undo 21 = .ok (.invokevirtual 206, 3) := by decide +kernel
theorem dX7_undo_24 : decode cX7_undo 24 = .ok (.aload_n 0, 1) := by decide +kernel
theorem dX7_undo_25 : decode cX7_undo 25 = .ok (.getfield 21, 3) := by decide +kernel
theorem dX7_undo_28 : decode cX7_undo 28 = .ok (.bipush (-6), 2) := by decide +kernel
theorem dX7_undo_30 : decode cX7_undo 30 = .ok (.invokevirtual 75, 3) := by decide +kernel
theorem dX7_undo_33 : decode cX7_undo 33 = .ok (.aload_n 0, 1) := by decide +kernel
theorem dX7_undo_34 : decode cX7_undo 34 = .ok (.getfield 50, 3) := by decide +kernel
theorem dX7_undo_37 : decode cX7_undo 37 = .ok (.getfield 181, 3) := by decide +kernel
theorem dX7_undo_40 : decode cX7_undo 40 = .ok (.ireturn, 1) := by decide +kernel
theorem dX7_save_0 : decode cX7_save 0 = .ok (.iload_n 1, 1) := by decide +kernel
theorem dX7_save_1 : decode cX7_save 1 = .ok (.ifCond .lt 8, 3) := by decide +kernel
theorem dX7_save_4 : decode cX7_save 4 = .ok (.iload_n 1, 1) := by decide +kernel
theorem dX7_save_5 : decode cX7_save 5 = .ok (.iconst 2, 1) := by decide +kernel
theorem dX7_save_6 : decode cX7_save 6 = .ok (.if_icmp .lt 6, 3) := by decide +kernel
theorem dX7_save_9 : decode cX7_save 9 = .ok (.bipush (-2), 2) := by decide +kernel
theorem dX7_save_11 : decode cX7_save 11 = .ok (.ireturn, 1) := by decide +kernel
theorem dX7_save_12 : decode cX7_save 12 = .ok (.aload_n 0, 1) := by decide +kernel
theorem dX7_save_13 : decode cX7_save 13 = .ok (.getfield 54, 3) := by decide +kernel
theorem dX7_save_16 : decode cX7_save 16 = .ok (.iload_n 1, 1) := by decide +kernel
theorem dX7_save_17 : decode cX7_save 17 = .ok (.aaload, 1) := by decide +kernel
theorem dX7_save_18 : decode cX7_save 18 = .ok (.aload_n 0, 1) := by decide +kernel
theorem dX7_save_19 : decode cX7_save 19 = .ok (.getfield 10, 3) := by decide +kernel
theorem dX7_save_22 : decode cX7_save 22 = .ok (.invokevirtual 182, 3) := by decide +kernel
theorem dX7_save_25 : decode cX7_save 25 = .ok (.aload_n 0, 1) := by decide +kernel
theorem dX7_save_26 : decode cX7_save 26 = .ok (.getfield 58, 3) := by decide +kernel
theorem dX7_save_29 : decode cX7_save 29 = .ok (.iload_n 1, 1) := by decide +kernel
theorem dX7_save_30 : decode cX7_save 30 = .ok (.iconst 1, 1) := by decide +kernel
theorem dX7_save_31 : decode cX7_save 31 = .ok (.bastore, 1) := by decide +kernel
theorem dX7_save_32 : decode cX7_save 32 = .ok (.aload_n 0, 1) := by decide +kernel
theorem dX7_save_33 : decode cX7_save 33 = .ok (.getfield 21, 3) := by decide +kernel
theorem dX7_save_36 : decode cX7_save 36 = .ok (.invokevirtual 126, 3) := by decide +kernel
theorem dX7_save_39 : decode cX7_save 39 = .ok (.ireturn, 1) := by decide +kernel
theorem dX7_restore_0 : decode cX7_restore 0 = .ok (.iload_n 1, 1) := by decide +kernel
theorem dX7_restore_1 : decode cX7_restore 1 = .ok (.ifCond .lt 8, 3) := by decide +kernel
theorem dX7_restore_4 : decode cX7_restore 4 = .ok (.iload_n 1, 1) := by decide +kernel
theorem dX7_restore_5 : decode cX7_restore 5 = .ok (.iconst 2, 1) := by decide +kernel
theorem dX7_restore_6 : decode cX7_restore 6 = .ok (.if_icmp .lt 6, 3) := by decide +kernel
theorem dX7_restore_9 : decode cX7_restore 9 = .ok (.bipush (-2), 2) := by decide +kernel
theorem dX7_restore_11 : decode cX7_restore 11 = .ok (.ireturn, 1) := by decide +kernel
theorem dX7_restore_12 : decode cX7_restore 12 = .ok (.aload_n 0, 1) := by decide +kernel
theorem dX7_restore_13 : decode cX7_restore 13 = .ok (.getfield 58, 3) := by decide +kernel
theorem dX7_restore_16 : decode cX7_restore 16 = .ok (.iload_n 1, 1) := by decide +kernel
theorem dX7_restore_17 : decode cX7_restore 17 = .ok (.baload, 1) := by decide +kernel
theorem dX7_restore_18 : decode cX7_restore 18 = .ok (.ifCond .ne 6, 3) := by decide +kernel
theorem dX7_restore_21 : decode cX7_restore 21 = .ok (.bipush (-5), 2) := by decide +kernel
theorem dX7_restore_23 : decode cX7_restore 23 = .ok (.ireturn, 1) := by decide +kernel
theorem dX7_restore_24 : decode cX7_restore 24 = .ok (.aload_n 0, 1) := by decide +kernel
theorem dX7_restore_25 : decode cX7_restore 25 = .ok (.getfield 50, 3) := by decide +kernel
theorem dX7_restore_28 : decode cX7_restore 28 = .ok (.aload_n 0, 1) := by decide +kernel
theorem dX7_restore_29 : decode cX7_restore 29 = .ok (.getfield 10, 3) := by decide +kernel
theorem dX7_restore_32 : decode cX7_restore 32 = .ok (.invokevirtual 72, 3) := by decide +kernel
theorem dX7_restore_35 : decode cX7_restore 35 = .ok (.aload_n 0, 1) := by decide +kernel
theorem dX7_restore_36 : decode cX7_restore 36 = .ok (.getfield 10, 3) := by decide +kernel
theorem dX7_restore_39 : decode cX7_restore 39 = .ok (.aload_n 0, 1) := by decide +kernel
theorem dX7_restore_40 : decode cX7_restore 40 = .ok (.getfield 54, 3) := by decide +kernel
theorem dX7_restore_43 : decode cX7_restore 43 = .ok (.iload_n 1, 1) := by decide +kernel
theorem dX7_restore_44 : decode cX7_restore 44 = .ok (.aaload, 1) := by decide +kernel
theorem dX7_restore_45 : decode cX7_restore 45 = .ok (.invokevirtual 182, 3) := by decide +kernel
theorem dX7_restore_48 : decode cX7_restore 48 = .ok (.aload_n 0, 1) := by decide +kernel
theorem dX7_restore_49 : decode cX7_restore 49 = .ok (.getfield 21, 3) := by decide +kernel
theorem dX7_restore_52 : decode cX7_restore 52 = .ok (.bipush (-6), 2) := by decide +kernel
theorem dX7_restore_54 : decode cX7_restore 54 = .ok (.invokevirtual 75, 3) := by decide +kernel
theorem dX7_restore_57 : decode cX7_restore 57 = .ok (.aload_n 0, 1) := by decide +kernel
theorem dX7_restore_58 : decode cX7_restore 58 = .ok (.getfield 21, 3) := by decide +kernel
theorem dX7_restore_61 : decode cX7_restore 61 = .ok (.invokevirtual 126, 3) := by decide +kernel
theorem dX7_restore_64 : decode cX7_restore 64 = .ok (.ireturn, 1) := by decide +kernel
theorem dX7_isThread_0 : decode cX7_isThread 0 = .ok (.iload_n 0, 1) := by decide +kernel
theorem dX7_isThread_1 : decode cX7_isThread 1 = .ok (.ifCond .lt 12, 3) := by decide +kernel
theorem dX7_isThread_4 : decode cX7_isThread 4 = .ok (.iload_n 0, 1) := by decide +kernel
theorem dX7_isThread_5 : decode cX7_isThread 5 = .ok (.iconst 2, 1) := by decide +kernel
theorem dX7_isThread_6 : decode cX7_isThread 6 = .ok (.if_icmp .ge 7, 3) := by decide +kernel
theorem dX7_isThread_9 : decode cX7_isThread 9 = .ok (.iconst 1, 1) := by decide +kernel
theorem dX7_isThread_10 : decode cX7_isThread 10 = .ok (.goto 4, 3) := by decide +kernel
theorem dX7_isThread_13 : decode cX7_isThread 13 = .ok (.iconst 0, 1) := by decide +kernel
theorem dX7_isThread_14 : decode cX7_isThread 14 = .ok (.ireturn, 1) := by decide +kernel
theorem dJ9_floorMod_7cf53_0 : decode cJ9_floorMod_7cf53 0 = .ok (.iload_n 0, 1) := by decide +kernel
theorem dJ9_floorMod_7cf53_1 : decode cJ9_floorMod_7cf53 1 = .ok (.iload_n 1, 1) := by decide +kernel
theorem dJ9_floorMod_7cf53_2 : decode cJ9_floorMod_7cf53 2 = .ok (.irem, 1) := by decide +kernel
theorem dJ9_floorMod_7cf53_3 : decode cJ9_floorMod_7cf53 3 = .ok (.istore_n 2, 1) := by decide +kernel
theorem dJ9_floorMod_7cf53_4 : decode cJ9_floorMod_7cf53 4 = .ok (.iload_n 0, 1) := by decide +kernel
theorem dJ9_floorMod_7cf53_5 : decode cJ9_floorMod_7cf53 5 = .ok (.iload_n 1, 1) := by decide +kernel
theorem dJ9_floorMod_7cf53_6 : decode cJ9_floorMod_7cf53 6 = .ok (.ixor, 1) := by decide +kernel
theorem dJ9_floorMod_7cf53_7 : decode cJ9_floorMod_7cf53 7 = .ok (.ifCond .ge 11, 3) := by decide +kernel
theorem dJ9_floorMod_7cf53_10 : decode cJ9_floorMod_7cf53 10 = .ok (.iload_n 2, 1) := by decide +kernel
theorem dJ9_floorMod_7cf53_11 : decode cJ9_floorMod_7cf53 11 = .ok (.ifCond .eq 7, 3) := by decide +kernel
theorem dJ9_floorMod_7cf53_14 : decode cJ9_floorMod_7cf53 14 = .ok (.iload_n 2, 1) := by decide +kernel
theorem dJ9_floorMod_7cf53_15 : decode cJ9_floorMod_7cf53 15 = .ok (.iload_n 1, 1) := by decide +kernel
theorem dJ9_floorMod_7cf53_16 : decode cJ9_floorMod_7cf53 16 = .ok (.iadd, 1) := by decide +kernel
theorem dJ9_floorMod_7cf53_17 : decode cJ9_floorMod_7cf53 17 = .ok (.ireturn, 1) := by decide +kernel
theorem dJ9_floorMod_7cf53_18 : decode cJ9_floorMod_7cf53 18 = .ok (.iload_n 2, 1) := by decide +kernel
theorem dJ9_floorMod_7cf53_19 : decode cJ9_floorMod_7cf53 19 = .ok (.ireturn, 1) := by decide +kernel
theorem dJ9_max_7cf53_0 : decode cJ9_max_7cf53 0 = .ok (.iload_n 0, 1) := by decide +kernel
theorem dJ9_max_7cf53_1 : decode cJ9_max_7cf53 1 = .ok (.iload_n 1, 1) := by decide +kernel
theorem dJ9_max_7cf53_2 : decode cJ9_max_7cf53 2 = .ok (.if_icmp .lt 7, 3) := by decide +kernel
theorem dJ9_max_7cf53_5 : decode cJ9_max_7cf53 5 = .ok (.iload_n 0, 1) := by decide +kernel
theorem dJ9_max_7cf53_6 : decode cJ9_max_7cf53 6 = .ok (.goto 4, 3) := by decide +kernel
theorem dJ9_max_7cf53_9 : decode cJ9_max_7cf53 9 = .ok (.iload_n 1, 1) := by decide +kernel
theorem dJ9_max_7cf53_10 : decode cJ9_max_7cf53 10 = .ok (.ireturn, 1) := by decide +kernel
end
section
theorem dX8_init_0 : decode cX8_init 0 = .ok (.aload_n 0, 1) := by decide +kernel
theorem dX8_init_1 : decode cX8_init 1 = .ok (.invokespecial 1, 3) := by decide +kernel
theorem dX8_init_4 : decode cX8_init 4 = .ok (.aload_n 0, 1) := by decide +kernel
theorem dX8_init_5 : decode cX8_init 5 = .ok (.sipush 210, 3) := by decide +kernel
theorem dX8_init_8 : decode cX8_init 8 = .ok (.newarray .int, 2) := by decide +kernel
theorem dX8_init_10 : decode cX8_init 10 = .ok (.putfield 7, 3) := by decide +kernel
theorem dX8_init_13 : decode cX8_init 13 = .ok (.aload_n 0, 1) := by decide +kernel
theorem dX8_init_14 : decode cX8_init 14 = .ok (.sipush 1260, 3) := by decide +kernel
theorem dX8_init_17 : decode cX8_init 17 = .ok (.newarray .int, 2) := by decide +kernel
theorem dX8_init_19 : decode cX8_init 19 = .ok (.putfield 13, 3) := by decide +kernel
theorem dX8_init_22 : decode cX8_init 22 = .ok (.aload_n 0, 1) := by decide +kernel
theorem dX8_init_23 : decode cX8_init 23 = .ok (.sipush 420, 3) := by decide +kernel
theorem dX8_init_26 : decode cX8_init 26 = .ok (.newarray .int, 2) := by decide +kernel
theorem dX8_init_28 : decode cX8_init 28 = .ok (.putfield 16, 3) := by decide +kernel
theorem dX8_init_31 : decode cX8_init 31 = .ok (.aload_n 0, 1) := by decide +kernel
theorem dX8_init_32 : decode cX8_init 32 = .ok (.iconst 2, 1) := by decide +kernel
theorem dX8_init_33 : decode cX8_init 33 = .ok (.newarray .boolean, 2) := by decide +kernel
theorem dX8_init_35 : decode cX8_init 35 = .ok (.putfield 19, 3) := by decide +kernel
theorem dX8_init_38 : decode cX8_init 38 = .ok (.aload_n 0, 1) := by decide +kernel
theorem dX8_init_39 : decode cX8_init 39 = .ok (.bipush 80, 2) := by decide +kernel
theorem dX8_init_41 : decode cX8_init 41 = .ok (.newarray .int, 2) := by decide +kernel
theorem dX8_init_43 : decode cX8_init 43 = .ok (.putfield 23, 3) := by decide +kernel
theorem dX8_init_46 : decode cX8_init 46 = .ok (.aload_n 0, 1) := by decide +kernel
theorem dX8_init_47 : decode cX8_init 47 = .ok (.sipush 150, 3) := by decide +kernel
theorem dX8_init_50 : decode cX8_init 50 = .ok (.newarray .int, 2) := by decide +kernel
theorem dX8_init_52 : decode cX8_init 52 = .ok (.putfield 26, 3) := by decide +kernel
theorem dX8_init_55 : decode cX8_init 55 = .ok (.aload_n 0, 1) := by decide +kernel
theorem dX8_init_56 : decode cX8_init 56 = .ok (.bipush 24, 2) := by decide +kernel
theorem dX8_init_58 : decode cX8_init 58 = .ok (.newarray .int, 2) := by decide +kernel
theorem dX8_init_60 : decode cX8_init 60 = .ok (.putfield 29, 3) := by decide +kernel
theorem dX8_init_63 : decode cX8_init 63 = .ok (.aload_n 0, 1) := by decide +kernel
theorem dX8_init_64 : decode cX8_init 64 = .ok (.bipush 8, 2) := by decide +kernel
theorem dX8_init_66 : decode cX8_init 66 = .ok (.newarray .int, 2) := by decide +kernel
theorem dX8_init_68 : decode cX8_init 68 = .ok (.putfield 32, 3) := by decide +kernel
theorem dX8_init_71 : decode cX8_init 71 = .ok (.aload_n 0, 1) := by decide +kernel
theorem dX8_init_72 : decode cX8_init 72 = .ok (.sipush 200, 3) := by decide +kernel
theorem dX8_init_75 : decode cX8_init 75 = .ok (.newarray .int, 2) := by decide +kernel
theorem dX8_init_77 : decode cX8_init 77 = .ok (.putfield 35, 3) := by decide +kernel
theorem dX8_init_80 : decode cX8_init 80 = .ok (.aload_n 0, 1) := by decide +kernel
theorem dX8_init_81 : decode cX8_init 81 = .ok (.sipush 200, 3) := by decide +kernel
theorem dX8_init_84 : decode cX8_init 84 = .ok (.newarray .int, 2) := by decide +kernel
theorem dX8_init_86 : decode cX8_init 86 = .ok (.putfield 38, 3) := by decide +kernel
theorem dX8_init_89 : decode cX8_init 89 = .ok (.aload_n 0, 1) := by decide +kernel
theorem dX8_init_90 : decode cX8_init 90 = .ok (.sipush 200, 3) := by decide +kernel
theorem dX8_init_93 : decode cX8_init 93 = .ok (.newarray .int, 2) := by decide +kernel
theorem dX8_init_95 : decode cX8_init 95 = .ok (.putfield 41, 3) := by decide +kernel
theorem dX8_init_98 : decode cX8_init 98 = .ok (.aload_n 0, 1) := by decide +kernel
theorem dX8_init_99 : decode cX8_init 99 = .ok (.sipush 200, 3) := by decide +kernel
theorem dX8_init_102 : decode cX8_init 102 = .ok (.newarray .int, 2) := by decide +kernel
theorem dX8_init_104 : decode cX8_init 104 = .ok (.putfield 44, 3) := by decide +kernel
theorem dX8_init_107 : decode cX8_init 107 = .ok (.aload_n 0, 1) := by decide +kernel
theorem dX8_init_108 : decode cX8_init 108 = .ok (.iconst 2, 1) := by decide +kernel
theorem dX8_init_109 : decode cX8_init 109 = .ok (.newarray .int, 2) := by decide +kernel
theorem dX8_init_111 : decode cX8_init 111 = .ok (.putfield 47, 3) := by decide +kernel
theorem dX8_init_114 : decode cX8_init 114 = .ok (.aload_n 0, 1) := by decide +kernel
theorem dX8_init_115 : decode cX8_init 115 = .ok (.iconst 2, 1) := by decide +kernel
theorem dX8_init_116 : decode cX8_init 116 = .ok (.newarray .int, 2) := by decide +kernel
theorem dX8_init_118 : decode cX8_init 118 = .ok (.putfield 50, 3) := by decide +kernel
theorem dX8_init_121 : decode cX8_init 121 = .ok (.aload_n 0, 1) := by decide +kernel
theorem dX8_init_122 : decode cX8_init 122 = .ok (.bipush 10, 2) := by decide +kernel
theorem dX8_init_124 : decode cX8_init 124 = .ok (.newarray .int, 2) := by decide +kernel
theorem dX8_init_126 : decode cX8_init 126 = .ok (.putfield 53, 3) := by decide +kernel
theorem dX8_init_129 : decode cX8_init 129 = .ok (.aload_n 0, 1) := by decide +kernel
theorem dX8_init_130 : decode cX8_init 130 = .ok (.bipush 10, 2) := by decide +kernel
theorem dX8_init_132 : decode cX8_init 132 = .ok (.newarray .int, 2) := by decide +kernel
theorem dX8_init_134 : decode cX8_init 134 = .ok (.putfield 56, 3) := by decide +kernel
theorem dX8_init_137 : decode cX8_init 137 = .ok (.aload_n 0, 1) := by decide +kernel
theorem dX8_init_138 : decode cX8_init 138 = .ok (.iconst 2, 1) := by decide +kernel
theorem dX8_init_139 : decode cX8_init 139 = .ok (.newarray .int, 2) := by decide +kernel
theorem dX8_init_141 : decode cX8_init 141 = .ok (.putfield 59, 3) := by decide +kernel
theorem dX8_init_144 : decode cX8_init 144 = .ok (.aload_n 0, 1) := by decide +kernel
theorem dX8_init_145 : decode cX8_init 145 = .ok (.iconst 2, 1) := by decide +kernel
theorem dX8_init_146 : decode cX8_init 146 = .ok (.newarray .int, 2) := by decide +kernel
theorem dX8_init_148 : decode cX8_init 148 = .ok (.putfield 62, 3) := by decide +kernel
theorem dX8_init_151 : decode cX8_init 151 = .ok (.aload_n 0, 1) := by decide +kernel
theorem dX8_init_152 : decode cX8_init 152 = .ok (.bipush 24, 2) := by decide +kernel
theorem dX8_init_154 : decode cX8_init 154 = .ok (.newarray .int, 2) := by decide +kernel
theorem dX8_init_156 : decode cX8_init 156 = .ok (.putfield 65, 3) := by decide +kernel
theorem dX8_init_159 : decode cX8_init 159 = .ok (.aload_n 0, 1) := by decide +kernel
theorem dX8_init_160 : decode cX8_init 160 = .ok (.getfield 7, 3) := by decide +kernel
theorem dX8_init_163 : decode cX8_init 163 = .ok (.iconst 1, 1) := by decide +kernel
theorem dX8_init_164 : decode cX8_init 164 = .ok (.iconst 3, 1) := by decide +kernel
theorem dX8_init_165 : decode cX8_init 165 = .ok (.iastore, 1) := by decide +kernel
theorem dX8_init_166 : decode cX8_init 166 = .ok (.aload_n 0, 1) := by decide +kernel
theorem dX8_init_167 : decode cX8_init 167 = .ok (.getfield 7, 3) := by decide +kernel
theorem dX8_init_170 : decode cX8_init 170 = .ok (.iconst 2, 1) := by decide +kernel
theorem dX8_init_171 : decode cX8_init 171 = .ok (.iconst 4, 1) := by decide +kernel
theorem dX8_init_172 : decode cX8_init 172 = .ok (.iastore, 1) := by decide +kernel
theorem dX8_init_173 : decode cX8_init 173 = .ok (.return_, 1) := by decide +kernel
theorem dX8_in_0 : decode cX8_in 0 = .ok (.iload_n 0, 1) := by decide +kernel
theorem dX8_in_1 : decode cX8_in 1 = .ok (.iload_n 1, 1) := by decide +kernel
theorem dX8_in_2 : decode cX8_in 2 = .ok (.if_icmp .lt 12, 3) := by decide +kernel
theorem dX8_in_5 : decode cX8_in 5 = .ok (.iload_n 0, 1) := by decide +kernel
theorem dX8_in_6 : decode cX8_in 6 = .ok (.iload_n 2, 1) := by decide +kernel
theorem dX8_in_7 : decode cX8_in 7 = .ok (.if_icmp .gt 7, 3) := by decide +kernel
theorem dX8_in_10 : decode cX8_in 10 = .ok (.iconst 1, 1) := by decide +kernel
theorem dX8_in_11 : decode cX8_in 11 = .ok (.goto 4, 3) := by decide +kernel
theorem dX8_in_14 : decode cX8_in 14 = .ok (.iconst 0, 1) := by decide +kernel
theorem dX8_in_15 : decode cX8_in 15 = .ok (.ireturn, 1) := by decide +kernel
theorem dX8_record_0 : decode cX8_record 0 = .ok (.aload_n 0, 1) := by decide +kernel
theorem dX8_record_1 : decode cX8_record 1 = .ok (.getfield 68, 3) := by decide +kernel
theorem dX8_record_4 : decode cX8_record 4 = .ok (.bipush 6, 2) := by decide +kernel
theorem dX8_record_6 : decode cX8_record 6 = .ok (.if_icmp .ne 39, 3) := by decide +kernel
theorem dX8_record_9 : decode cX8_record 9 = .ok (.iconst 0, 1) := by decide +kernel
theorem dX8_record_10 : decode cX8_record 10 = .ok (.istore_n 1, 1) := by decide +kernel
theorem dX8_record_11 : decode cX8_record 11 = .ok (.iload_n 1, 1) := by decide +kernel
theorem dX8_record_12 : decode cX8_record 12 = .ok (.sipush 1050, 3) := by decide +kernel
theorem dX8_record_15 : decode cX8_record 15 = .ok (.if_icmp .ge 25, 3) := by decide +kernel
theorem dX8_record_18 : decode cX8_record 18 = .ok (.aload_n 0, 1) := by decide +kernel
theorem dX8_record_19 : decode cX8_record 19 = .ok (.getfield 13, 3) := by decide +kernel
theorem dX8_record_22 : decode cX8_record 22 = .ok (.iload_n 1, 1) := by decide +kernel
theorem dX8_record_23 : decode cX8_record 23 = .ok (.aload_n 0, 1) := by decide +kernel
theorem dX8_record_24 : decode cX8_record 24 = .ok (.getfield 13, 3) := by decide +kernel
theorem dX8_record_27 : decode cX8_record 27 = .ok (.iload_n 1, 1) := by decide +kernel
theorem dX8_record_28 : decode cX8_record 28 = .ok (.sipush 210, 3) := by decide +kernel
theorem dX8_record_31 : decode cX8_record 31 = .ok (.iadd, 1) := by decide +kernel
theorem dX8_record_32 : decode cX8_record 32 = .ok (.iaload, 1) := by decide +kernel
theorem dX8_record_33 : decode cX8_record 33 = .ok (.iastore, 1) := by decide +kernel
theorem dX8_record_34 : decode cX8_record 34 = .ok (.iinc 1 1, 3) := by decide +kernel
theorem dX8_record_37 : decode cX8_record 37 = .ok (.goto (-26), 3) := by decide +kernel
theorem dX8_record_40 : decode cX8_record 40 = .ok (.aload_n 0, 1) := by decide +kernel
theorem dX8_record_41 : decode cX8_record 41 = .ok (.iconst 5, 1) := by decide +kernel
theorem dX8_record_42 : decode cX8_record 42 = .ok (.putfield 68, 3) := by decide +kernel
theorem dX8_record_45 : decode cX8_record 45 = .ok (.iconst 0, 1) := by decide +kernel
theorem dX8_record_46 : decode cX8_record 46 = .ok (.istore_n 1, 1) := by decide +kernel
theorem dX8_record_47 : decode cX8_record 47 = .ok (.iload_n 1, 1) := by decide +kernel
theorem dX8_record_48 : decode cX8_record 48 = .ok (.sipush 210, 3) := by decide +kernel
theorem dX8_record_51 : decode cX8_record 51 = .ok (.if_icmp .ge 30, 3) := by decide +kernel
theorem dX8_record_54 : decode cX8_record 54 = .ok (.aload_n 0, 1) := by decide +kernel
theorem dX8_record_55 : decode cX8_record 55 = .ok (.getfield 13, 3) := by decide +kernel
theorem dX8_record_58 : decode cX8_record 58 = .ok (.aload_n 0, 1) := by decide +kernel
theorem dX8_record_59 : decode cX8_record 59 = .ok (.getfield 68, 3) := by decide +kernel
theorem dX8_record_62 : decode cX8_record 62 = .ok (.sipush 210, 3) := by decide +kernel
theorem dX8_record_65 : decode cX8_record 65 = .ok (.imul, 1) := by decide +kernel
theorem dX8_record_66 : decode cX8_record 66 = .ok (.iload_n 1, 1) := by decide +kernel
theorem dX8_record_67 : decode cX8_record 67 = .ok (.iadd, 1) := by decide +kernel
theorem dX8_record_68 : decode cX8_record 68 = .ok (.aload_n 0, 1) := by decide +kernel
theorem dX8_record_69 : decode cX8_record 69 = .ok (.getfield 7, 3) := by decide +kernel
theorem dX8_record_72 : decode cX8_record 72 = .ok (.iload_n 1, 1) := by decide +kernel
theorem dX8_record_73 : decode cX8_record 73 = .ok (.iaload, 1) := by decide +kernel
theorem dX8_record_74 : decode cX8_record 74 = .ok (.iastore, 1) := by decide +kernel
theorem dX8_record_75 : decode cX8_record 75 = .ok (.iinc 1 1, 3) := by decide +kernel
theorem dX8_record_78 : decode cX8_record 78 = .ok (.goto (-31), 3) := by decide +kernel
theorem dX8_record_81 : decode cX8_record 81 = .ok (.aload_n 0, 1) := by decide +kernel
theorem dX8_record_82 : decode cX8_record 82 = .ok (.dup, 1) := by decide +kernel
theorem dX8_record_83 : decode cX8_record 83 = .ok (.getfield 68, 3) := by decide +kernel
theorem dX8_record_86 : decode cX8_record 86 = .ok (.iconst 1, 1) := by decide +kernel
theorem dX8_record_87 : decode cX8_record 87 = .ok (.iadd, 1) := by decide +kernel
theorem dX8_record_88 : decode cX8_record 88 = .ok (.putfield 68, 3) := by decide +kernel
theorem dX8_record_91 : decode cX8_record 91 = .ok (.return_, 1) := by decide +kernel
theorem dX8_set_0 : decode cX8_set 0 = .ok (.iload_n 1, 1) := by decide +kernel
theorem dX8_set_1 : decode cX8_set 1 = .ok (.iconst 0, 1) := by decide +kernel
theorem dX8_set_2 : decode cX8_set 2 = .ok (.iconst 2, 1) := by decide +kernel
theorem dX8_set_3 : decode cX8_set 3 = .ok (.invokestatic 72, 3) := by decide +kernel
theorem dX8_set_6 : decode cX8_set 6 = .ok (.ifCond .eq 29, 3) := by decide +kernel
theorem dX8_set_9 : decode cX8_set 9 = .ok (.iload_n 2, 1) := by decide +kernel
theorem dX8_set_10 : decode cX8_set 10 = .ok (.iload_n 1, 1) := by decide +kernel
theorem dX8_set_11 : decode cX8_set 11 = .ok (.ifCond .ne 7, 3) := by decide +kernel
theorem dX8_set_14 : decode cX8_set 14 = .ok (.iconst 0, 1) := by decide +kernel
theorem dX8_set_15 : decode cX8_set 15 = .ok (.goto 4, 3) := by decide +kernel
theorem dX8_set_18 : decode cX8_set 18 = .ok (.iconst 1, 1) := by decide +kernel
theorem dX8_set_19 : decode cX8_set 19 = .ok (.iload_n 1, 1) := by decide +kernel
theorem dX8_set_20 : decode cX8_set 20 = .ok (.ifCond .ne 7, 3) := by decide +kernel
theorem dX8_set_23 : decode cX8_set 23 = .ok (.iconst 2, 1) := by decide +kernel
theorem dX8_set_24 : decode cX8_set 24 = .ok (.goto 5, 3) := by decide +kernel
theorem dX8_set_27 : decode cX8_set 27 = .ok (.bipush 9, 2) := by decide +kernel
theorem dX8_set_29 : decode cX8_set 29 = .ok (.invokestatic 72, 3) := by decide +kernel
theorem dX8_set_32 : decode cX8_set 32 = .ok (.ifCond .ne 6, 3) := by decide +kernel
theorem dX8_set_35 : decode cX8_set 35 = .ok (.bipush (-2), 2) := by decide +kernel
theorem dX8_set_37 : decode cX8_set 37 = .ok (.ireturn, 1) := by decide +kernel
theorem dX8_set_38 : decode cX8_set 38 = .ok (.aload_n 0, 1) := by decide +kernel
theorem dX8_set_39 : decode cX8_set 39 = .ok (.invokevirtual 76, 3) := by decide +kernel
theorem dX8_set_42 : decode cX8_set 42 = .ok (.aload_n 0, 1) := by decide +kernel
theorem dX8_set_43 : decode cX8_set 43 = .ok (.getfield 7, 3) := by decide +kernel
theorem dX8_set_46 : decode cX8_set 46 = .ok (.iload_n 1, 1) := by decide +kernel
theorem dX8_set_47 : decode cX8_set 47 = .ok (.iaload, 1) := by decide +kernel
theorem dX8_set_48 : decode cX8_set 48 = .ok (.istore_n 3, 1) := by decide +kernel
theorem dX8_set_49 : decode cX8_set 49 = .ok (.aload_n 0, 1) := by decide +kernel
theorem dX8_set_50 : decode cX8_set 50 = .ok (.getfield 7, 3) := by decide +kernel
theorem dX8_set_53 : decode cX8_set 53 = .ok (.iload_n 1, 1) := by decide +kernel
theorem dX8_set_54 : decode cX8_set 54 = .ok (.iload_n 2, 1) := by decide +kernel
theorem dX8_set_55 : decode cX8_set 55 = .ok (.iastore, 1) := by decide +kernel
theorem dX8_set_56 : decode cX8_set 56 = .ok (.iload_n 3, 1) := by decide +kernel
theorem dX8_set_57 : decode cX8_set 57 = .ok (.ireturn, 1) := by decide +kernel
theorem dX8_isThread_0 : decode cX8_isThread 0 = .ok (.iload_n 0, 1) := by decide +kernel
theorem dX8_isThread_1 : decode cX8_isThread 1 = .ok (.iconst 0, 1) := by decide +kernel
theorem dX8_isThread_2 : decode cX8_isThread 2 = .ok (.iconst 1, 1) := by decide +kernel
theorem dX8_isThread_3 : decode cX8_isThread 3 = .ok (.invokestatic 72, 3) := by decide +kernel
theorem dX8_isThread_6 : decode cX8_isThread 6 = .ok (.ireturn, 1) := by decide +kernel
theorem dX8_first_0 : decode cX8_first 0 = .ok (.iload_n 1, 1) := by decide +kernel
theorem dX8_first_1 : decode cX8_first 1 = .ok (.invokestatic 79, 3) := by decide +kernel
theorem dX8_first_4 : decode cX8_first 4 = .ok (.ifCond .eq 13, 3) := by decide +kernel
theorem dX8_first_7 : decode cX8_first 7 = .ok (.iload_n 2, 1) := by decide +kernel
theorem dX8_first_8 : decode cX8_first 8 = .ok (.iconst 0, 1) := by decide +kernel
theorem dX8_first_9 : decode cX8_first 9 = .ok (.bipush 11, 2) := by decide +kernel
theorem dX8_first_11 : decode cX8_first 11 = .ok (.invokestatic 72, 3) := by decide +kernel
theorem dX8_first_14 : decode cX8_first 14 = .ok (.ifCond .ne 5, 3) := by decide +kernel
theorem dX8_first_17 : decode cX8_first 17 = .ok (.iconst (-1), 1) := by decide +kernel
theorem dX8_first_18 : decode cX8_first 18 = .ok (.ireturn, 1) := by decide +kernel
theorem dX8_first_19 : decode cX8_first 19 = .ok (.iload_n 3, 1) := by decide +kernel
theorem dX8_first_20 : decode cX8_first 20 = .ok (.iconst 0, 1) := by decide +kernel
theorem dX8_first_21 : decode cX8_first 21 = .ok (.sipush 999, 3) := by decide +kernel
theorem dX8_first_24 : decode cX8_first 24 = .ok (.invokestatic 72, 3) := by decide +kernel
theorem dX8_first_27 : decode cX8_first 27 = .ok (.ifCond .ne 6, 3) := by decide +kernel
theorem dX8_first_30 : decode cX8_first 30 = .ok (.bipush (-2), 2) := by decide +kernel
theorem dX8_first_32 : decode cX8_first 32 = .ok (.ireturn, 1) := by decide +kernel
theorem dX8_first_33 : decode cX8_first 33 = .ok (.aload_n 0, 1) := by decide +kernel
theorem dX8_first_34 : decode cX8_first 34 = .ok (.invokevirtual 76, 3) := by decide +kernel
theorem dX8_first_37 : decode cX8_first 37 = .ok (.bipush 10, 2) := by decide +kernel
theorem dX8_first_39 : decode cX8_first 39 = .ok (.bipush 100, 2) := by decide +kernel
theorem dX8_first_41 : decode cX8_first 41 = .ok (.iload_n 1, 1) := by decide +kernel
theorem dX8_first_42 : decode cX8_first 42 = .ok (.imul, 1) := by decide +kernel
theorem dX8_first_43 : decode cX8_first 43 = .ok (.iadd, 1) := by decide +kernel
theorem dX8_first_44 : decode cX8_first 44 = .ok (.bipush 70, 2) := by decide +kernel
theorem dX8_first_46 : decode cX8_first 46 = .ok (.iadd, 1) := by decide +kernel
theorem dX8_first_47 : decode cX8_first 47 = .ok (.iload_n 2, 1) := by decide +kernel
theorem dX8_first_48 : decode cX8_first 48 = .ok (.iadd, 1) := by decide +kernel
theorem dX8_first_49 : decode cX8_first 49 = .ok (.istore 4, 2) := by decide +kernel
theorem dX8_first_51 : decode cX8_first 51 = .ok (.aload_n 0, 1) := by decide +kernel
theorem dX8_first_52 : decode cX8_first 52 = .ok (.getfield 7, 3) := by decide +kernel
theorem dX8_first_55 : decode cX8_first 55 = .ok (.iload 4, 2) := by decide +kernel
theorem dX8_first_57 : decode cX8_first 57 = .ok (.iaload, 1) := by decide +kernel
theorem dX8_first_58 : decode cX8_first 58 = .ok (.istore 5, 2) := by decide +kernel
theorem dX8_first_60 : decode cX8_first 60 = .ok (.aload_n 0, 1) := by decide +kernel
theorem dX8_first_61 : decode cX8_first 61 = .ok (.getfield 7, 3) := by decide +kernel
theorem dX8_first_64 : decode cX8_first 64 = .ok (.iload 4, 2) := by decide +kernel
theorem dX8_first_66 : decode cX8_first 66 = .ok (.iload_n 3, 1) := by decide +kernel
theorem dX8_first_67 : decode cX8_first 67 = .ok (.iastore, 1) := by decide +kernel
theorem dX8_first_68 : decode cX8_first 68 = .ok (.iload 5, 2) := by decide +kernel
theorem dX8_first_70 : decode cX8_first 70 = .ok (.ireturn, 1) := by decide +kernel
theorem dX8_sign_0 : decode cX8_sign 0 = .ok (.aload_n 0, 1) := by decide +kernel
theorem dX8_sign_1 : decode cX8_sign 1 = .ok (.getfield 83, 3) := by decide +kernel
theorem dX8_sign_4 : decode cX8_sign 4 = .ok (.aload_n 0, 1) := by decide +kernel
theorem dX8_sign_5 : decode cX8_sign 5 = .ok (.getfield 86, 3) := by decide +kernel
theorem dX8_sign_8 : decode cX8_sign 8 = .ok (.if_icmp .ge 15, 3) := by decide +kernel
theorem dX8_sign_11 : decode cX8_sign 11 = .ok (.aload_n 0, 1) := by decide +kernel
theorem dX8_sign_12 : decode cX8_sign 12 = .ok (.getfield 23, 3) := by decide +kernel
theorem dX8_sign_15 : decode cX8_sign 15 = .ok (.aload_n 0, 1) := by decide +kernel
theorem dX8_sign_16 : decode cX8_sign 16 = .ok (.getfield 83, 3) := by decide +kernel
theorem dX8_sign_19 : decode cX8_sign 19 = .ok (.iaload, 1) := by decide +kernel
theorem dX8_sign_20 : decode cX8_sign 20 = .ok (.goto 4, 3) := by decide +kernel
theorem dX8_sign_23 : decode cX8_sign 23 = .ok (.iconst 0, 1) := by decide +kernel
theorem dX8_sign_24 : decode cX8_sign 24 = .ok (.ireturn, 1) := by decide +kernel
theorem dX8_between_0 : decode cX8_between 0 = .ok (.aload_n 0, 1) := by decide +kernel
theorem dX8_between_1 : decode cX8_between 1 = .ok (.aload_n 0, 1) := by decide +kernel
theorem dX8_between_2 : decode cX8_between 2 = .ok (.getfield 89, 3) := by decide +kernel
theorem dX8_between_5 : decode cX8_between 5 = .ok (.ifCond .ne 11, 3) := by decide +kernel
theorem dX8_between_8 : decode cX8_between 8 = .ok (.aload_n 0, 1) := by decide +kernel
theorem dX8_between_9 : decode cX8_between 9 = .ok (.invokevirtual 93, 3) := by decide +kernel
theorem dX8_between_12 : decode cX8_between 12 = .ok (.iload_n 1, 1) := by decide +kernel
theorem dX8_between_13 : decode cX8_between 13 = .ok (.if_icmp .eq 7, 3) := by decide +kernel
theorem dX8_between_16 : decode cX8_between 16 = .ok (.iconst 1, 1) := by decide +kernel
theorem dX8_between_17 : decode cX8_between 17 = .ok (.goto 4, 3) := by decide +kernel
theorem dX8_between_20 : decode cX8_between 20 = .ok (.iconst 0, 1) := by decide +kernel
theorem dX8_between_21 : decode cX8_between 21 = .ok (.putfield 89, 3) := by decide +kernel
theorem dX8_between_24 : decode cX8_between 24 = .ok (.aload_n 0, 1) := by decide +kernel
theorem dX8_between_25 : decode cX8_between 25 = .ok (.dup, 1) := by decide +kernel
theorem dX8_between_26 : decode cX8_between 26 = .ok (.getfield 83, 3) := by decide +kernel
theorem dX8_between_29 : decode cX8_between 29 = .ok (.aload_n 0, 1) := by decide +kernel
theorem dX8_between_30 : decode cX8_between 30 = .ok (.getfield 89, 3) := by decide +kernel
theorem dX8_between_33 : decode cX8_between 33 = .ok (.ifCond .eq 7, 3) := by decide +kernel
theorem dX8_between_36 : decode cX8_between 36 = .ok (.iconst 0, 1) := by decide +kernel
theorem dX8_between_37 : decode cX8_between 37 = .ok (.goto 4, 3) := by decide +kernel
theorem dX8_between_40 : decode cX8_between 40 = .ok (.iconst 1, 1) := by decide +kernel
theorem dX8_between_41 : decode cX8_between 41 = .ok (.iadd, 1) := by decide +kernel
theorem dX8_between_42 : decode cX8_between 42 = .ok (.putfield 83, 3) := by decide +kernel
theorem dX8_between_45 : decode cX8_between 45 = .ok (.return_, 1) := by decide +kernel
theorem dX8_register_0 : decode cX8_register 0 = .ok (.aload_n 0, 1) := by decide +kernel
theorem dX8_register_1 : decode cX8_register 1 = .ok (.invokevirtual 93, 3) := by decide +kernel
theorem dX8_register_4 : decode cX8_register 4 = .ok (.bipush 97, 2) := by decide +kernel
theorem dX8_register_6 : decode cX8_register 6 = .ok (.isub, 1) := by decide +kernel
theorem dX8_register_7 : decode cX8_register 7 = .ok (.istore_n 1, 1) := by decide +kernel
theorem dX8_register_8 : decode cX8_register 8 = .ok (.aload_n 0, 1) := by decide +kernel
theorem dX8_register_9 : decode cX8_register 9 = .ok (.aload_n 0, 1) := by decide +kernel
theorem dX8_register_10 : decode cX8_register 10 = .ok (.getfield 89, 3) := by decide +kernel
theorem dX8_register_13 : decode cX8_register 13 = .ok (.ifCond .ne 12, 3) := by decide +kernel
theorem dX8_register_16 : decode cX8_register 16 = .ok (.iload_n 1, 1) := by decide +kernel
theorem dX8_register_17 : decode cX8_register 17 = .ok (.iconst 0, 1) := by decide +kernel
theorem dX8_register_18 : decode cX8_register 18 = .ok (.iconst 3, 1) := by decide +kernel
theorem dX8_register_19 : decode cX8_register 19 = .ok (.invokestatic 72, 3) := by decide +kernel
theorem dX8_register_22 : decode cX8_register 22 = .ok (.ifCond .ne 7, 3) := by decide +kernel
theorem dX8_register_25 : decode cX8_register 25 = .ok (.iconst 1, 1) := by decide +kernel
theorem dX8_register_26 : decode cX8_register 26 = .ok (.goto 4, 3) := by decide +kernel
theorem dX8_register_29 : decode cX8_register 29 = .ok (.iconst 0, 1) := by decide +kernel
theorem dX8_register_30 : decode cX8_register 30 = .ok (.putfield 89, 3) := by decide +kernel
theorem dX8_register_33 : decode cX8_register 33 = .ok (.aload_n 0, 1) := by decide +kernel
theorem dX8_register_34 : decode cX8_register 34 = .ok (.dup, 1) := by decide +kernel
theorem dX8_register_35 : decode cX8_register 35 = .ok (.getfield 83, 3) := by decide +kernel
theorem dX8_register_38 : decode cX8_register 38 = .ok (.aload_n 0, 1) := by decide +kernel
theorem dX8_register_39 : decode cX8_register 39 = .ok (.getfield 89, 3) := by decide +kernel
theorem dX8_register_42 : decode cX8_register 42 = .ok (.ifCond .eq 7, 3) := by decide +kernel
theorem dX8_register_45 : decode cX8_register 45 = .ok (.iconst 0, 1) := by decide +kernel
theorem dX8_register_46 : decode cX8_register 46 = .ok (.goto 4, 3) := by decide +kernel
theorem dX8_register_49 : decode cX8_register 49 = .ok (.iconst 1, 1) := by decide +kernel
theorem dX8_register_50 : decode cX8_register 50 = .ok (.iadd, 1) := by decide +kernel
theorem dX8_register_51 : decode cX8_register 51 = .ok (.putfield 83, 3) := by decide +kernel
theorem dX8_register_54 : decode cX8_register 54 = .ok (.iload_n 1, 1) := by decide +kernel
theorem dX8_register_55 : decode cX8_register 55 = .ok (.ireturn, 1) := by decide +kernel
theorem dX8_number_0 : decode cX8_number 0 = .ok (.aload_n 0, 1) := by decide +kernel
theorem dX8_number_1 : decode cX8_number 1 = .ok (.invokevirtual 93, 3) := by decide +kernel
theorem dX8_number_4 : decode cX8_number 4 = .ok (.bipush 48, 2) := by decide +kernel
theorem dX8_number_6 : decode cX8_number 6 = .ok (.isub, 1) := by decide +kernel
theorem dX8_number_7 : decode cX8_number 7 = .ok (.istore_n 1, 1) := by decide +kernel
theorem dX8_number_8 : decode cX8_number 8 = .ok (.aload_n 0, 1) := by decide +kernel
theorem dX8_number_9 : decode cX8_number 9 = .ok (.aload_n 0, 1) := by decide +kernel
theorem dX8_number_10 : decode cX8_number 10 = .ok (.getfield 89, 3) := by decide +kernel
theorem dX8_number_13 : decode cX8_number 13 = .ok (.ifCond .ne 13, 3) := by decide +kernel
theorem dX8_number_16 : decode cX8_number 16 = .ok (.iload_n 1, 1) := by decide +kernel
theorem dX8_number_17 : decode cX8_number 17 = .ok (.iconst 0, 1) := by decide +kernel
theorem dX8_number_18 : decode cX8_number 18 = .ok (.bipush 9, 2) := by decide +kernel
theorem dX8_number_20 : decode cX8_number 20 = .ok (.invokestatic 72, 3) := by decide +kernel
theorem dX8_number_23 : decode cX8_number 23 = .ok (.ifCond .ne 7, 3) := by decide +kernel
theorem dX8_number_26 : decode cX8_number 26 = .ok (.iconst 1, 1) := by decide +kernel
theorem dX8_number_27 : decode cX8_number 27 = .ok (.goto 4, 3) := by decide +kernel
theorem dX8_number_30 : decode cX8_number 30 = .ok (.iconst 0, 1) := by decide +kernel
theorem dX8_number_31 : decode cX8_number 31 = .ok (.putfield 89, 3) := by decide +kernel
theorem dX8_number_34 : decode cX8_number 34 = .ok (.aload_n 0, 1) := by decide +kernel
theorem dX8_number_35 : decode cX8_number 35 = .ok (.dup, 1) := by decide +kernel
theorem dX8_number_36 : decode cX8_number 36 = .ok (.getfield 83, 3) := by decide +kernel
theorem dX8_number_39 : decode cX8_number 39 = .ok (.aload_n 0, 1) := by decide +kernel
theorem dX8_number_40 : decode cX8_number 40 = .ok (.getfield 89, 3) := by decide +kernel
theorem dX8_number_43 : decode cX8_number 43 = .ok (.ifCond .eq 7, 3) := by decide +kernel
theorem dX8_number_46 : decode cX8_number 46 = .ok (.iconst 0, 1) := by decide +kernel
theorem dX8_number_47 : decode cX8_number 47 = .ok (.goto 4, 3) := by decide +kernel
theorem dX8_number_50 : decode cX8_number 50 = .ok (.iconst 1, 1) := by decide +kernel
theorem dX8_number_51 : decode cX8_number 51 = .ok (.iadd, 1) := by decide +kernel
theorem dX8_number_52 : decode cX8_number 52 = .ok (.putfield 83, 3) := by decide +kernel
theorem dX8_number_55 : decode cX8_number 55 = .ok (.aload_n 0, 1) := by decide +kernel
theorem dX8_number_56 : decode cX8_number 56 = .ok (.getfield 89, 3) := by decide +kernel
theorem dX8_number_59 : decode cX8_number 59 = .ok (.ifCond .ne 64, 3) := by decide +kernel
theorem dX8_number_62 : decode cX8_number 62 = .ok (.iload_n 1, 1) := by decide +kernel
theorem dX8_number_63 : decode cX8_number 63 = .ok (.ifCond .le 60, 3) := by decide +kernel
theorem dX8_number_66 : decode cX8_number 66 = .ok (.aload_n 0, 1) := by decide +kernel
theorem dX8_number_67 : decode cX8_number 67 = .ok (.invokevirtual 93, 3) := by decide +kernel
theorem dX8_number_70 : decode cX8_number 70 = .ok (.bipush 48, 2) := by decide +kernel
theorem dX8_number_72 : decode cX8_number 72 = .ok (.bipush 57, 2) := by decide +kernel
theorem dX8_number_74 : decode cX8_number 74 = .ok (.invokestatic 72, 3) := by decide +kernel
theorem dX8_number_77 : decode cX8_number 77 = .ok (.ifCond .eq 46, 3) := by decide +kernel
theorem dX8_number_80 : decode cX8_number 80 = .ok (.bipush 10, 2) := by decide +kernel
theorem dX8_number_82 : decode cX8_number 82 = .ok (.iload_n 1, 1) := by decide +kernel
theorem dX8_number_83 : decode cX8_number 83 = .ok (.imul, 1) := by decide +kernel
theorem dX8_number_84 : decode cX8_number 84 = .ok (.aload_n 0, 1) := by decide +kernel
theorem dX8_number_85 : decode cX8_number 85 = .ok (.invokevirtual 93, 3) := by decide +kernel
theorem dX8_number_88 : decode cX8_number 88 = .ok (.iadd, 1) := by decide +kernel
theorem dX8_number_89 : decode cX8_number 89 = .ok (.bipush 48, 2) := by decide +kernel
theorem dX8_number_91 : decode cX8_number 91 = .ok (.isub, 1) := by decide +kernel
theorem dX8_number_92 : decode cX8_number 92 = .ok (.bipush 99, 2) := by decide +kernel
theorem dX8_number_94 : decode cX8_number 94 = .ok (.if_icmp .gt 29, 3) := by decide +kernel
theorem dX8_number_97 : decode cX8_number 97 = .ok (.bipush 10, 2) := by decide +kernel
theorem dX8_number_99 : decode cX8_number 99 = .ok (.iload_n 1, 1) := by decide +kernel
theorem dX8_number_100 : decode cX8_number 100 = .ok (.imul, 1) := by decide +kernel
theorem dX8_number_101 : decode cX8_number 101 = .ok (.aload_n 0, 1) := by decide +kernel
theorem dX8_number_102 : decode cX8_number 102 = .ok (.invokevirtual 93, 3) := by decide +kernel
theorem dX8_number_105 : decode cX8_number 105 = .ok (.iadd, 1) := by decide +kernel
theorem dX8_number_106 : decode cX8_number 106 = .ok (.bipush 48, 2) := by decide +kernel
theorem dX8_number_108 : decode cX8_number 108 = .ok (.isub, 1) := by decide +kernel
theorem dX8_number_109 : decode cX8_number 109 = .ok (.istore_n 1, 1) := by decide +kernel
theorem dX8_number_110 : decode cX8_number 110 = .ok (.aload_n 0, 1) := by decide +kernel
theorem dX8_number_111 : decode cX8_number 111 = .ok (.dup, 1) := by decide +kernel
theorem dX8_number_112 : decode cX8_number 112 = .ok (.getfield 83, 3) := by decide +kernel
theorem dX8_number_115 : decode cX8_number 115 = .ok (.iconst 1, 1) := by decide +kernel
theorem dX8_number_116 : decode cX8_number 116 = .ok (.iadd, 1) := by decide +kernel
theorem dX8_number_117 : decode cX8_number 117 = .ok (.putfield 83, 3) := by decide +kernel
theorem dX8_number_120 : decode cX8_number 120 = .ok (.goto (-65), 3) := by decide +kernel
theorem dX8_number_123 : decode cX8_number 123 = .ok (.iload_n 1, 1) := by decide +kernel
theorem dX8_number_124 : decode cX8_number 124 = .ok (.ireturn, 1) := by decide +kernel
theorem dX8_lay_0 : decode cX8_lay 0 = .ok (.iconst 5, 1) := by decide +kernel
theorem dX8_lay_1 : decode cX8_lay 1 = .ok (.aload_n 0, 1) := by decide +kernel
theorem dX8_lay_2 : decode cX8_lay 2 = .ok (.getfield 97, 3) := by decide +kernel
theorem dX8_lay_5 : decode cX8_lay 5 = .ok (.imul, 1) := by decide +kernel
theorem dX8_lay_6 : decode cX8_lay 6 = .ok (.istore 6, 2) := by decide +kernel
theorem dX8_lay_8 : decode cX8_lay 8 = .ok (.aload_n 0, 1) := by decide +kernel
theorem dX8_lay_9 : decode cX8_lay 9 = .ok (.getfield 26, 3) := by decide +kernel
theorem dX8_lay_12 : decode cX8_lay 12 = .ok (.iload 6, 2) := by decide +kernel
theorem dX8_lay_14 : decode cX8_lay 14 = .ok (.iload_n 1, 1) := by decide +kernel
theorem dX8_lay_15 : decode cX8_lay 15 = .ok (.iastore, 1) := by decide +kernel
theorem dX8_lay_16 : decode cX8_lay 16 = .ok (.aload_n 0, 1) := by decide +kernel
theorem dX8_lay_17 : decode cX8_lay 17 = .ok (.getfield 26, 3) := by decide +kernel
theorem dX8_lay_20 : decode cX8_lay 20 = .ok (.iload 6, 2) := by decide +kernel
theorem dX8_lay_22 : decode cX8_lay 22 = .ok (.iconst 1, 1) := by decide +kernel
theorem dX8_lay_23 : decode cX8_lay 23 = .ok (.iadd, 1) := by decide +kernel
theorem dX8_lay_24 : decode cX8_lay 24 = .ok (.iload_n 2, 1) := by decide +kernel
theorem dX8_lay_25 : decode cX8_lay 25 = .ok (.iastore, 1) := by decide +kernel
theorem dX8_lay_26 : decode cX8_lay 26 = .ok (.aload_n 0, 1) := by decide +kernel
theorem dX8_lay_27 : decode cX8_lay 27 = .ok (.getfield 26, 3) := by decide +kernel
theorem dX8_lay_30 : decode cX8_lay 30 = .ok (.iload 6, 2) := by decide +kernel
theorem dX8_lay_32 : decode cX8_lay 32 = .ok (.iconst 2, 1) := by decide +kernel
theorem dX8_lay_33 : decode cX8_lay 33 = .ok (.iadd, 1) := by decide +kernel
theorem dX8_lay_34 : decode cX8_lay 34 = .ok (.iload_n 3, 1) := by decide +kernel
theorem dX8_lay_35 : decode cX8_lay 35 = .ok (.iastore, 1) := by decide +kernel
theorem dX8_lay_36 : decode cX8_lay 36 = .ok (.aload_n 0, 1) := by decide +kernel
theorem dX8_lay_37 : decode cX8_lay 37 = .ok (.getfield 26, 3) := by decide +kernel
theorem dX8_lay_40 : decode cX8_lay 40 = .ok (.iload 6, 2) := by decide +kernel
theorem dX8_lay_42 : decode cX8_lay 42 = .ok (.iconst 3, 1) := by decide +kernel
theorem dX8_lay_43 : decode cX8_lay 43 = .ok (.iadd, 1) := by decide +kernel
theorem dX8_lay_44 : decode cX8_lay 44 = .ok (.iload 4, 2) := by decide +kernel
theorem dX8_lay_46 : decode cX8_lay 46 = .ok (.iastore, 1) := by decide +kernel
theorem dX8_lay_47 : decode cX8_lay 47 = .ok (.aload_n 0, 1) := by decide +kernel
theorem dX8_lay_48 : decode cX8_lay 48 = .ok (.getfield 26, 3) := by decide +kernel
theorem dX8_lay_51 : decode cX8_lay 51 = .ok (.iload 6, 2) := by decide +kernel
theorem dX8_lay_53 : decode cX8_lay 53 = .ok (.iconst 4, 1) := by decide +kernel
theorem dX8_lay_54 : decode cX8_lay 54 = .ok (.iadd, 1) := by decide +kernel
theorem dX8_lay_55 : decode cX8_lay 55 = .ok (.iload 5, 2) := by decide +kernel
theorem dX8_lay_57 : decode cX8_lay 57 = .ok (.iastore, 1) := by decide +kernel
theorem dX8_lay_58 : decode cX8_lay 58 = .ok (.aload_n 0, 1) := by decide +kernel
theorem dX8_lay_59 : decode cX8_lay 59 = .ok (.dup, 1) := by decide +kernel
theorem dX8_lay_60 : decode cX8_lay 60 = .ok (.getfield 97, 3) := by decide +kernel
theorem dX8_lay_63 : decode cX8_lay 63 = .ok (.iconst 1, 1) := by decide +kernel
theorem dX8_lay_64 : decode cX8_lay 64 = .ok (.iadd, 1) := by decide +kernel
theorem dX8_lay_65 : decode cX8_lay 65 = .ok (.putfield 97, 3) := by decide +kernel
theorem dX8_lay_68 : decode cX8_lay 68 = .ok (.return_, 1) := by decide +kernel
theorem dX8_readValue_0 : decode cX8_readValue 0 = .ok (.aload_n 0, 1) := by decide +kernel
theorem dX8_readValue_1 : decode cX8_readValue 1 = .ok (.invokevirtual 93, 3) := by decide +kernel
theorem dX8_readValue_4 : decode cX8_readValue 4 = .ok (.bipush 48, 2) := by decide +kernel
theorem dX8_readValue_6 : decode cX8_readValue 6 = .ok (.bipush 57, 2) := by decide +kernel
theorem dX8_readValue_8 : decode cX8_readValue 8 = .ok (.invokestatic 72, 3) := by decide +kernel
theorem dX8_readValue_11 : decode cX8_readValue 11 = .ok (.ifCond .eq 18, 3) := by decide +kernel
theorem dX8_readValue_14 : decode cX8_readValue 14 = .ok (.aload_n 0, 1) := by decide +kernel
theorem dX8_readValue_15 : decode cX8_readValue 15 = .ok (.iconst 0, 1) := by decide +kernel
theorem dX8_readValue_16 : decode cX8_readValue 16 = .ok (.iload_n 1, 1) := by decide +kernel
theorem dX8_readValue_17 : decode cX8_readValue 17 = .ok (.bipush (-6), 2) := by decide +kernel
theorem dX8_readValue_19 : decode cX8_readValue 19 = .ok (.bipush (-6), 2) := by decide +kernel
theorem dX8_readValue_21 : decode cX8_readValue 21 = .ok (.aload_n 0, 1) := by decide +kernel
theorem dX8_readValue_22 : decode cX8_readValue 22 = .ok (.invokevirtual 100, 3) := by decide +kernel
theorem dX8_readValue_25 : decode cX8_readValue 25 = .ok (.invokevirtual 103, 3) := by decide +kernel
theorem dX8_readValue_28 : decode cX8_readValue 28 = .ok (.return_, 1) := by decide +kernel
theorem dX8_readValue_29 : decode cX8_readValue 29 = .ok (.aload_n 0, 1) := by decide +kernel
theorem dX8_readValue_30 : decode cX8_readValue 30 = .ok (.invokevirtual 93, 3) := by decide +kernel
theorem dX8_readValue_33 : decode cX8_readValue 33 = .ok (.bipush 91, 2) := by decide +kernel
theorem dX8_readValue_35 : decode cX8_readValue 35 = .ok (.if_icmp .ne 36, 3) := by decide +kernel
theorem dX8_readValue_38 : decode cX8_readValue 38 = .ok (.aload_n 0, 1) := by decide +kernel
theorem dX8_readValue_39 : decode cX8_readValue 39 = .ok (.dup, 1) := by decide +kernel
theorem dX8_readValue_40 : decode cX8_readValue 40 = .ok (.getfield 83, 3) := by decide +kernel
theorem dX8_readValue_43 : decode cX8_readValue 43 = .ok (.iconst 1, 1) := by decide +kernel
theorem dX8_readValue_44 : decode cX8_readValue 44 = .ok (.iadd, 1) := by decide +kernel
theorem dX8_readValue_45 : decode cX8_readValue 45 = .ok (.putfield 83, 3) := by decide +kernel
theorem dX8_readValue_48 : decode cX8_readValue 48 = .ok (.aload_n 0, 1) := by decide +kernel
theorem dX8_readValue_49 : decode cX8_readValue 49 = .ok (.invokevirtual 107, 3) := by decide +kernel
theorem dX8_readValue_52 : decode cX8_readValue 52 = .ok (.istore_n 2, 1) := by decide +kernel
theorem dX8_readValue_53 : decode cX8_readValue 53 = .ok (.aload_n 0, 1) := by decide +kernel
theorem dX8_readValue_54 : decode cX8_readValue 54 = .ok (.bipush 93, 2) := by decide +kernel
theorem dX8_readValue_56 : decode cX8_readValue 56 = .ok (.invokevirtual 110, 3) := by decide +kernel
theorem dX8_readValue_59 : decode cX8_readValue 59 = .ok (.aload_n 0, 1) := by decide +kernel
theorem dX8_readValue_60 : decode cX8_readValue 60 = .ok (.iconst 4, 1) := by decide +kernel
theorem dX8_readValue_61 : decode cX8_readValue 61 = .ok (.iload_n 1, 1) := by decide +kernel
theorem dX8_readValue_62 : decode cX8_readValue 62 = .ok (.iload_n 2, 1) := by decide +kernel
theorem dX8_readValue_63 : decode cX8_readValue 63 = .ok (.bipush (-6), 2) := by decide +kernel
theorem dX8_readValue_65 : decode cX8_readValue 65 = .ok (.bipush (-6), 2) := by decide +kernel
theorem dX8_readValue_67 : decode cX8_readValue 67 = .ok (.invokevirtual 103, 3) := by decide +kernel
theorem dX8_readValue_70 : decode cX8_readValue 70 = .ok (.return_, 1) := by decide +kernel
theorem dX8_readValue_71 : decode cX8_readValue 71 = .ok (.aload_n 0, 1) := by decide +kernel
theorem dX8_readValue_72 : decode cX8_readValue 72 = .ok (.invokevirtual 107, 3) := by decide +kernel
theorem dX8_readValue_75 : decode cX8_readValue 75 = .ok (.istore_n 2, 1) := by decide +kernel
theorem dX8_readValue_76 : decode cX8_readValue 76 = .ok (.aload_n 0, 1) := by decide +kernel
theorem dX8_readValue_77 : decode cX8_readValue 77 = .ok (.invokevirtual 93, 3) := by decide +kernel
theorem dX8_readValue_80 : decode cX8_readValue 80 = .ok (.istore_n 3, 1) := by decide +kernel
theorem dX8_readValue_81 : decode cX8_readValue 81 = .ok (.iload_n 3, 1) := by decide +kernel
theorem dX8_readValue_82 : decode cX8_readValue 82 = .ok (.bipush 43, 2) := by decide +kernel
theorem dX8_readValue_84 : decode cX8_readValue 84 = .ok (.if_icmp .ne 7, 3) := by decide +kernel
theorem dX8_readValue_87 : decode cX8_readValue 87 = .ok (.iconst 1, 1) := by decide +kernel
theorem dX8_readValue_88 : decode cX8_readValue 88 = .ok (.goto 25, 3) := by decide +kernel
theorem dX8_readValue_91 : decode cX8_readValue 91 = .ok (.iload_n 3, 1) := by decide +kernel
theorem dX8_readValue_92 : decode cX8_readValue 92 = .ok (.bipush 45, 2) := by decide +kernel
theorem dX8_readValue_94 : decode cX8_readValue 94 = .ok (.if_icmp .ne 7, 3) := by decide +kernel
theorem dX8_readValue_97 : decode cX8_readValue 97 = .ok (.iconst 2, 1) := by decide +kernel
theorem dX8_readValue_98 : decode cX8_readValue 98 = .ok (.goto 15, 3) := by decide +kernel
theorem dX8_readValue_101 : decode cX8_readValue 101 = .ok (.iload_n 3, 1) := by decide +kernel
theorem dX8_readValue_102 : decode cX8_readValue 102 = .ok (.bipush 42, 2) := by decide +kernel
theorem dX8_readValue_104 : decode cX8_readValue 104 = .ok (.if_icmp .ne 7, 3) := by decide +kernel
theorem dX8_readValue_107 : decode cX8_readValue 107 = .ok (.iconst 3, 1) := by decide +kernel
theorem dX8_readValue_108 : decode cX8_readValue 108 = .ok (.goto 5, 3) := by decide +kernel
theorem dX8_readValue_111 : decode cX8_readValue 111 = .ok (.bipush (-6), 2) := by decide +kernel
theorem dX8_readValue_113 : decode cX8_readValue 113 = .ok (.istore 4, 2) := by decide +kernel
theorem dX8_readValue_115 : decode cX8_readValue 115 = .ok (.aload_n 0, 1) := by decide +kernel
theorem dX8_readValue_116 : decode cX8_readValue 116 = .ok (.aload_n 0, 1) := by decide +kernel
theorem dX8_readValue_117 : decode cX8_readValue 117 = .ok (.getfield 89, 3) := by decide +kernel
theorem dX8_readValue_120 : decode cX8_readValue 120 = .ok (.ifCond .ne 8, 3) := by decide +kernel
theorem dX8_readValue_123 : decode cX8_readValue 123 = .ok (.iload 4, 2) := by decide +kernel
theorem dX8_readValue_125 : decode cX8_readValue 125 = .ok (.ifCond .ge 7, 3) := by decide +kernel
theorem dX8_readValue_128 : decode cX8_readValue 128 = .ok (.iconst 1, 1) := by decide +kernel
theorem dX8_readValue_129 : decode cX8_readValue 129 = .ok (.goto 4, 3) := by decide +kernel
theorem dX8_readValue_132 : decode cX8_readValue 132 = .ok (.iconst 0, 1) := by decide +kernel
theorem dX8_readValue_133 : decode cX8_readValue 133 = .ok (.putfield 89, 3) := by decide +kernel
theorem dX8_readValue_136 : decode cX8_readValue 136 = .ok (.aload_n 0, 1) := by decide +kernel
theorem dX8_readValue_137 : decode cX8_readValue 137 = .ok (.dup, 1) := by decide +kernel
theorem dX8_readValue_138 : decode cX8_readValue 138 = .ok (.getfield 83, 3) := by decide +kernel
theorem dX8_readValue_141 : decode cX8_readValue 141 = .ok (.aload_n 0, 1) := by decide +kernel
theorem dX8_readValue_142 : decode cX8_readValue 142 = .ok (.getfield 89, 3) := by decide +kernel
theorem dX8_readValue_145 : decode cX8_readValue 145 = .ok (.ifCond .eq 7, 3) := by decide +kernel
theorem dX8_readValue_148 : decode cX8_readValue 148 = .ok (.iconst 0, 1) := by decide +kernel
theorem dX8_readValue_149 : decode cX8_readValue 149 = .ok (.goto 4, 3) := by decide +kernel
theorem dX8_readValue_152 : decode cX8_readValue 152 = .ok (.iconst 1, 1) := by decide +kernel
theorem dX8_readValue_153 : decode cX8_readValue 153 = .ok (.iadd, 1) := by decide +kernel
theorem dX8_readValue_154 : decode cX8_readValue 154 = .ok (.putfield 83, 3) := by decide +kernel
theorem dX8_readValue_157 : decode cX8_readValue 157 = .ok (.aload_n 0, 1) := by decide +kernel
theorem dX8_readValue_158 : decode cX8_readValue 158 = .ok (.getfield 89, 3) := by decide +kernel
theorem dX8_readValue_161 : decode cX8_readValue 161 = .ok (.ifCond .eq 7, 3) := by decide +kernel
theorem dX8_readValue_164 : decode cX8_readValue 164 = .ok (.iconst 0, 1) := by decide +kernel
theorem dX8_readValue_165 : decode cX8_readValue 165 = .ok (.goto 7, 3) := by decide +kernel
theorem dX8_readValue_168 : decode cX8_readValue 168 = .ok (.aload_n 0, 1) := by decide +kernel
theorem dX8_readValue_169 : decode cX8_readValue 169 = .ok (.invokevirtual 107, 3) := by decide +kernel
theorem dX8_readValue_172 : decode cX8_readValue 172 = .ok (.istore 5, 2) := by decide +kernel
theorem dX8_readValue_174 : decode cX8_readValue 174 = .ok (.aload_n 0, 1) := by decide +kernel
theorem dX8_readValue_175 : decode cX8_readValue 175 = .ok (.iload 4, 2) := by decide +kernel
theorem dX8_readValue_177 : decode cX8_readValue 177 = .ok (.iload_n 1, 1) := by decide +kernel
theorem dX8_readValue_178 : decode cX8_readValue 178 = .ok (.iload_n 2, 1) := by decide +kernel
theorem dX8_readValue_179 : decode cX8_readValue 179 = .ok (.iload 5, 2) := by decide +kernel
theorem dX8_readValue_181 : decode cX8_readValue 181 = .ok (.bipush (-6), 2) := by decide +kernel
theorem dX8_readValue_183 : decode cX8_readValue 183 = .ok (.invokevirtual 103, 3) := by decide +kernel
theorem dX8_readValue_186 : decode cX8_readValue 186 = .ok (.return_, 1) := by decide +kernel
theorem dX8_readOne_0 : decode cX8_readOne 0 = .ok (.aload_n 0, 1) := by decide +kernel
theorem dX8_readOne_1 : decode cX8_readOne 1 = .ok (.invokevirtual 93, 3) := by decide +kernel
theorem dX8_readOne_4 : decode cX8_readOne 4 = .ok (.bipush 91, 2) := by decide +kernel
theorem dX8_readOne_6 : decode cX8_readOne 6 = .ok (.if_icmp .ne 58, 3) := by decide +kernel
theorem dX8_readOne_9 : decode cX8_readOne 9 = .ok (.aload_n 0, 1) := by decide +kernel
theorem dX8_readOne_10 : decode cX8_readOne 10 = .ok (.dup, 1) := by decide +kernel
theorem dX8_readOne_11 : decode cX8_readOne 11 = .ok (.getfield 83, 3) := by decide +kernel
theorem dX8_readOne_14 : decode cX8_readOne 14 = .ok (.iconst 1, 1) := by decide +kernel
theorem dX8_readOne_15 : decode cX8_readOne 15 = .ok (.iadd, 1) := by decide +kernel
theorem dX8_readOne_16 : decode cX8_readOne 16 = .ok (.putfield 83, 3) := by decide +kernel
theorem dX8_readOne_19 : decode cX8_readOne 19 = .ok (.aload_n 0, 1) := by decide +kernel
theorem dX8_readOne_20 : decode cX8_readOne 20 = .ok (.invokevirtual 107, 3) := by decide +kernel
theorem dX8_readOne_23 : decode cX8_readOne 23 = .ok (.istore_n 1, 1) := by decide +kernel
theorem dX8_readOne_24 : decode cX8_readOne 24 = .ok (.aload_n 0, 1) := by decide +kernel
theorem dX8_readOne_25 : decode cX8_readOne 25 = .ok (.bipush 93, 2) := by decide +kernel
theorem dX8_readOne_27 : decode cX8_readOne 27 = .ok (.invokevirtual 110, 3) := by decide +kernel
theorem dX8_readOne_30 : decode cX8_readOne 30 = .ok (.aload_n 0, 1) := by decide +kernel
theorem dX8_readOne_31 : decode cX8_readOne 31 = .ok (.bipush 61, 2) := by decide +kernel
theorem dX8_readOne_33 : decode cX8_readOne 33 = .ok (.invokevirtual 110, 3) := by decide +kernel
theorem dX8_readOne_36 : decode cX8_readOne 36 = .ok (.aload_n 0, 1) := by decide +kernel
theorem dX8_readOne_37 : decode cX8_readOne 37 = .ok (.getfield 89, 3) := by decide +kernel
theorem dX8_readOne_40 : decode cX8_readOne 40 = .ok (.ifCond .eq 7, 3) := by decide +kernel
theorem dX8_readOne_43 : decode cX8_readOne 43 = .ok (.iconst 0, 1) := by decide +kernel
theorem dX8_readOne_44 : decode cX8_readOne 44 = .ok (.goto 7, 3) := by decide +kernel
theorem dX8_readOne_47 : decode cX8_readOne 47 = .ok (.aload_n 0, 1) := by decide +kernel
theorem dX8_readOne_48 : decode cX8_readOne 48 = .ok (.invokevirtual 107, 3) := by decide +kernel
theorem dX8_readOne_51 : decode cX8_readOne 51 = .ok (.istore_n 2, 1) := by decide +kernel
theorem dX8_readOne_52 : decode cX8_readOne 52 = .ok (.aload_n 0, 1) := by decide +kernel
theorem dX8_readOne_53 : decode cX8_readOne 53 = .ok (.iconst 5, 1) := by decide +kernel
theorem dX8_readOne_54 : decode cX8_readOne 54 = .ok (.iload_n 1, 1) := by decide +kernel
theorem dX8_readOne_55 : decode cX8_readOne 55 = .ok (.iload_n 2, 1) := by decide +kernel
theorem dX8_readOne_56 : decode cX8_readOne 56 = .ok (.bipush (-6), 2) := by decide +kernel
theorem dX8_readOne_58 : decode cX8_readOne 58 = .ok (.bipush (-6), 2) := by decide +kernel
theorem dX8_readOne_60 : decode cX8_readOne 60 = .ok (.invokevirtual 103, 3) := by decide +kernel
theorem dX8_readOne_63 : decode cX8_readOne 63 = .ok (.return_, 1) := by decide +kernel
theorem dX8_readOne_64 : decode cX8_readOne 64 = .ok (.aload_n 0, 1) := by decide +kernel
theorem dX8_readOne_65 : decode cX8_readOne 65 = .ok (.invokevirtual 107, 3) := by decide +kernel
theorem dX8_readOne_68 : decode cX8_readOne 68 = .ok (.istore_n 1, 1) := by decide +kernel
theorem dX8_readOne_69 : decode cX8_readOne 69 = .ok (.aload_n 0, 1) := by decide +kernel
theorem dX8_readOne_70 : decode cX8_readOne 70 = .ok (.getfield 89, 3) := by decide +kernel
theorem dX8_readOne_73 : decode cX8_readOne 73 = .ok (.ifCond .eq 4, 3) := by decide +kernel
theorem dX8_readOne_76 : decode cX8_readOne 76 = .ok (.return_, 1) := by decide +kernel
theorem dX8_readOne_77 : decode cX8_readOne 77 = .ok (.aload_n 0, 1) := by decide +kernel
theorem dX8_readOne_78 : decode cX8_readOne 78 = .ok (.invokevirtual 93, 3) := by decide +kernel
theorem dX8_readOne_81 : decode cX8_readOne 81 = .ok (.bipush 63, 2) := by decide +kernel
theorem dX8_readOne_83 : decode cX8_readOne 83 = .ok (.if_icmp .ne 29, 3) := by decide +kernel
theorem dX8_readOne_86 : decode cX8_readOne 86 = .ok (.aload_n 0, 1) := by decide +kernel
theorem dX8_readOne_87 : decode cX8_readOne 87 = .ok (.dup, 1) := by decide +kernel
theorem dX8_readOne_88 : decode cX8_readOne 88 = .ok (.getfield 83, 3) := by decide +kernel
theorem dX8_readOne_91 : decode cX8_readOne 91 = .ok (.iconst 1, 1) := by decide +kernel
theorem dX8_readOne_92 : decode cX8_readOne 92 = .ok (.iadd, 1) := by decide +kernel
theorem dX8_readOne_93 : decode cX8_readOne 93 = .ok (.putfield 83, 3) := by decide +kernel
theorem dX8_readOne_96 : decode cX8_readOne 96 = .ok (.aload_n 0, 1) := by decide +kernel
theorem dX8_readOne_97 : decode cX8_readOne 97 = .ok (.bipush 6, 2) := by decide +kernel
theorem dX8_readOne_99 : decode cX8_readOne 99 = .ok (.iload_n 1, 1) := by decide +kernel
theorem dX8_readOne_100 : decode cX8_readOne 100 = .ok (.bipush (-6), 2) := by decide +kernel
theorem dX8_readOne_102 : decode cX8_readOne 102 = .ok (.bipush (-6), 2) := by decide +kernel
theorem dX8_readOne_104 : decode cX8_readOne 104 = .ok (.aload_n 0, 1) := by decide +kernel
theorem dX8_readOne_105 : decode cX8_readOne 105 = .ok (.invokevirtual 100, 3) := by decide +kernel
theorem dX8_readOne_108 : decode cX8_readOne 108 = .ok (.invokevirtual 103, 3) := by decide +kernel
theorem dX8_readOne_111 : decode cX8_readOne 111 = .ok (.return_, 1) := by decide +kernel
theorem dX8_readOne_112 : decode cX8_readOne 112 = .ok (.aload_n 0, 1) := by decide +kernel
theorem dX8_readOne_113 : decode cX8_readOne 113 = .ok (.bipush 61, 2) := by decide +kernel
theorem dX8_readOne_115 : decode cX8_readOne 115 = .ok (.invokevirtual 110, 3) := by decide +kernel
theorem dX8_readOne_118 : decode cX8_readOne 118 = .ok (.aload_n 0, 1) := by decide +kernel
theorem dX8_readOne_119 : decode cX8_readOne 119 = .ok (.getfield 89, 3) := by decide +kernel
theorem dX8_readOne_122 : decode cX8_readOne 122 = .ok (.ifCond .ne 8, 3) := by decide +kernel
theorem dX8_readOne_125 : decode cX8_readOne 125 = .ok (.aload_n 0, 1) := by decide +kernel
theorem dX8_readOne_126 : decode cX8_readOne 126 = .ok (.iload_n 1, 1) := by decide +kernel
theorem dX8_readOne_127 : decode cX8_readOne 127 = .ok (.invokevirtual 114, 3) := by decide +kernel
theorem dX8_readOne_130 : decode cX8_readOne 130 = .ok (.return_, 1) := by decide +kernel
theorem dX8_faultOf_0 : decode cX8_faultOf 0 = .ok (.aload_n 0, 1) := by decide +kernel
theorem dX8_faultOf_1 : decode cX8_faultOf 1 = .ok (.iconst 0, 1) := by decide +kernel
theorem dX8_faultOf_2 : decode cX8_faultOf 2 = .ok (.putfield 83, 3) := by decide +kernel
theorem dX8_faultOf_5 : decode cX8_faultOf 5 = .ok (.aload_n 0, 1) := by decide +kernel
theorem dX8_faultOf_6 : decode cX8_faultOf 6 = .ok (.iconst 0, 1) := by decide +kernel
theorem dX8_faultOf_7 : decode cX8_faultOf 7 = .ok (.putfield 97, 3) := by decide +kernel
theorem dX8_faultOf_10 : decode cX8_faultOf 10 = .ok (.aload_n 0, 1) := by decide +kernel
theorem dX8_faultOf_11 : decode cX8_faultOf 11 = .ok (.iconst 0, 1) := by decide +kernel
theorem dX8_faultOf_12 : decode cX8_faultOf 12 = .ok (.putfield 89, 3) := by decide +kernel
theorem dX8_faultOf_15 : decode cX8_faultOf 15 = .ok (.aload_n 0, 1) := by decide +kernel
theorem dX8_faultOf_16 : decode cX8_faultOf 16 = .ok (.invokevirtual 117, 3) := by decide +kernel
theorem dX8_faultOf_19 : decode cX8_faultOf 19 = .ok (.aload_n 0, 1) := by decide +kernel
theorem dX8_faultOf_20 : decode cX8_faultOf 20 = .ok (.getfield 89, 3) := by decide +kernel
theorem dX8_faultOf_23 : decode cX8_faultOf 23 = .ok (.ifCond .ne 34, 3) := by decide +kernel
theorem dX8_faultOf_26 : decode cX8_faultOf 26 = .ok (.aload_n 0, 1) := by decide +kernel
theorem dX8_faultOf_27 : decode cX8_faultOf 27 = .ok (.getfield 83, 3) := by decide +kernel
theorem dX8_faultOf_30 : decode cX8_faultOf 30 = .ok (.aload_n 0, 1) := by decide +kernel
theorem dX8_faultOf_31 : decode cX8_faultOf 31 = .ok (.getfield 86, 3) := by decide +kernel
theorem dX8_faultOf_34 : decode cX8_faultOf 34 = .ok (.if_icmp .ge 23, 3) := by decide +kernel
theorem dX8_faultOf_37 : decode cX8_faultOf 37 = .ok (.aload_n 0, 1) := by decide +kernel
theorem dX8_faultOf_38 : decode cX8_faultOf 38 = .ok (.bipush 59, 2) := by decide +kernel
theorem dX8_faultOf_40 : decode cX8_faultOf 40 = .ok (.invokevirtual 110, 3) := by decide +kernel
theorem dX8_faultOf_43 : decode cX8_faultOf 43 = .ok (.aload_n 0, 1) := by decide +kernel
theorem dX8_faultOf_44 : decode cX8_faultOf 44 = .ok (.getfield 89, 3) := by decide +kernel
theorem dX8_faultOf_47 : decode cX8_faultOf 47 = .ok (.ifCond .ne (-28), 3) := by decide +kernel
theorem dX8_faultOf_50 : decode cX8_faultOf 50 = .ok (.aload_n 0, 1) := by decide +kernel
theorem dX8_faultOf_51 : decode cX8_faultOf 51 = .ok (.invokevirtual 117, 3) := by decide +kernel
theorem dX8_faultOf_54 : decode cX8_faultOf 54 = .ok (.goto (-35), 3) := by decide +kernel
theorem dX8_faultOf_57 : decode cX8_faultOf 57 = .ok (.aload_n 0, 1) := by decide +kernel
theorem dX8_faultOf_58 : decode cX8_faultOf 58 = .ok (.getfield 89, 3) := by decide +kernel
theorem dX8_faultOf_61 : decode cX8_faultOf 61 = .ok (.ifCond .eq 10, 3) := by decide +kernel
theorem dX8_faultOf_64 : decode cX8_faultOf 64 = .ok (.aload_n 0, 1) := by decide +kernel
theorem dX8_faultOf_65 : decode cX8_faultOf 65 = .ok (.getfield 83, 3) := by decide +kernel
theorem dX8_faultOf_68 : decode cX8_faultOf 68 = .ok (.goto 5, 3) := by decide +kernel
theorem dX8_faultOf_71 : decode cX8_faultOf 71 = .ok (.bipush (-6), 2) := by decide +kernel
theorem dX8_faultOf_73 : decode cX8_faultOf 73 = .ok (.ireturn, 1) := by decide +kernel
theorem dX8_put_0 : decode cX8_put 0 = .ok (.iconst 0, 1) := by decide +kernel
theorem dX8_put_1 : decode cX8_put 1 = .ok (.istore_n 3, 1) := by decide +kernel
theorem dX8_put_2 : decode cX8_put 2 = .ok (.lload_n 1, 1) := by decide +kernel
theorem dX8_put_3 : decode cX8_put 3 = .ok (.lstore 4, 2) := by decide +kernel
theorem dX8_put_5 : decode cX8_put 5 = .ok (.lload 4, 2) := by decide +kernel
theorem dX8_put_7 : decode cX8_put 7 = .ok (.ldc2_w 120, 3) := by decide +kernel
theorem dX8_put_10 : decode cX8_put 10 = .ok (.land, 1) := by decide +kernel
theorem dX8_put_11 : decode cX8_put 11 = .ok (.lconst 0, 1) := by decide +kernel
theorem dX8_put_12 : decode cX8_put 12 = .ok (.lcmp, 1) := by decide +kernel
theorem dX8_put_13 : decode cX8_put 13 = .ok (.ifCond .eq 36, 3) := by decide +kernel
theorem dX8_put_16 : decode cX8_put 16 = .ok (.lload 4, 2) := by decide +kernel
theorem dX8_put_18 : decode cX8_put 18 = .ok (.ldc2_w 120, 3) := by decide +kernel
theorem dX8_put_21 : decode cX8_put 21 = .ok (.land, 1) := by decide +kernel
theorem dX8_put_22 : decode cX8_put 22 = .ok (.l2i, 1) := by decide +kernel
theorem dX8_put_23 : decode cX8_put 23 = .ok (.bipush 33, 2) := by decide +kernel
theorem dX8_put_25 : decode cX8_put 25 = .ok (.bipush 126, 2) := by decide +kernel
theorem dX8_put_27 : decode cX8_put 27 = .ok (.invokestatic 72, 3) := by decide +kernel
theorem dX8_put_30 : decode cX8_put 30 = .ok (.ifCond .ne 6, 3) := by decide +kernel
theorem dX8_put_33 : decode cX8_put 33 = .ok (.bipush (-2), 2) := by decide +kernel
theorem dX8_put_35 : decode cX8_put 35 = .ok (.ireturn, 1) := by decide +kernel
theorem dX8_put_36 : decode cX8_put 36 = .ok (.iinc 3 1, 3) := by decide +kernel
theorem dX8_put_39 : decode cX8_put 39 = .ok (.lload 4, 2) := by decide +kernel
theorem dX8_put_41 : decode cX8_put 41 = .ok (.bipush 8, 2) := by decide +kernel
theorem dX8_put_43 : decode cX8_put 43 = .ok (.lushr, 1) := by decide +kernel
theorem dX8_put_44 : decode cX8_put 44 = .ok (.lstore 4, 2) := by decide +kernel
theorem dX8_put_46 : decode cX8_put 46 = .ok (.goto (-41), 3) := by decide +kernel
theorem dX8_put_49 : decode cX8_put 49 = .ok (.lload 4, 2) := by decide +kernel
theorem dX8_put_51 : decode cX8_put 51 = .ok (.lconst 0, 1) := by decide +kernel
theorem dX8_put_52 : decode cX8_put 52 = .ok (.lcmp, 1) := by decide +kernel
theorem dX8_put_53 : decode cX8_put 53 = .ok (.ifCond .ne 7, 3) := by decide +kernel
theorem dX8_put_56 : decode cX8_put 56 = .ok (.iload_n 3, 1) := by decide +kernel
theorem dX8_put_57 : decode cX8_put 57 = .ok (.ifCond .ne 6, 3) := by decide +kernel
theorem dX8_put_60 : decode cX8_put 60 = .ok (.bipush (-2), 2) := by decide +kernel
theorem dX8_put_62 : decode cX8_put 62 = .ok (.ireturn, 1) := by decide +kernel
theorem dX8_put_63 : decode cX8_put 63 = .ok (.aload_n 0, 1) := by decide +kernel
theorem dX8_put_64 : decode cX8_put 64 = .ok (.getfield 86, 3) := by decide +kernel
theorem dX8_put_67 : decode cX8_put 67 = .ok (.iload_n 3, 1) := by decide +kernel
theorem dX8_put_68 : decode cX8_put 68 = .ok (.iadd, 1) := by decide +kernel
theorem dX8_put_69 : decode cX8_put 69 = .ok (.bipush 80, 2) := by decide +kernel
theorem dX8_put_71 : decode cX8_put 71 = .ok (.if_icmp .le 6, 3) := by decide +kernel
theorem dX8_put_74 : decode cX8_put 74 = .ok (.bipush (-4), 2) := by decide +kernel
theorem dX8_put_76 : decode cX8_put 76 = .ok (.ireturn, 1) := by decide +kernel
theorem dX8_put_77 : decode cX8_put 77 = .ok (.lload_n 1, 1) := by decide +kernel
theorem dX8_put_78 : decode cX8_put 78 = .ok (.lstore 4, 2) := by decide +kernel
theorem dX8_put_80 : decode cX8_put 80 = .ok (.iload_n 3, 1) := by decide +kernel
theorem dX8_put_81 : decode cX8_put 81 = .ok (.iconst 1, 1) := by decide +kernel
theorem dX8_put_82 : decode cX8_put 82 = .ok (.isub, 1) := by decide +kernel
theorem dX8_put_83 : decode cX8_put 83 = .ok (.istore 6, 2) := by decide +kernel
theorem dX8_put_85 : decode cX8_put 85 = .ok (.iload 6, 2) := by decide +kernel
theorem dX8_put_87 : decode cX8_put 87 = .ok (.ifCond .lt 35, 3) := by decide +kernel
theorem dX8_put_90 : decode cX8_put 90 = .ok (.aload_n 0, 1) := by decide +kernel
theorem dX8_put_91 : decode cX8_put 91 = .ok (.getfield 23, 3) := by decide +kernel
theorem dX8_put_94 : decode cX8_put 94 = .ok (.aload_n 0, 1) := by decide +kernel
theorem dX8_put_95 : decode cX8_put 95 = .ok (.getfield 86, 3) := by decide +kernel
theorem dX8_put_98 : decode cX8_put 98 = .ok (.iload 6, 2) := by decide +kernel
theorem dX8_put_100 : decode cX8_put 100 = .ok (.iadd, 1) := by decide +kernel
theorem dX8_put_101 : decode cX8_put 101 = .ok (.lload 4, 2) := by decide +kernel
theorem dX8_put_103 : decode cX8_put 103 = .ok (.ldc2_w 120, 3) := by decide +kernel
theorem dX8_put_106 : decode cX8_put 106 = .ok (.land, 1) := by decide +kernel
theorem dX8_put_107 : decode cX8_put 107 = .ok (.l2i, 1) := by decide +kernel
theorem dX8_put_108 : decode cX8_put 108 = .ok (.iastore, 1) := by decide +kernel
theorem dX8_put_109 : decode cX8_put 109 = .ok (.lload 4, 2) := by decide +kernel
theorem dX8_put_111 : decode cX8_put 111 = .ok (.bipush 8, 2) := by decide +kernel
theorem dX8_put_113 : decode cX8_put 113 = .ok (.lushr, 1) := by decide +kernel
theorem dX8_put_114 : decode cX8_put 114 = .ok (.lstore 4, 2) := by decide +kernel
theorem dX8_put_116 : decode cX8_put 116 = .ok (.iinc 6 (-1), 3) := by decide +kernel
theorem dX8_put_119 : decode cX8_put 119 = .ok (.goto (-34), 3) := by decide +kernel
theorem dX8_put_122 : decode cX8_put 122 = .ok (.aload_n 0, 1) := by decide +kernel
theorem dX8_put_123 : decode cX8_put 123 = .ok (.dup, 1) := by decide +kernel
theorem dX8_put_124 : decode cX8_put 124 = .ok (.getfield 86, 3) := by decide +kernel
theorem dX8_put_127 : decode cX8_put 127 = .ok (.iload_n 3, 1) := by decide +kernel
theorem dX8_put_128 : decode cX8_put 128 = .ok (.iadd, 1) := by decide +kernel
theorem dX8_put_129 : decode cX8_put 129 = .ok (.putfield 86, 3) := by decide +kernel
theorem dX8_put_132 : decode cX8_put 132 = .ok (.aload_n 0, 1) := by decide +kernel
theorem dX8_put_133 : decode cX8_put 133 = .ok (.getfield 86, 3) := by decide +kernel
theorem dX8_put_136 : decode cX8_put 136 = .ok (.ireturn, 1) := by decide +kernel
theorem dX8_wipe_0 : decode cX8_wipe 0 = .ok (.aload_n 0, 1) := by decide +kernel
theorem dX8_wipe_1 : decode cX8_wipe 1 = .ok (.getfield 86, 3) := by decide +kernel
theorem dX8_wipe_4 : decode cX8_wipe 4 = .ok (.istore_n 1, 1) := by decide +kernel
theorem dX8_wipe_5 : decode cX8_wipe 5 = .ok (.aload_n 0, 1) := by decide +kernel
theorem dX8_wipe_6 : decode cX8_wipe 6 = .ok (.iconst 0, 1) := by decide +kernel
theorem dX8_wipe_7 : decode cX8_wipe 7 = .ok (.putfield 86, 3) := by decide +kernel
theorem dX8_wipe_10 : decode cX8_wipe 10 = .ok (.iload_n 1, 1) := by decide +kernel
theorem dX8_wipe_11 : decode cX8_wipe 11 = .ok (.ireturn, 1) := by decide +kernel
theorem dX8_fault_0 : decode cX8_fault 0 = .ok (.aload_n 0, 1) := by decide +kernel
theorem dX8_fault_1 : decode cX8_fault 1 = .ok (.invokevirtual 122, 3) := by decide +kernel
theorem dX8_fault_4 : decode cX8_fault 4 = .ok (.ireturn, 1) := by decide +kernel
theorem dX8_program_0 : decode cX8_program 0 = .ok (.iload_n 1, 1) := by decide +kernel
theorem dX8_program_1 : decode cX8_program 1 = .ok (.invokestatic 79, 3) := by decide +kernel
theorem dX8_program_4 : decode cX8_program 4 = .ok (.ifCond .ne 5, 3) := by decide +kernel
theorem dX8_program_7 : decode cX8_program 7 = .ok (.iconst (-1), 1) := by decide +kernel
theorem dX8_program_8 : decode cX8_program 8 = .ok (.ireturn, 1) := by decide +kernel
theorem dX8_program_9 : decode cX8_program 9 = .ok (.aload_n 0, 1) := by decide +kernel
theorem dX8_program_10 : decode cX8_program 10 = .ok (.invokevirtual 122, 3) := by decide +kernel
theorem dX8_program_13 : decode cX8_program 13 = .ok (.bipush (-6), 2) := by decide +kernel
theorem dX8_program_15 : decode cX8_program 15 = .ok (.if_icmp .eq 6, 3) := by decide +kernel
theorem dX8_program_18 : decode cX8_program 18 = .ok (.bipush (-3), 2) := by decide +kernel
theorem dX8_program_20 : decode cX8_program 20 = .ok (.ireturn, 1) := by decide +kernel
theorem dX8_program_21 : decode cX8_program 21 = .ok (.aload_n 0, 1) := by decide +kernel
theorem dX8_program_22 : decode cX8_program 22 = .ok (.getfield 97, 3) := by decide +kernel
theorem dX8_program_25 : decode cX8_program 25 = .ok (.bipush 12, 2) := by decide +kernel
theorem dX8_program_27 : decode cX8_program 27 = .ok (.if_icmp .le 6, 3) := by decide +kernel
theorem dX8_program_30 : decode cX8_program 30 = .ok (.bipush (-4), 2) := by decide +kernel
theorem dX8_program_32 : decode cX8_program 32 = .ok (.ireturn, 1) := by decide +kernel
theorem dX8_program_33 : decode cX8_program 33 = .ok (.aload_n 0, 1) := by decide +kernel
theorem dX8_program_34 : decode cX8_program 34 = .ok (.invokevirtual 76, 3) := by decide +kernel
theorem dX8_program_37 : decode cX8_program 37 = .ok (.aload_n 0, 1) := by decide +kernel
theorem dX8_program_38 : decode cX8_program 38 = .ok (.getfield 7, 3) := by decide +kernel
theorem dX8_program_41 : decode cX8_program 41 = .ok (.bipush 10, 2) := by decide +kernel
theorem dX8_program_43 : decode cX8_program 43 = .ok (.bipush 100, 2) := by decide +kernel
theorem dX8_program_45 : decode cX8_program 45 = .ok (.iload_n 1, 1) := by decide +kernel
theorem dX8_program_46 : decode cX8_program 46 = .ok (.imul, 1) := by decide +kernel
theorem dX8_program_47 : decode cX8_program 47 = .ok (.iadd, 1) := by decide +kernel
theorem dX8_program_48 : decode cX8_program 48 = .ok (.aload_n 0, 1) := by decide +kernel
theorem dX8_program_49 : decode cX8_program 49 = .ok (.getfield 97, 3) := by decide +kernel
theorem dX8_program_52 : decode cX8_program 52 = .ok (.iastore, 1) := by decide +kernel
theorem dX8_program_53 : decode cX8_program 53 = .ok (.iconst 0, 1) := by decide +kernel
theorem dX8_program_54 : decode cX8_program 54 = .ok (.istore_n 2, 1) := by decide +kernel
theorem dX8_program_55 : decode cX8_program 55 = .ok (.iload_n 2, 1) := by decide +kernel
theorem dX8_program_56 : decode cX8_program 56 = .ok (.iconst 5, 1) := by decide +kernel
theorem dX8_program_57 : decode cX8_program 57 = .ok (.aload_n 0, 1) := by decide +kernel
theorem dX8_program_58 : decode cX8_program 58 = .ok (.getfield 97, 3) := by decide +kernel
theorem dX8_program_61 : decode cX8_program 61 = .ok (.imul, 1) := by decide +kernel
theorem dX8_program_62 : decode cX8_program 62 = .ok (.if_icmp .ge 31, 3) := by decide +kernel
theorem dX8_program_65 : decode cX8_program 65 = .ok (.aload_n 0, 1) := by decide +kernel
theorem dX8_program_66 : decode cX8_program 66 = .ok (.getfield 7, 3) := by decide +kernel
theorem dX8_program_69 : decode cX8_program 69 = .ok (.bipush 10, 2) := by decide +kernel
theorem dX8_program_71 : decode cX8_program 71 = .ok (.bipush 100, 2) := by decide +kernel
theorem dX8_program_73 : decode cX8_program 73 = .ok (.iload_n 1, 1) := by decide +kernel
theorem dX8_program_74 : decode cX8_program 74 = .ok (.imul, 1) := by decide +kernel
theorem dX8_program_75 : decode cX8_program 75 = .ok (.iadd, 1) := by decide +kernel
theorem dX8_program_76 : decode cX8_program 76 = .ok (.iconst 1, 1) := by decide +kernel
theorem dX8_program_77 : decode cX8_program 77 = .ok (.iadd, 1) := by decide +kernel
theorem dX8_program_78 : decode cX8_program 78 = .ok (.iload_n 2, 1) := by decide +kernel
theorem dX8_program_79 : decode cX8_program 79 = .ok (.iadd, 1) := by decide +kernel
theorem dX8_program_80 : decode cX8_program 80 = .ok (.aload_n 0, 1) := by decide +kernel
theorem dX8_program_81 : decode cX8_program 81 = .ok (.getfield 26, 3) := by decide +kernel
theorem dX8_program_84 : decode cX8_program 84 = .ok (.iload_n 2, 1) := by decide +kernel
theorem dX8_program_85 : decode cX8_program 85 = .ok (.iaload, 1) := by decide +kernel
theorem dX8_program_86 : decode cX8_program 86 = .ok (.iastore, 1) := by decide +kernel
theorem dX8_program_87 : decode cX8_program 87 = .ok (.iinc 2 1, 3) := by decide +kernel
theorem dX8_program_90 : decode cX8_program 90 = .ok (.goto (-35), 3) := by decide +kernel
theorem dX8_program_93 : decode cX8_program 93 = .ok (.aload_n 0, 1) := by decide +kernel
theorem dX8_program_94 : decode cX8_program 94 = .ok (.iconst 0, 1) := by decide +kernel
theorem dX8_program_95 : decode cX8_program 95 = .ok (.putfield 86, 3) := by decide +kernel
theorem dX8_program_98 : decode cX8_program 98 = .ok (.aload_n 0, 1) := by decide +kernel
theorem dX8_program_99 : decode cX8_program 99 = .ok (.getfield 97, 3) := by decide +kernel
theorem dX8_program_102 : decode cX8_program 102 = .ok (.ireturn, 1) := by decide +kernel
theorem dX8_many_0 : decode cX8_many 0 = .ok (.aload_n 0, 1) := by decide +kernel
theorem dX8_many_1 : decode cX8_many 1 = .ok (.getfield 7, 3) := by decide +kernel
theorem dX8_many_4 : decode cX8_many 4 = .ok (.bipush 10, 2) := by decide +kernel
theorem dX8_many_6 : decode cX8_many 6 = .ok (.bipush 100, 2) := by decide +kernel
theorem dX8_many_8 : decode cX8_many 8 = .ok (.iload_n 1, 1) := by decide +kernel
theorem dX8_many_9 : decode cX8_many 9 = .ok (.imul, 1) := by decide +kernel
theorem dX8_many_10 : decode cX8_many 10 = .ok (.iadd, 1) := by decide +kernel
theorem dX8_many_11 : decode cX8_many 11 = .ok (.iaload, 1) := by decide +kernel
theorem dX8_many_12 : decode cX8_many 12 = .ok (.ireturn, 1) := by decide +kernel
theorem dX8_of_0 : decode cX8_of 0 = .ok (.aload_n 0, 1) := by decide +kernel
theorem dX8_of_1 : decode cX8_of 1 = .ok (.getfield 7, 3) := by decide +kernel
theorem dX8_of_4 : decode cX8_of 4 = .ok (.bipush 10, 2) := by decide +kernel
theorem dX8_of_6 : decode cX8_of 6 = .ok (.bipush 100, 2) := by decide +kernel
theorem dX8_of_8 : decode cX8_of 8 = .ok (.iload_n 1, 1) := by decide +kernel
theorem dX8_of_9 : decode cX8_of 9 = .ok (.imul, 1) := by decide +kernel
theorem dX8_of_10 : decode cX8_of 10 = .ok (.iadd, 1) := by decide +kernel
theorem dX8_of_11 : decode cX8_of 11 = .ok (.iconst 1, 1) := by decide +kernel
theorem dX8_of_12 : decode cX8_of 12 = .ok (.iadd, 1) := by decide +kernel
theorem dX8_of_13 : decode cX8_of 13 = .ok (.iconst 5, 1) := by decide +kernel
theorem dX8_of_14 : decode cX8_of 14 = .ok (.iload_n 2, 1) := by decide +kernel
theorem dX8_of_15 : decode cX8_of 15 = .ok (.imul, 1) := by decide +kernel
theorem dX8_of_16 : decode cX8_of 16 = .ok (.iadd, 1) := by decide +kernel
theorem dX8_of_17 : decode cX8_of 17 = .ok (.iload_n 3, 1) := by decide +kernel
theorem dX8_of_18 : decode cX8_of 18 = .ok (.iadd, 1) := by decide +kernel
theorem dX8_of_19 : decode cX8_of 19 = .ok (.iaload, 1) := by decide +kernel
theorem dX8_of_20 : decode cX8_of 20 = .ok (.ireturn, 1) := by decide +kernel
theorem dX8_drop_0 : decode cX8_drop 0 = .ok (.iload_n 1, 1) := by decide +kernel
theorem dX8_drop_1 : decode cX8_drop 1 = .ok (.invokestatic 79, 3) := by decide +kernel
theorem dX8_drop_4 : decode cX8_drop 4 = .ok (.ifCond .ne 5, 3) := by decide +kernel
theorem dX8_drop_7 : decode cX8_drop 7 = .ok (.iconst (-1), 1) := by decide +kernel
theorem dX8_drop_8 : decode cX8_drop 8 = .ok (.ireturn, 1) := by decide +kernel
theorem dX8_drop_9 : decode cX8_drop 9 = .ok (.aload_n 0, 1) := by decide +kernel
theorem dX8_drop_10 : decode cX8_drop 10 = .ok (.invokevirtual 76, 3) := by decide +kernel
theorem dX8_drop_13 : decode cX8_drop 13 = .ok (.aload_n 0, 1) := by decide +kernel
theorem dX8_drop_14 : decode cX8_drop 14 = .ok (.iload_n 1, 1) := by decide +kernel
theorem dX8_drop_15 : decode cX8_drop 15 = .ok (.invokevirtual 125, 3) := by decide +kernel
theorem dX8_drop_18 : decode cX8_drop 18 = .ok (.istore_n 2, 1) := by decide +kernel
theorem dX8_drop_19 : decode cX8_drop 19 = .ok (.aload_n 0, 1) := by decide +kernel
theorem dX8_drop_20 : decode cX8_drop 20 = .ok (.getfield 7, 3) := by decide +kernel
theorem dX8_drop_23 : decode cX8_drop 23 = .ok (.bipush 10, 2) := by decide +kernel
theorem dX8_drop_25 : decode cX8_drop 25 = .ok (.bipush 100, 2) := by decide +kernel
theorem dX8_drop_27 : decode cX8_drop 27 = .ok (.iload_n 1, 1) := by decide +kernel
theorem dX8_drop_28 : decode cX8_drop 28 = .ok (.imul, 1) := by decide +kernel
theorem dX8_drop_29 : decode cX8_drop 29 = .ok (.iadd, 1) := by decide +kernel
theorem dX8_drop_30 : decode cX8_drop 30 = .ok (.iconst 0, 1) := by decide +kernel
theorem dX8_drop_31 : decode cX8_drop 31 = .ok (.iastore, 1) := by decide +kernel
theorem dX8_drop_32 : decode cX8_drop 32 = .ok (.iload_n 2, 1) := by decide +kernel
theorem dX8_drop_33 : decode cX8_drop 33 = .ok (.ireturn, 1) := by decide +kernel
theorem dX8_exchange_0 : decode cX8_exchange 0 = .ok (.aload_n 0, 1) := by decide +kernel
theorem dX8_exchange_1 : decode cX8_exchange 1 = .ok (.invokevirtual 76, 3) := by decide +kernel
theorem dX8_exchange_4 : decode cX8_exchange 4 = .ok (.bipush 10, 2) := by decide +kernel
theorem dX8_exchange_6 : decode cX8_exchange 6 = .ok (.istore_n 1, 1) := by decide +kernel
theorem dX8_exchange_7 : decode cX8_exchange 7 = .ok (.iload_n 1, 1) := by decide +kernel
theorem dX8_exchange_8 : decode cX8_exchange 8 = .ok (.bipush 110, 2) := by decide +kernel
theorem dX8_exchange_10 : decode cX8_exchange 10 = .ok (.if_icmp .ge 41, 3) := by decide +kernel
theorem dX8_exchange_13 : decode cX8_exchange 13 = .ok (.aload_n 0, 1) := by decide +kernel
theorem dX8_exchange_14 : decode cX8_exchange 14 = .ok (.getfield 7, 3) := by decide +kernel
theorem dX8_exchange_17 : decode cX8_exchange 17 = .ok (.iload_n 1, 1) := by decide +kernel
theorem dX8_exchange_18 : decode cX8_exchange 18 = .ok (.iaload, 1) := by decide +kernel
theorem dX8_exchange_19 : decode cX8_exchange 19 = .ok (.istore_n 2, 1) := by decide +kernel
theorem dX8_exchange_20 : decode cX8_exchange 20 = .ok (.aload_n 0, 1) := by decide +kernel
theorem dX8_exchange_21 : decode cX8_exchange 21 = .ok (.getfield 7, 3) := by decide +kernel
theorem dX8_exchange_24 : decode cX8_exchange 24 = .ok (.iload_n 1, 1) := by decide +kernel
theorem dX8_exchange_25 : decode cX8_exchange 25 = .ok (.aload_n 0, 1) := by decide +kernel
theorem dX8_exchange_26 : decode cX8_exchange 26 = .ok (.getfield 7, 3) := by decide +kernel
theorem dX8_exchange_29 : decode cX8_exchange 29 = .ok (.iload_n 1, 1) := by decide +kernel
theorem dX8_exchange_30 : decode cX8_exchange 30 = .ok (.bipush 100, 2) := by decide +kernel
theorem dX8_exchange_32 : decode cX8_exchange 32 = .ok (.iadd, 1) := by decide +kernel
theorem dX8_exchange_33 : decode cX8_exchange 33 = .ok (.iaload, 1) := by decide +kernel
theorem dX8_exchange_34 : decode cX8_exchange 34 = .ok (.iastore, 1) := by decide +kernel
theorem dX8_exchange_35 : decode cX8_exchange 35 = .ok (.aload_n 0, 1) := by decide +kernel
theorem dX8_exchange_36 : decode cX8_exchange 36 = .ok (.getfield 7, 3) := by decide +kernel
theorem dX8_exchange_39 : decode cX8_exchange 39 = .ok (.iload_n 1, 1) := by decide +kernel
theorem dX8_exchange_40 : decode cX8_exchange 40 = .ok (.bipush 100, 2) := by decide +kernel
theorem dX8_exchange_42 : decode cX8_exchange 42 = .ok (.iadd, 1) := by decide +kernel
theorem dX8_exchange_43 : decode cX8_exchange 43 = .ok (.iload_n 2, 1) := by decide +kernel
theorem dX8_exchange_44 : decode cX8_exchange 44 = .ok (.iastore, 1) := by decide +kernel
theorem dX8_exchange_45 : decode cX8_exchange 45 = .ok (.iinc 1 1, 3) := by decide +kernel
theorem dX8_exchange_48 : decode cX8_exchange 48 = .ok (.goto (-41), 3) := by decide +kernel
theorem dX8_exchange_51 : decode cX8_exchange 51 = .ok (.aload_n 0, 1) := by decide +kernel
theorem dX8_exchange_52 : decode cX8_exchange 52 = .ok (.invokevirtual 129, 3) := by decide +kernel
theorem dX8_exchange_55 : decode cX8_exchange 55 = .ok (.ireturn, 1) := by decide +kernel
theorem dX8_ofOrder_0 : decode cX8_ofOrder 0 = .ok (.iload_n 1, 1) := by decide +kernel
theorem dX8_ofOrder_1 : decode cX8_ofOrder 1 = .ok (.invokestatic 79, 3) := by decide +kernel
theorem dX8_ofOrder_4 : decode cX8_ofOrder 4 = .ok (.ifCond .eq 18, 3) := by decide +kernel
theorem dX8_ofOrder_7 : decode cX8_ofOrder 7 = .ok (.iload_n 2, 1) := by decide +kernel
theorem dX8_ofOrder_8 : decode cX8_ofOrder 8 = .ok (.iconst 0, 1) := by decide +kernel
theorem dX8_ofOrder_9 : decode cX8_ofOrder 9 = .ok (.aload_n 0, 1) := by decide +kernel
theorem dX8_ofOrder_10 : decode cX8_ofOrder 10 = .ok (.iload_n 1, 1) := by decide +kernel
theorem dX8_ofOrder_11 : decode cX8_ofOrder 11 = .ok (.invokevirtual 125, 3) := by decide +kernel
theorem dX8_ofOrder_14 : decode cX8_ofOrder 14 = .ok (.iconst 1, 1) := by decide +kernel
theorem dX8_ofOrder_15 : decode cX8_ofOrder 15 = .ok (.isub, 1) := by decide +kernel
theorem dX8_ofOrder_16 : decode cX8_ofOrder 16 = .ok (.invokestatic 72, 3) := by decide +kernel
theorem dX8_ofOrder_19 : decode cX8_ofOrder 19 = .ok (.ifCond .ne 5, 3) := by decide +kernel
theorem dX8_ofOrder_22 : decode cX8_ofOrder 22 = .ok (.iconst (-1), 1) := by decide +kernel
theorem dX8_ofOrder_23 : decode cX8_ofOrder 23 = .ok (.ireturn, 1) := by decide +kernel
theorem dX8_ofOrder_24 : decode cX8_ofOrder 24 = .ok (.iload_n 3, 1) := by decide +kernel
theorem dX8_ofOrder_25 : decode cX8_ofOrder 25 = .ok (.iconst 0, 1) := by decide +kernel
theorem dX8_ofOrder_26 : decode cX8_ofOrder 26 = .ok (.iconst 4, 1) := by decide +kernel
theorem dX8_ofOrder_27 : decode cX8_ofOrder 27 = .ok (.invokestatic 72, 3) := by decide +kernel
theorem dX8_ofOrder_30 : decode cX8_ofOrder 30 = .ok (.ifCond .eq 13, 3) := by decide +kernel
theorem dX8_ofOrder_33 : decode cX8_ofOrder 33 = .ok (.aload_n 0, 1) := by decide +kernel
theorem dX8_ofOrder_34 : decode cX8_ofOrder 34 = .ok (.iload_n 1, 1) := by decide +kernel
theorem dX8_ofOrder_35 : decode cX8_ofOrder 35 = .ok (.iload_n 2, 1) := by decide +kernel
theorem dX8_ofOrder_36 : decode cX8_ofOrder 36 = .ok (.iload_n 3, 1) := by decide +kernel
theorem dX8_ofOrder_37 : decode cX8_ofOrder 37 = .ok (.invokevirtual 132, 3) := by decide +kernel
theorem dX8_ofOrder_40 : decode cX8_ofOrder 40 = .ok (.goto 5, 3) := by decide +kernel
theorem dX8_ofOrder_43 : decode cX8_ofOrder 43 = .ok (.bipush (-2), 2) := by decide +kernel
theorem dX8_ofOrder_45 : decode cX8_ofOrder 45 = .ok (.ireturn, 1) := by decide +kernel
theorem dX8_isOpen_0 : decode cX8_isOpen 0 = .ok (.aload_n 0, 1) := by decide +kernel
theorem dX8_isOpen_1 : decode cX8_isOpen 1 = .ok (.getfield 50, 3) := by decide +kernel
theorem dX8_isOpen_4 : decode cX8_isOpen 4 = .ok (.iload_n 1, 1) := by decide +kernel
theorem dX8_isOpen_5 : decode cX8_isOpen 5 = .ok (.iaload, 1) := by decide +kernel
theorem dX8_isOpen_6 : decode cX8_isOpen 6 = .ok (.iconst 0, 1) := by decide +kernel
theorem dX8_isOpen_7 : decode cX8_isOpen 7 = .ok (.aload_n 0, 1) := by decide +kernel
theorem dX8_isOpen_8 : decode cX8_isOpen 8 = .ok (.iload_n 1, 1) := by decide +kernel
theorem dX8_isOpen_9 : decode cX8_isOpen 9 = .ok (.invokevirtual 125, 3) := by decide +kernel
theorem dX8_isOpen_12 : decode cX8_isOpen 12 = .ok (.iconst 1, 1) := by decide +kernel
theorem dX8_isOpen_13 : decode cX8_isOpen 13 = .ok (.isub, 1) := by decide +kernel
theorem dX8_isOpen_14 : decode cX8_isOpen 14 = .ok (.invokestatic 72, 3) := by decide +kernel
theorem dX8_isOpen_17 : decode cX8_isOpen 17 = .ok (.ifCond .eq 18, 3) := by decide +kernel
theorem dX8_isOpen_20 : decode cX8_isOpen 20 = .ok (.aload_n 0, 1) := by decide +kernel
theorem dX8_isOpen_21 : decode cX8_isOpen 21 = .ok (.getfield 47, 3) := by decide +kernel
theorem dX8_isOpen_24 : decode cX8_isOpen 24 = .ok (.iload_n 1, 1) := by decide +kernel
theorem dX8_isOpen_25 : decode cX8_isOpen 25 = .ok (.iaload, 1) := by decide +kernel
theorem dX8_isOpen_26 : decode cX8_isOpen 26 = .ok (.bipush 100, 2) := by decide +kernel
theorem dX8_isOpen_28 : decode cX8_isOpen 28 = .ok (.if_icmp .ge 7, 3) := by decide +kernel
theorem dX8_isOpen_31 : decode cX8_isOpen 31 = .ok (.iconst 1, 1) := by decide +kernel
theorem dX8_isOpen_32 : decode cX8_isOpen 32 = .ok (.goto 4, 3) := by decide +kernel
theorem dX8_isOpen_35 : decode cX8_isOpen 35 = .ok (.iconst 0, 1) := by decide +kernel
theorem dX8_isOpen_36 : decode cX8_isOpen 36 = .ok (.ireturn, 1) := by decide +kernel
theorem dX8_roomOf_0 : decode cX8_roomOf 0 = .ok (.iload_n 0, 1) := by decide +kernel
theorem dX8_roomOf_1 : decode cX8_roomOf 1 = .ok (.iconst 3, 1) := by decide +kernel
theorem dX8_roomOf_2 : decode cX8_roomOf 2 = .ok (.if_icmp .ne 7, 3) := by decide +kernel
theorem dX8_roomOf_5 : decode cX8_roomOf 5 = .ok (.iconst 0, 1) := by decide +kernel
theorem dX8_roomOf_6 : decode cX8_roomOf 6 = .ok (.goto 19, 3) := by decide +kernel
theorem dX8_roomOf_9 : decode cX8_roomOf 9 = .ok (.iload_n 0, 1) := by decide +kernel
theorem dX8_roomOf_10 : decode cX8_roomOf 10 = .ok (.iconst 4, 1) := by decide +kernel
theorem dX8_roomOf_11 : decode cX8_roomOf 11 = .ok (.if_icmp .eq 8, 3) := by decide +kernel
theorem dX8_roomOf_14 : decode cX8_roomOf 14 = .ok (.iload_n 0, 1) := by decide +kernel
theorem dX8_roomOf_15 : decode cX8_roomOf 15 = .ok (.iconst 5, 1) := by decide +kernel
theorem dX8_roomOf_16 : decode cX8_roomOf 16 = .ok (.if_icmp .ne 7, 3) := by decide +kernel
theorem dX8_roomOf_19 : decode cX8_roomOf 19 = .ok (.iconst 1, 1) := by decide +kernel
theorem dX8_roomOf_20 : decode cX8_roomOf 20 = .ok (.goto 5, 3) := by decide +kernel
theorem dX8_roomOf_23 : decode cX8_roomOf 23 = .ok (.bipush (-6), 2) := by decide +kernel
theorem dX8_roomOf_25 : decode cX8_roomOf 25 = .ok (.ireturn, 1) := by decide +kernel
theorem dX8_isReady_0 : decode cX8_isReady 0 = .ok (.aload_n 0, 1) := by decide +kernel
theorem dX8_isReady_1 : decode cX8_isReady 1 = .ok (.getfield 47, 3) := by decide +kernel
theorem dX8_isReady_4 : decode cX8_isReady 4 = .ok (.iload_n 1, 1) := by decide +kernel
theorem dX8_isReady_5 : decode cX8_isReady 5 = .ok (.iaload, 1) := by decide +kernel
theorem dX8_isReady_6 : decode cX8_isReady 6 = .ok (.istore_n 3, 1) := by decide +kernel
theorem dX8_isReady_7 : decode cX8_isReady 7 = .ok (.iload_n 3, 1) := by decide +kernel
theorem dX8_isReady_8 : decode cX8_isReady 8 = .ok (.ifCond .eq 44, 3) := by decide +kernel
theorem dX8_isReady_11 : decode cX8_isReady 11 = .ok (.aload_n 0, 1) := by decide +kernel
theorem dX8_isReady_12 : decode cX8_isReady 12 = .ok (.iload_n 1, 1) := by decide +kernel
theorem dX8_isReady_13 : decode cX8_isReady 13 = .ok (.aload_n 0, 1) := by decide +kernel
theorem dX8_isReady_14 : decode cX8_isReady 14 = .ok (.getfield 38, 3) := by decide +kernel
theorem dX8_isReady_17 : decode cX8_isReady 17 = .ok (.bipush 100, 2) := by decide +kernel
theorem dX8_isReady_19 : decode cX8_isReady 19 = .ok (.iload_n 1, 1) := by decide +kernel
theorem dX8_isReady_20 : decode cX8_isReady 20 = .ok (.imul, 1) := by decide +kernel
theorem dX8_isReady_21 : decode cX8_isReady 21 = .ok (.iload_n 3, 1) := by decide +kernel
theorem dX8_isReady_22 : decode cX8_isReady 22 = .ok (.iadd, 1) := by decide +kernel
theorem dX8_isReady_23 : decode cX8_isReady 23 = .ok (.iconst 1, 1) := by decide +kernel
theorem dX8_isReady_24 : decode cX8_isReady 24 = .ok (.isub, 1) := by decide +kernel
theorem dX8_isReady_25 : decode cX8_isReady 25 = .ok (.iaload, 1) := by decide +kernel
theorem dX8_isReady_26 : decode cX8_isReady 26 = .ok (.iconst 0, 1) := by decide +kernel
theorem dX8_isReady_27 : decode cX8_isReady 27 = .ok (.invokevirtual 132, 3) := by decide +kernel
theorem dX8_isReady_30 : decode cX8_isReady 30 = .ok (.bipush 6, 2) := by decide +kernel
theorem dX8_isReady_32 : decode cX8_isReady 32 = .ok (.if_icmp .ne 20, 3) := by decide +kernel
theorem dX8_isReady_35 : decode cX8_isReady 35 = .ok (.aload_n 0, 1) := by decide +kernel
theorem dX8_isReady_36 : decode cX8_isReady 36 = .ok (.getfield 41, 3) := by decide +kernel
theorem dX8_isReady_39 : decode cX8_isReady 39 = .ok (.bipush 100, 2) := by decide +kernel
theorem dX8_isReady_41 : decode cX8_isReady 41 = .ok (.iload_n 1, 1) := by decide +kernel
theorem dX8_isReady_42 : decode cX8_isReady 42 = .ok (.imul, 1) := by decide +kernel
theorem dX8_isReady_43 : decode cX8_isReady 43 = .ok (.iload_n 3, 1) := by decide +kernel
theorem dX8_isReady_44 : decode cX8_isReady 44 = .ok (.iadd, 1) := by decide +kernel
theorem dX8_isReady_45 : decode cX8_isReady 45 = .ok (.iconst 1, 1) := by decide +kernel
theorem dX8_isReady_46 : decode cX8_isReady 46 = .ok (.isub, 1) := by decide +kernel
theorem dX8_isReady_47 : decode cX8_isReady 47 = .ok (.iaload, 1) := by decide +kernel
theorem dX8_isReady_48 : decode cX8_isReady 48 = .ok (.iload_n 2, 1) := by decide +kernel
theorem dX8_isReady_49 : decode cX8_isReady 49 = .ok (.if_icmp .gt 7, 3) := by decide +kernel
theorem dX8_isReady_52 : decode cX8_isReady 52 = .ok (.iconst 1, 1) := by decide +kernel
theorem dX8_isReady_53 : decode cX8_isReady 53 = .ok (.goto 4, 3) := by decide +kernel
theorem dX8_isReady_56 : decode cX8_isReady 56 = .ok (.iconst 0, 1) := by decide +kernel
theorem dX8_isReady_57 : decode cX8_isReady 57 = .ok (.istore 4, 2) := by decide +kernel
theorem dX8_isReady_59 : decode cX8_isReady 59 = .ok (.iconst 1, 1) := by decide +kernel
theorem dX8_isReady_60 : decode cX8_isReady 60 = .ok (.istore 5, 2) := by decide +kernel
theorem dX8_isReady_62 : decode cX8_isReady 62 = .ok (.iload 5, 2) := by decide +kernel
theorem dX8_isReady_64 : decode cX8_isReady 64 = .ok (.iconst 4, 1) := by decide +kernel
theorem dX8_isReady_65 : decode cX8_isReady 65 = .ok (.if_icmp .ge 56, 3) := by decide +kernel
theorem dX8_isReady_68 : decode cX8_isReady 68 = .ok (.aload_n 0, 1) := by decide +kernel
theorem dX8_isReady_69 : decode cX8_isReady 69 = .ok (.iload_n 1, 1) := by decide +kernel
theorem dX8_isReady_70 : decode cX8_isReady 70 = .ok (.aload_n 0, 1) := by decide +kernel
theorem dX8_isReady_71 : decode cX8_isReady 71 = .ok (.getfield 50, 3) := by decide +kernel
theorem dX8_isReady_74 : decode cX8_isReady 74 = .ok (.iload_n 1, 1) := by decide +kernel
theorem dX8_isReady_75 : decode cX8_isReady 75 = .ok (.iaload, 1) := by decide +kernel
theorem dX8_isReady_76 : decode cX8_isReady 76 = .ok (.iload 5, 2) := by decide +kernel
theorem dX8_isReady_78 : decode cX8_isReady 78 = .ok (.invokevirtual 132, 3) := by decide +kernel
theorem dX8_isReady_81 : decode cX8_isReady 81 = .ok (.istore 6, 2) := by decide +kernel
theorem dX8_isReady_83 : decode cX8_isReady 83 = .ok (.iload 4, 2) := by decide +kernel
theorem dX8_isReady_85 : decode cX8_isReady 85 = .ok (.ifCond .eq 27, 3) := by decide +kernel
theorem dX8_isReady_88 : decode cX8_isReady 88 = .ok (.iload 6, 2) := by decide +kernel
theorem dX8_isReady_90 : decode cX8_isReady 90 = .ok (.ifCond .lt 18, 3) := by decide +kernel
theorem dX8_isReady_93 : decode cX8_isReady 93 = .ok (.aload_n 0, 1) := by decide +kernel
theorem dX8_isReady_94 : decode cX8_isReady 94 = .ok (.getfield 32, 3) := by decide +kernel
theorem dX8_isReady_97 : decode cX8_isReady 97 = .ok (.iconst 4, 1) := by decide +kernel
theorem dX8_isReady_98 : decode cX8_isReady 98 = .ok (.iload_n 1, 1) := by decide +kernel
theorem dX8_isReady_99 : decode cX8_isReady 99 = .ok (.imul, 1) := by decide +kernel
theorem dX8_isReady_100 : decode cX8_isReady 100 = .ok (.iload 6, 2) := by decide +kernel
theorem dX8_isReady_102 : decode cX8_isReady 102 = .ok (.iadd, 1) := by decide +kernel
theorem dX8_isReady_103 : decode cX8_isReady 103 = .ok (.iaload, 1) := by decide +kernel
theorem dX8_isReady_104 : decode cX8_isReady 104 = .ok (.iload_n 2, 1) := by decide +kernel
theorem dX8_isReady_105 : decode cX8_isReady 105 = .ok (.if_icmp .gt 7, 3) := by decide +kernel
theorem dX8_isReady_108 : decode cX8_isReady 108 = .ok (.iconst 1, 1) := by decide +kernel
theorem dX8_isReady_109 : decode cX8_isReady 109 = .ok (.goto 4, 3) := by decide +kernel
theorem dX8_isReady_112 : decode cX8_isReady 112 = .ok (.iconst 0, 1) := by decide +kernel
theorem dX8_isReady_113 : decode cX8_isReady 113 = .ok (.istore 4, 2) := by decide +kernel
theorem dX8_isReady_115 : decode cX8_isReady 115 = .ok (.iinc 5 1, 3) := by decide +kernel
theorem dX8_isReady_118 : decode cX8_isReady 118 = .ok (.goto (-56), 3) := by decide +kernel
theorem dX8_isReady_121 : decode cX8_isReady 121 = .ok (.iload 4, 2) := by decide +kernel
theorem dX8_isReady_123 : decode cX8_isReady 123 = .ok (.ireturn, 1) := by decide +kernel
theorem dX8_whyNot_0 : decode cX8_whyNot 0 = .ok (.aload_n 0, 1) := by decide +kernel
theorem dX8_whyNot_1 : decode cX8_whyNot 1 = .ok (.iload_n 1, 1) := by decide +kernel
theorem dX8_whyNot_2 : decode cX8_whyNot 2 = .ok (.aload_n 0, 1) := by decide +kernel
theorem dX8_whyNot_3 : decode cX8_whyNot 3 = .ok (.getfield 50, 3) := by decide +kernel
theorem dX8_whyNot_6 : decode cX8_whyNot 6 = .ok (.iload_n 1, 1) := by decide +kernel
theorem dX8_whyNot_7 : decode cX8_whyNot 7 = .ok (.iaload, 1) := by decide +kernel
theorem dX8_whyNot_8 : decode cX8_whyNot 8 = .ok (.iconst 0, 1) := by decide +kernel
theorem dX8_whyNot_9 : decode cX8_whyNot 9 = .ok (.invokevirtual 132, 3) := by decide +kernel
theorem dX8_whyNot_12 : decode cX8_whyNot 12 = .ok (.invokestatic 136, 3) := by decide +kernel
theorem dX8_whyNot_15 : decode cX8_whyNot 15 = .ok (.istore 4, 2) := by decide +kernel
theorem dX8_whyNot_17 : decode cX8_whyNot 17 = .ok (.aload_n 0, 1) := by decide +kernel
theorem dX8_whyNot_18 : decode cX8_whyNot 18 = .ok (.iload_n 1, 1) := by decide +kernel
theorem dX8_whyNot_19 : decode cX8_whyNot 19 = .ok (.iload_n 2, 1) := by decide +kernel
theorem dX8_whyNot_20 : decode cX8_whyNot 20 = .ok (.invokevirtual 139, 3) := by decide +kernel
theorem dX8_whyNot_23 : decode cX8_whyNot 23 = .ok (.ifCond .ne 5, 3) := by decide +kernel
theorem dX8_whyNot_26 : decode cX8_whyNot 26 = .ok (.iconst 1, 1) := by decide +kernel
theorem dX8_whyNot_27 : decode cX8_whyNot 27 = .ok (.ireturn, 1) := by decide +kernel
theorem dX8_whyNot_28 : decode cX8_whyNot 28 = .ok (.iload 4, 2) := by decide +kernel
theorem dX8_whyNot_30 : decode cX8_whyNot 30 = .ok (.ifCond .lt 37, 3) := by decide +kernel
theorem dX8_whyNot_33 : decode cX8_whyNot 33 = .ok (.iload 4, 2) := by decide +kernel
theorem dX8_whyNot_35 : decode cX8_whyNot 35 = .ok (.iload_n 3, 1) := by decide +kernel
theorem dX8_whyNot_36 : decode cX8_whyNot 36 = .ok (.if_icmp .eq 31, 3) := by decide +kernel
theorem dX8_whyNot_39 : decode cX8_whyNot 39 = .ok (.aload_n 0, 1) := by decide +kernel
theorem dX8_whyNot_40 : decode cX8_whyNot 40 = .ok (.getfield 59, 3) := by decide +kernel
theorem dX8_whyNot_43 : decode cX8_whyNot 43 = .ok (.iload 4, 2) := by decide +kernel
theorem dX8_whyNot_45 : decode cX8_whyNot 45 = .ok (.iaload, 1) := by decide +kernel
theorem dX8_whyNot_46 : decode cX8_whyNot 46 = .ok (.iload_n 2, 1) := by decide +kernel
theorem dX8_whyNot_47 : decode cX8_whyNot 47 = .ok (.if_icmp .le 20, 3) := by decide +kernel
theorem dX8_whyNot_50 : decode cX8_whyNot 50 = .ok (.aload_n 0, 1) := by decide +kernel
theorem dX8_whyNot_51 : decode cX8_whyNot 51 = .ok (.getfield 62, 3) := by decide +kernel
theorem dX8_whyNot_54 : decode cX8_whyNot 54 = .ok (.iload 4, 2) := by decide +kernel
theorem dX8_whyNot_56 : decode cX8_whyNot 56 = .ok (.iaload, 1) := by decide +kernel
theorem dX8_whyNot_57 : decode cX8_whyNot 57 = .ok (.iload_n 1, 1) := by decide +kernel
theorem dX8_whyNot_58 : decode cX8_whyNot 58 = .ok (.if_icmp .ne 7, 3) := by decide +kernel
theorem dX8_whyNot_61 : decode cX8_whyNot 61 = .ok (.iconst 2, 1) := by decide +kernel
theorem dX8_whyNot_62 : decode cX8_whyNot 62 = .ok (.goto 4, 3) := by decide +kernel
theorem dX8_whyNot_65 : decode cX8_whyNot 65 = .ok (.iconst 3, 1) := by decide +kernel
theorem dX8_whyNot_66 : decode cX8_whyNot 66 = .ok (.ireturn, 1) := by decide +kernel
theorem dX8_whyNot_67 : decode cX8_whyNot 67 = .ok (.iconst 0, 1) := by decide +kernel
theorem dX8_whyNot_68 : decode cX8_whyNot 68 = .ok (.ireturn, 1) := by decide +kernel
theorem dX8_latest_0 : decode cX8_latest 0 = .ok (.aload_n 0, 1) := by decide +kernel
theorem dX8_latest_1 : decode cX8_latest 1 = .ok (.getfield 47, 3) := by decide +kernel
theorem dX8_latest_4 : decode cX8_latest 4 = .ok (.iload_n 1, 1) := by decide +kernel
theorem dX8_latest_5 : decode cX8_latest 5 = .ok (.iaload, 1) := by decide +kernel
theorem dX8_latest_6 : decode cX8_latest 6 = .ok (.ifCond .ne 7, 3) := by decide +kernel
theorem dX8_latest_9 : decode cX8_latest 9 = .ok (.iconst (-1), 1) := by decide +kernel
theorem dX8_latest_10 : decode cX8_latest 10 = .ok (.goto 21, 3) := by decide +kernel
theorem dX8_latest_13 : decode cX8_latest 13 = .ok (.aload_n 0, 1) := by decide +kernel
theorem dX8_latest_14 : decode cX8_latest 14 = .ok (.getfield 35, 3) := by decide +kernel
theorem dX8_latest_17 : decode cX8_latest 17 = .ok (.bipush 100, 2) := by decide +kernel
theorem dX8_latest_19 : decode cX8_latest 19 = .ok (.iload_n 1, 1) := by decide +kernel
theorem dX8_latest_20 : decode cX8_latest 20 = .ok (.imul, 1) := by decide +kernel
theorem dX8_latest_21 : decode cX8_latest 21 = .ok (.aload_n 0, 1) := by decide +kernel
theorem dX8_latest_22 : decode cX8_latest 22 = .ok (.getfield 47, 3) := by decide +kernel
theorem dX8_latest_25 : decode cX8_latest 25 = .ok (.iload_n 1, 1) := by decide +kernel
theorem dX8_latest_26 : decode cX8_latest 26 = .ok (.iaload, 1) := by decide +kernel
theorem dX8_latest_27 : decode cX8_latest 27 = .ok (.iadd, 1) := by decide +kernel
theorem dX8_latest_28 : decode cX8_latest 28 = .ok (.iconst 1, 1) := by decide +kernel
theorem dX8_latest_29 : decode cX8_latest 29 = .ok (.isub, 1) := by decide +kernel
theorem dX8_latest_30 : decode cX8_latest 30 = .ok (.iaload, 1) := by decide +kernel
theorem dX8_latest_31 : decode cX8_latest 31 = .ok (.ireturn, 1) := by decide +kernel
theorem dX8_starter_0 : decode cX8_starter 0 = .ok (.iload_n 1, 1) := by decide +kernel
theorem dX8_starter_1 : decode cX8_starter 1 = .ok (.iconst 2, 1) := by decide +kernel
theorem dX8_starter_2 : decode cX8_starter 2 = .ok (.irem, 1) := by decide +kernel
theorem dX8_starter_3 : decode cX8_starter 3 = .ok (.istore 4, 2) := by decide +kernel
theorem dX8_starter_5 : decode cX8_starter 5 = .ok (.iconst 1, 1) := by decide +kernel
theorem dX8_starter_6 : decode cX8_starter 6 = .ok (.iload 4, 2) := by decide +kernel
theorem dX8_starter_8 : decode cX8_starter 8 = .ok (.isub, 1) := by decide +kernel
theorem dX8_starter_9 : decode cX8_starter 9 = .ok (.istore 5, 2) := by decide +kernel
theorem dX8_starter_11 : decode cX8_starter 11 = .ok (.aload_n 0, 1) := by decide +kernel
theorem dX8_starter_12 : decode cX8_starter 12 = .ok (.iload 4, 2) := by decide +kernel
theorem dX8_starter_14 : decode cX8_starter 14 = .ok (.invokevirtual 143, 3) := by decide +kernel
theorem dX8_starter_17 : decode cX8_starter 17 = .ok (.ifCond .eq 18, 3) := by decide +kernel
theorem dX8_starter_20 : decode cX8_starter 20 = .ok (.aload_n 0, 1) := by decide +kernel
theorem dX8_starter_21 : decode cX8_starter 21 = .ok (.iload 4, 2) := by decide +kernel
theorem dX8_starter_23 : decode cX8_starter 23 = .ok (.iload_n 1, 1) := by decide +kernel
theorem dX8_starter_24 : decode cX8_starter 24 = .ok (.iload_n 3, 1) := by decide +kernel
theorem dX8_starter_25 : decode cX8_starter 25 = .ok (.invokevirtual 146, 3) := by decide +kernel
theorem dX8_starter_28 : decode cX8_starter 28 = .ok (.ifCond .ne 7, 3) := by decide +kernel
theorem dX8_starter_31 : decode cX8_starter 31 = .ok (.iconst 1, 1) := by decide +kernel
theorem dX8_starter_32 : decode cX8_starter 32 = .ok (.goto 4, 3) := by decide +kernel
theorem dX8_starter_35 : decode cX8_starter 35 = .ok (.iconst 0, 1) := by decide +kernel
theorem dX8_starter_36 : decode cX8_starter 36 = .ok (.istore 6, 2) := by decide +kernel
theorem dX8_starter_38 : decode cX8_starter 38 = .ok (.aload_n 0, 1) := by decide +kernel
theorem dX8_starter_39 : decode cX8_starter 39 = .ok (.iload 5, 2) := by decide +kernel
theorem dX8_starter_41 : decode cX8_starter 41 = .ok (.invokevirtual 143, 3) := by decide +kernel
theorem dX8_starter_44 : decode cX8_starter 44 = .ok (.ifCond .eq 18, 3) := by decide +kernel
theorem dX8_starter_47 : decode cX8_starter 47 = .ok (.aload_n 0, 1) := by decide +kernel
theorem dX8_starter_48 : decode cX8_starter 48 = .ok (.iload 5, 2) := by decide +kernel
theorem dX8_starter_50 : decode cX8_starter 50 = .ok (.iload_n 1, 1) := by decide +kernel
theorem dX8_starter_51 : decode cX8_starter 51 = .ok (.iload_n 3, 1) := by decide +kernel
theorem dX8_starter_52 : decode cX8_starter 52 = .ok (.invokevirtual 146, 3) := by decide +kernel
theorem dX8_starter_55 : decode cX8_starter 55 = .ok (.ifCond .ne 7, 3) := by decide +kernel
theorem dX8_starter_58 : decode cX8_starter 58 = .ok (.iconst 1, 1) := by decide +kernel
theorem dX8_starter_59 : decode cX8_starter 59 = .ok (.goto 4, 3) := by decide +kernel
theorem dX8_starter_62 : decode cX8_starter 62 = .ok (.iconst 0, 1) := by decide +kernel
theorem dX8_starter_63 : decode cX8_starter 63 = .ok (.istore 7, 2) := by decide +kernel
theorem dX8_starter_65 : decode cX8_starter 65 = .ok (.iload_n 2, 1) := by decide +kernel
theorem dX8_starter_66 : decode cX8_starter 66 = .ok (.iconst 2, 1) := by decide +kernel
theorem dX8_starter_67 : decode cX8_starter 67 = .ok (.if_icmp .ne 36, 3) := by decide +kernel
theorem dX8_starter_70 : decode cX8_starter 70 = .ok (.iload 6, 2) := by decide +kernel
theorem dX8_starter_72 : decode cX8_starter 72 = .ok (.ifCond .eq 31, 3) := by decide +kernel
theorem dX8_starter_75 : decode cX8_starter 75 = .ok (.iload 7, 2) := by decide +kernel
theorem dX8_starter_77 : decode cX8_starter 77 = .ok (.ifCond .eq 26, 3) := by decide +kernel
theorem dX8_starter_80 : decode cX8_starter 80 = .ok (.aload_n 0, 1) := by decide +kernel
theorem dX8_starter_81 : decode cX8_starter 81 = .ok (.iload 5, 2) := by decide +kernel
theorem dX8_starter_83 : decode cX8_starter 83 = .ok (.invokevirtual 149, 3) := by decide +kernel
theorem dX8_starter_86 : decode cX8_starter 86 = .ok (.aload_n 0, 1) := by decide +kernel
theorem dX8_starter_87 : decode cX8_starter 87 = .ok (.iload 4, 2) := by decide +kernel
theorem dX8_starter_89 : decode cX8_starter 89 = .ok (.invokevirtual 149, 3) := by decide +kernel
theorem dX8_starter_92 : decode cX8_starter 92 = .ok (.if_icmp .ge 8, 3) := by decide +kernel
theorem dX8_starter_95 : decode cX8_starter 95 = .ok (.iload 5, 2) := by decide +kernel
theorem dX8_starter_97 : decode cX8_starter 97 = .ok (.goto 5, 3) := by decide +kernel
theorem dX8_starter_100 : decode cX8_starter 100 = .ok (.iload 4, 2) := by decide +kernel
theorem dX8_starter_102 : decode cX8_starter 102 = .ok (.ireturn, 1) := by decide +kernel
theorem dX8_starter_103 : decode cX8_starter 103 = .ok (.iload 6, 2) := by decide +kernel
theorem dX8_starter_105 : decode cX8_starter 105 = .ok (.ifCond .eq 8, 3) := by decide +kernel
theorem dX8_starter_108 : decode cX8_starter 108 = .ok (.iload 4, 2) := by decide +kernel
theorem dX8_starter_110 : decode cX8_starter 110 = .ok (.goto 19, 3) := by decide +kernel
theorem dX8_starter_113 : decode cX8_starter 113 = .ok (.iload_n 2, 1) := by decide +kernel
theorem dX8_starter_114 : decode cX8_starter 114 = .ok (.ifCond .le 13, 3) := by decide +kernel
theorem dX8_starter_117 : decode cX8_starter 117 = .ok (.iload 7, 2) := by decide +kernel
theorem dX8_starter_119 : decode cX8_starter 119 = .ok (.ifCond .eq 8, 3) := by decide +kernel
theorem dX8_starter_122 : decode cX8_starter 122 = .ok (.iload 5, 2) := by decide +kernel
theorem dX8_starter_124 : decode cX8_starter 124 = .ok (.goto 5, 3) := by decide +kernel
theorem dX8_starter_127 : decode cX8_starter 127 = .ok (.bipush (-6), 2) := by decide +kernel
theorem dX8_starter_129 : decode cX8_starter 129 = .ok (.ireturn, 1) := by decide +kernel
theorem dX8_value_0 : decode cX8_value 0 = .ok (.aload_n 0, 1) := by decide +kernel
theorem dX8_value_1 : decode cX8_value 1 = .ok (.getfield 29, 3) := by decide +kernel
theorem dX8_value_4 : decode cX8_value 4 = .ok (.bipush 12, 2) := by decide +kernel
theorem dX8_value_6 : decode cX8_value 6 = .ok (.iload_n 1, 1) := by decide +kernel
theorem dX8_value_7 : decode cX8_value 7 = .ok (.imul, 1) := by decide +kernel
theorem dX8_value_8 : decode cX8_value 8 = .ok (.iload_n 2, 1) := by decide +kernel
theorem dX8_value_9 : decode cX8_value 9 = .ok (.iadd, 1) := by decide +kernel
theorem dX8_value_10 : decode cX8_value 10 = .ok (.iaload, 1) := by decide +kernel
theorem dX8_value_11 : decode cX8_value 11 = .ok (.ireturn, 1) := by decide +kernel
theorem dX8_does_0 : decode cX8_does 0 = .ok (.aload_n 0, 1) := by decide +kernel
theorem dX8_does_1 : decode cX8_does 1 = .ok (.iload_n 1, 1) := by decide +kernel
theorem dX8_does_2 : decode cX8_does 2 = .ok (.iload_n 2, 1) := by decide +kernel
theorem dX8_does_3 : decode cX8_does 3 = .ok (.iconst 0, 1) := by decide +kernel
theorem dX8_does_4 : decode cX8_does 4 = .ok (.invokevirtual 132, 3) := by decide +kernel
theorem dX8_does_7 : decode cX8_does 7 = .ok (.istore_n 3, 1) := by decide +kernel
theorem dX8_does_8 : decode cX8_does 8 = .ok (.aload_n 0, 1) := by decide +kernel
theorem dX8_does_9 : decode cX8_does 9 = .ok (.iload_n 1, 1) := by decide +kernel
theorem dX8_does_10 : decode cX8_does 10 = .ok (.iload_n 2, 1) := by decide +kernel
theorem dX8_does_11 : decode cX8_does 11 = .ok (.iconst 1, 1) := by decide +kernel
theorem dX8_does_12 : decode cX8_does 12 = .ok (.invokevirtual 132, 3) := by decide +kernel
theorem dX8_does_15 : decode cX8_does 15 = .ok (.istore 4, 2) := by decide +kernel
theorem dX8_does_17 : decode cX8_does 17 = .ok (.aload_n 0, 1) := by decide +kernel
theorem dX8_does_18 : decode cX8_does 18 = .ok (.iload_n 1, 1) := by decide +kernel
theorem dX8_does_19 : decode cX8_does 19 = .ok (.iload_n 2, 1) := by decide +kernel
theorem dX8_does_20 : decode cX8_does 20 = .ok (.iconst 2, 1) := by decide +kernel
theorem dX8_does_21 : decode cX8_does 21 = .ok (.invokevirtual 132, 3) := by decide +kernel
theorem dX8_does_24 : decode cX8_does 24 = .ok (.istore 5, 2) := by decide +kernel
theorem dX8_does_26 : decode cX8_does 26 = .ok (.aload_n 0, 1) := by decide +kernel
theorem dX8_does_27 : decode cX8_does 27 = .ok (.iload_n 1, 1) := by decide +kernel
theorem dX8_does_28 : decode cX8_does 28 = .ok (.iload_n 2, 1) := by decide +kernel
theorem dX8_does_29 : decode cX8_does 29 = .ok (.iconst 3, 1) := by decide +kernel
theorem dX8_does_30 : decode cX8_does 30 = .ok (.invokevirtual 132, 3) := by decide +kernel
theorem dX8_does_33 : decode cX8_does 33 = .ok (.istore 6, 2) := by decide +kernel
theorem dX8_does_35 : decode cX8_does 35 = .ok (.bipush 12, 2) := by decide +kernel
theorem dX8_does_37 : decode cX8_does 37 = .ok (.iload_n 1, 1) := by decide +kernel
theorem dX8_does_38 : decode cX8_does 38 = .ok (.imul, 1) := by decide +kernel
theorem dX8_does_39 : decode cX8_does 39 = .ok (.iload 4, 2) := by decide +kernel
theorem dX8_does_41 : decode cX8_does 41 = .ok (.iadd, 1) := by decide +kernel
theorem dX8_does_42 : decode cX8_does 42 = .ok (.istore 7, 2) := by decide +kernel
theorem dX8_does_44 : decode cX8_does 44 = .ok (.iload_n 3, 1) := by decide +kernel
theorem dX8_does_45 : decode cX8_does 45 = .ok (.tableswitch 206 0 5 #[39, 56, 85, 118, 147, 174], 39) := by decide +kernel
theorem dX8_does_84 : decode cX8_does 84 = .ok (.aload_n 0, 1) := by decide +kernel
theorem dX8_does_85 : decode cX8_does 85 = .ok (.getfield 29, 3) := by decide +kernel
theorem dX8_does_88 : decode cX8_does 88 = .ok (.iload 7, 2) := by decide +kernel
theorem dX8_does_90 : decode cX8_does 90 = .ok (.aload_n 0, 1) := by decide +kernel
theorem dX8_does_91 : decode cX8_does 91 = .ok (.iload_n 1, 1) := by decide +kernel
theorem dX8_does_92 : decode cX8_does 92 = .ok (.iload_n 2, 1) := by decide +kernel
theorem dX8_does_93 : decode cX8_does 93 = .ok (.iconst 4, 1) := by decide +kernel
theorem dX8_does_94 : decode cX8_does 94 = .ok (.invokevirtual 132, 3) := by decide +kernel
theorem dX8_does_97 : decode cX8_does 97 = .ok (.iastore, 1) := by decide +kernel
theorem dX8_does_98 : decode cX8_does 98 = .ok (.goto 177, 3) := by decide +kernel
theorem dX8_does_101 : decode cX8_does 101 = .ok (.aload_n 0, 1) := by decide +kernel
theorem dX8_does_102 : decode cX8_does 102 = .ok (.getfield 29, 3) := by decide +kernel
theorem dX8_does_105 : decode cX8_does 105 = .ok (.iload 7, 2) := by decide +kernel
theorem dX8_does_107 : decode cX8_does 107 = .ok (.aload_n 0, 1) := by decide +kernel
theorem dX8_does_108 : decode cX8_does 108 = .ok (.iload_n 1, 1) := by decide +kernel
theorem dX8_does_109 : decode cX8_does 109 = .ok (.iload 5, 2) := by decide +kernel
theorem dX8_does_111 : decode cX8_does 111 = .ok (.invokevirtual 152, 3) := by decide +kernel
theorem dX8_does_114 : decode cX8_does 114 = .ok (.aload_n 0, 1) := by decide +kernel
theorem dX8_does_115 : decode cX8_does 115 = .ok (.iload_n 1, 1) := by decide +kernel
theorem dX8_does_116 : decode cX8_does 116 = .ok (.iload 6, 2) := by decide +kernel
theorem dX8_does_118 : decode cX8_does 118 = .ok (.invokevirtual 152, 3) := by decide +kernel
theorem dX8_does_121 : decode cX8_does 121 = .ok (.iadd, 1) := by decide +kernel
theorem dX8_does_122 : decode cX8_does 122 = .ok (.sipush 1000, 3) := by decide +kernel
theorem dX8_does_125 : decode cX8_does 125 = .ok (.irem, 1) := by decide +kernel
theorem dX8_does_126 : decode cX8_does 126 = .ok (.iastore, 1) := by decide +kernel
theorem dX8_does_127 : decode cX8_does 127 = .ok (.goto 148, 3) := by decide +kernel
theorem dX8_does_130 : decode cX8_does 130 = .ok (.aload_n 0, 1) := by decide +kernel
theorem dX8_does_131 : decode cX8_does 131 = .ok (.getfield 29, 3) := by decide +kernel
theorem dX8_does_134 : decode cX8_does 134 = .ok (.iload 7, 2) := by decide +kernel
theorem dX8_does_136 : decode cX8_does 136 = .ok (.aload_n 0, 1) := by decide +kernel
theorem dX8_does_137 : decode cX8_does 137 = .ok (.iload_n 1, 1) := by decide +kernel
theorem dX8_does_138 : decode cX8_does 138 = .ok (.iload 5, 2) := by decide +kernel
theorem dX8_does_140 : decode cX8_does 140 = .ok (.invokevirtual 152, 3) := by decide +kernel
theorem dX8_does_143 : decode cX8_does 143 = .ok (.aload_n 0, 1) := by decide +kernel
theorem dX8_does_144 : decode cX8_does 144 = .ok (.iload_n 1, 1) := by decide +kernel
theorem dX8_does_145 : decode cX8_does 145 = .ok (.iload 6, 2) := by decide +kernel
theorem dX8_does_147 : decode cX8_does 147 = .ok (.invokevirtual 152, 3) := by decide +kernel
theorem dX8_does_150 : decode cX8_does 150 = .ok (.isub, 1) := by decide +kernel
theorem dX8_does_151 : decode cX8_does 151 = .ok (.sipush 1000, 3) := by decide +kernel
theorem dX8_does_154 : decode cX8_does 154 = .ok (.iadd, 1) := by decide +kernel
theorem dX8_does_155 : decode cX8_does 155 = .ok (.sipush 1000, 3) := by decide +kernel
theorem dX8_does_158 : decode cX8_does 158 = .ok (.irem, 1) := by decide +kernel
theorem dX8_does_159 : decode cX8_does 159 = .ok (.iastore, 1) := by decide +kernel
theorem dX8_does_160 : decode cX8_does 160 = .ok (.goto 115, 3) := by decide +kernel
theorem dX8_does_163 : decode cX8_does 163 = .ok (.aload_n 0, 1) := by decide +kernel
theorem dX8_does_164 : decode cX8_does 164 = .ok (.getfield 29, 3) := by decide +kernel
theorem dX8_does_167 : decode cX8_does 167 = .ok (.iload 7, 2) := by decide +kernel
theorem dX8_does_169 : decode cX8_does 169 = .ok (.aload_n 0, 1) := by decide +kernel
theorem dX8_does_170 : decode cX8_does 170 = .ok (.iload_n 1, 1) := by decide +kernel
theorem dX8_does_171 : decode cX8_does 171 = .ok (.iload 5, 2) := by decide +kernel
theorem dX8_does_173 : decode cX8_does 173 = .ok (.invokevirtual 152, 3) := by decide +kernel
theorem dX8_does_176 : decode cX8_does 176 = .ok (.aload_n 0, 1) := by decide +kernel
theorem dX8_does_177 : decode cX8_does 177 = .ok (.iload_n 1, 1) := by decide +kernel
theorem dX8_does_178 : decode cX8_does 178 = .ok (.iload 6, 2) := by decide +kernel
theorem dX8_does_180 : decode cX8_does 180 = .ok (.invokevirtual 152, 3) := by decide +kernel
theorem dX8_does_183 : decode cX8_does 183 = .ok (.imul, 1) := by decide +kernel
theorem dX8_does_184 : decode cX8_does 184 = .ok (.sipush 1000, 3) := by decide +kernel
theorem dX8_does_187 : decode cX8_does 187 = .ok (.irem, 1) := by decide +kernel
theorem dX8_does_188 : decode cX8_does 188 = .ok (.iastore, 1) := by decide +kernel
theorem dX8_does_189 : decode cX8_does 189 = .ok (.goto 86, 3) := by decide +kernel
theorem dX8_does_192 : decode cX8_does 192 = .ok (.aload_n 0, 1) := by decide +kernel
theorem dX8_does_193 : decode cX8_does 193 = .ok (.getfield 29, 3) := by decide +kernel
theorem dX8_does_196 : decode cX8_does 196 = .ok (.iload 7, 2) := by decide +kernel
theorem dX8_does_198 : decode cX8_does 198 = .ok (.aload_n 0, 1) := by decide +kernel
theorem dX8_does_199 : decode cX8_does 199 = .ok (.iload_n 1, 1) := by decide +kernel
theorem dX8_does_200 : decode cX8_does 200 = .ok (.iconst 4, 1) := by decide +kernel
theorem dX8_does_201 : decode cX8_does 201 = .ok (.aload_n 0, 1) := by decide +kernel
theorem dX8_does_202 : decode cX8_does 202 = .ok (.iload_n 1, 1) := by decide +kernel
theorem dX8_does_203 : decode cX8_does 203 = .ok (.iload 5, 2) := by decide +kernel
theorem dX8_does_205 : decode cX8_does 205 = .ok (.invokevirtual 152, 3) := by decide +kernel
theorem dX8_does_208 : decode cX8_does 208 = .ok (.bipush 8, 2) := by decide +kernel
theorem dX8_does_210 : decode cX8_does 210 = .ok (.irem, 1) := by decide +kernel
theorem dX8_does_211 : decode cX8_does 211 = .ok (.iadd, 1) := by decide +kernel
theorem dX8_does_212 : decode cX8_does 212 = .ok (.invokevirtual 152, 3) := by decide +kernel
theorem dX8_does_215 : decode cX8_does 215 = .ok (.iastore, 1) := by decide +kernel
theorem dX8_does_216 : decode cX8_does 216 = .ok (.goto 59, 3) := by decide +kernel
theorem dX8_does_219 : decode cX8_does 219 = .ok (.aload_n 0, 1) := by decide +kernel
theorem dX8_does_220 : decode cX8_does 220 = .ok (.getfield 29, 3) := by decide +kernel
theorem dX8_does_223 : decode cX8_does 223 = .ok (.bipush 12, 2) := by decide +kernel
theorem dX8_does_225 : decode cX8_does 225 = .ok (.iload_n 1, 1) := by decide +kernel
theorem dX8_does_226 : decode cX8_does 226 = .ok (.imul, 1) := by decide +kernel
theorem dX8_does_227 : decode cX8_does 227 = .ok (.iconst 4, 1) := by decide +kernel
theorem dX8_does_228 : decode cX8_does 228 = .ok (.iadd, 1) := by decide +kernel
theorem dX8_does_229 : decode cX8_does 229 = .ok (.aload_n 0, 1) := by decide +kernel
theorem dX8_does_230 : decode cX8_does 230 = .ok (.iload_n 1, 1) := by decide +kernel
theorem dX8_does_231 : decode cX8_does 231 = .ok (.iload 4, 2) := by decide +kernel
theorem dX8_does_233 : decode cX8_does 233 = .ok (.invokevirtual 152, 3) := by decide +kernel
theorem dX8_does_236 : decode cX8_does 236 = .ok (.bipush 8, 2) := by decide +kernel
theorem dX8_does_238 : decode cX8_does 238 = .ok (.irem, 1) := by decide +kernel
theorem dX8_does_239 : decode cX8_does 239 = .ok (.iadd, 1) := by decide +kernel
theorem dX8_does_240 : decode cX8_does 240 = .ok (.aload_n 0, 1) := by decide +kernel
theorem dX8_does_241 : decode cX8_does 241 = .ok (.iload_n 1, 1) := by decide +kernel
theorem dX8_does_242 : decode cX8_does 242 = .ok (.iload 5, 2) := by decide +kernel
theorem dX8_does_244 : decode cX8_does 244 = .ok (.invokevirtual 152, 3) := by decide +kernel
theorem dX8_does_247 : decode cX8_does 247 = .ok (.iastore, 1) := by decide +kernel
theorem dX8_does_248 : decode cX8_does 248 = .ok (.goto 27, 3) := by decide +kernel
theorem dX8_does_251 : decode cX8_does 251 = .ok (.aload_n 0, 1) := by decide +kernel
theorem dX8_does_252 : decode cX8_does 252 = .ok (.iload_n 1, 1) := by decide +kernel
theorem dX8_does_253 : decode cX8_does 253 = .ok (.iload 4, 2) := by decide +kernel
theorem dX8_does_255 : decode cX8_does 255 = .ok (.invokevirtual 152, 3) := by decide +kernel
theorem dX8_does_258 : decode cX8_does 258 = .ok (.ifCond .eq 13, 3) := by decide +kernel
theorem dX8_does_261 : decode cX8_does 261 = .ok (.aload_n 0, 1) := by decide +kernel
theorem dX8_does_262 : decode cX8_does 262 = .ok (.iload_n 1, 1) := by decide +kernel
theorem dX8_does_263 : decode cX8_does 263 = .ok (.iload_n 2, 1) := by decide +kernel
theorem dX8_does_264 : decode cX8_does 264 = .ok (.iconst 4, 1) := by decide +kernel
theorem dX8_does_265 : decode cX8_does 265 = .ok (.invokevirtual 132, 3) := by decide +kernel
theorem dX8_does_268 : decode cX8_does 268 = .ok (.goto 6, 3) := by decide +kernel
theorem dX8_does_271 : decode cX8_does 271 = .ok (.iload_n 2, 1) := by decide +kernel
theorem dX8_does_272 : decode cX8_does 272 = .ok (.iconst 1, 1) := by decide +kernel
theorem dX8_does_273 : decode cX8_does 273 = .ok (.iadd, 1) := by decide +kernel
theorem dX8_does_274 : decode cX8_does 274 = .ok (.ireturn, 1) := by decide +kernel
theorem dX8_does_275 : decode cX8_does 275 = .ok (.iload_n 2, 1) := by decide +kernel
theorem dX8_does_276 : decode cX8_does 276 = .ok (.iconst 1, 1) := by decide +kernel
theorem dX8_does_277 : decode cX8_does 277 = .ok (.iadd, 1) := by decide +kernel
theorem dX8_does_278 : decode cX8_does 278 = .ok (.ireturn, 1) := by decide +kernel
theorem dX8_begin_0 : decode cX8_begin 0 = .ok (.bipush 100, 2) := by decide +kernel
theorem dX8_begin_2 : decode cX8_begin 2 = .ok (.iload_n 1, 1) := by decide +kernel
theorem dX8_begin_3 : decode cX8_begin 3 = .ok (.imul, 1) := by decide +kernel
theorem dX8_begin_4 : decode cX8_begin 4 = .ok (.aload_n 0, 1) := by decide +kernel
theorem dX8_begin_5 : decode cX8_begin 5 = .ok (.getfield 47, 3) := by decide +kernel
theorem dX8_begin_8 : decode cX8_begin 8 = .ok (.iload_n 1, 1) := by decide +kernel
theorem dX8_begin_9 : decode cX8_begin 9 = .ok (.iaload, 1) := by decide +kernel
theorem dX8_begin_10 : decode cX8_begin 10 = .ok (.iadd, 1) := by decide +kernel
theorem dX8_begin_11 : decode cX8_begin 11 = .ok (.istore_n 3, 1) := by decide +kernel
theorem dX8_begin_12 : decode cX8_begin 12 = .ok (.aload_n 0, 1) := by decide +kernel
theorem dX8_begin_13 : decode cX8_begin 13 = .ok (.getfield 50, 3) := by decide +kernel
theorem dX8_begin_16 : decode cX8_begin 16 = .ok (.iload_n 1, 1) := by decide +kernel
theorem dX8_begin_17 : decode cX8_begin 17 = .ok (.iaload, 1) := by decide +kernel
theorem dX8_begin_18 : decode cX8_begin 18 = .ok (.istore 4, 2) := by decide +kernel
theorem dX8_begin_20 : decode cX8_begin 20 = .ok (.aload_n 0, 1) := by decide +kernel
theorem dX8_begin_21 : decode cX8_begin 21 = .ok (.iload_n 1, 1) := by decide +kernel
theorem dX8_begin_22 : decode cX8_begin 22 = .ok (.iload 4, 2) := by decide +kernel
theorem dX8_begin_24 : decode cX8_begin 24 = .ok (.iconst 0, 1) := by decide +kernel
theorem dX8_begin_25 : decode cX8_begin 25 = .ok (.invokevirtual 132, 3) := by decide +kernel
theorem dX8_begin_28 : decode cX8_begin 28 = .ok (.istore 5, 2) := by decide +kernel
theorem dX8_begin_30 : decode cX8_begin 30 = .ok (.iload 5, 2) := by decide +kernel
theorem dX8_begin_32 : decode cX8_begin 32 = .ok (.invokestatic 136, 3) := by decide +kernel
theorem dX8_begin_35 : decode cX8_begin 35 = .ok (.istore 6, 2) := by decide +kernel
theorem dX8_begin_37 : decode cX8_begin 37 = .ok (.iload 6, 2) := by decide +kernel
theorem dX8_begin_39 : decode cX8_begin 39 = .ok (.ifCond .ne 12, 3) := by decide +kernel
theorem dX8_begin_42 : decode cX8_begin 42 = .ok (.aload_n 0, 1) := by decide +kernel
theorem dX8_begin_43 : decode cX8_begin 43 = .ok (.getfield 7, 3) := by decide +kernel
theorem dX8_begin_46 : decode cX8_begin 46 = .ok (.iconst 1, 1) := by decide +kernel
theorem dX8_begin_47 : decode cX8_begin 47 = .ok (.iaload, 1) := by decide +kernel
theorem dX8_begin_48 : decode cX8_begin 48 = .ok (.goto 19, 3) := by decide +kernel
theorem dX8_begin_51 : decode cX8_begin 51 = .ok (.iload 6, 2) := by decide +kernel
theorem dX8_begin_53 : decode cX8_begin 53 = .ok (.iconst 1, 1) := by decide +kernel
theorem dX8_begin_54 : decode cX8_begin 54 = .ok (.if_icmp .ne 12, 3) := by decide +kernel
theorem dX8_begin_57 : decode cX8_begin 57 = .ok (.aload_n 0, 1) := by decide +kernel
theorem dX8_begin_58 : decode cX8_begin 58 = .ok (.getfield 7, 3) := by decide +kernel
theorem dX8_begin_61 : decode cX8_begin 61 = .ok (.iconst 2, 1) := by decide +kernel
theorem dX8_begin_62 : decode cX8_begin 62 = .ok (.iaload, 1) := by decide +kernel
theorem dX8_begin_63 : decode cX8_begin 63 = .ok (.goto 4, 3) := by decide +kernel
theorem dX8_begin_66 : decode cX8_begin 66 = .ok (.iconst 1, 1) := by decide +kernel
theorem dX8_begin_67 : decode cX8_begin 67 = .ok (.istore 7, 2) := by decide +kernel
theorem dX8_begin_69 : decode cX8_begin 69 = .ok (.aload_n 0, 1) := by decide +kernel
theorem dX8_begin_70 : decode cX8_begin 70 = .ok (.getfield 35, 3) := by decide +kernel
theorem dX8_begin_73 : decode cX8_begin 73 = .ok (.iload_n 3, 1) := by decide +kernel
theorem dX8_begin_74 : decode cX8_begin 74 = .ok (.iload_n 2, 1) := by decide +kernel
theorem dX8_begin_75 : decode cX8_begin 75 = .ok (.iastore, 1) := by decide +kernel
theorem dX8_begin_76 : decode cX8_begin 76 = .ok (.aload_n 0, 1) := by decide +kernel
theorem dX8_begin_77 : decode cX8_begin 77 = .ok (.getfield 38, 3) := by decide +kernel
theorem dX8_begin_80 : decode cX8_begin 80 = .ok (.iload_n 3, 1) := by decide +kernel
theorem dX8_begin_81 : decode cX8_begin 81 = .ok (.iload 4, 2) := by decide +kernel
theorem dX8_begin_83 : decode cX8_begin 83 = .ok (.iastore, 1) := by decide +kernel
theorem dX8_begin_84 : decode cX8_begin 84 = .ok (.aload_n 0, 1) := by decide +kernel
theorem dX8_begin_85 : decode cX8_begin 85 = .ok (.getfield 41, 3) := by decide +kernel
theorem dX8_begin_88 : decode cX8_begin 88 = .ok (.iload_n 3, 1) := by decide +kernel
theorem dX8_begin_89 : decode cX8_begin 89 = .ok (.iload_n 2, 1) := by decide +kernel
theorem dX8_begin_90 : decode cX8_begin 90 = .ok (.iload 7, 2) := by decide +kernel
theorem dX8_begin_92 : decode cX8_begin 92 = .ok (.iadd, 1) := by decide +kernel
theorem dX8_begin_93 : decode cX8_begin 93 = .ok (.iastore, 1) := by decide +kernel
theorem dX8_begin_94 : decode cX8_begin 94 = .ok (.aload_n 0, 1) := by decide +kernel
theorem dX8_begin_95 : decode cX8_begin 95 = .ok (.getfield 44, 3) := by decide +kernel
theorem dX8_begin_98 : decode cX8_begin 98 = .ok (.iload_n 3, 1) := by decide +kernel
theorem dX8_begin_99 : decode cX8_begin 99 = .ok (.iconst 0, 1) := by decide +kernel
theorem dX8_begin_100 : decode cX8_begin 100 = .ok (.iastore, 1) := by decide +kernel
theorem dX8_begin_101 : decode cX8_begin 101 = .ok (.iconst 1, 1) := by decide +kernel
theorem dX8_begin_102 : decode cX8_begin 102 = .ok (.istore 8, 2) := by decide +kernel
theorem dX8_begin_104 : decode cX8_begin 104 = .ok (.iload 8, 2) := by decide +kernel
theorem dX8_begin_106 : decode cX8_begin 106 = .ok (.iconst 5, 1) := by decide +kernel
theorem dX8_begin_107 : decode cX8_begin 107 = .ok (.if_icmp .ge 66, 3) := by decide +kernel
theorem dX8_begin_110 : decode cX8_begin 110 = .ok (.aload_n 0, 1) := by decide +kernel
theorem dX8_begin_111 : decode cX8_begin 111 = .ok (.getfield 53, 3) := by decide +kernel
theorem dX8_begin_114 : decode cX8_begin 114 = .ok (.iconst 5, 1) := by decide +kernel
theorem dX8_begin_115 : decode cX8_begin 115 = .ok (.iload_n 1, 1) := by decide +kernel
theorem dX8_begin_116 : decode cX8_begin 116 = .ok (.imul, 1) := by decide +kernel
theorem dX8_begin_117 : decode cX8_begin 117 = .ok (.iload 8, 2) := by decide +kernel
theorem dX8_begin_119 : decode cX8_begin 119 = .ok (.iadd, 1) := by decide +kernel
theorem dX8_begin_120 : decode cX8_begin 120 = .ok (.dup2, 1) := by decide +kernel
theorem dX8_begin_121 : decode cX8_begin 121 = .ok (.iaload, 1) := by decide +kernel
theorem dX8_begin_122 : decode cX8_begin 122 = .ok (.aload_n 0, 1) := by decide +kernel
theorem dX8_begin_123 : decode cX8_begin 123 = .ok (.getfield 56, 3) := by decide +kernel
theorem dX8_begin_126 : decode cX8_begin 126 = .ok (.iconst 5, 1) := by decide +kernel
theorem dX8_begin_127 : decode cX8_begin 127 = .ok (.iload_n 1, 1) := by decide +kernel
theorem dX8_begin_128 : decode cX8_begin 128 = .ok (.imul, 1) := by decide +kernel
theorem dX8_begin_129 : decode cX8_begin 129 = .ok (.iload 8, 2) := by decide +kernel
theorem dX8_begin_131 : decode cX8_begin 131 = .ok (.iadd, 1) := by decide +kernel
theorem dX8_begin_132 : decode cX8_begin 132 = .ok (.iaload, 1) := by decide +kernel
theorem dX8_begin_133 : decode cX8_begin 133 = .ok (.iadd, 1) := by decide +kernel
theorem dX8_begin_134 : decode cX8_begin 134 = .ok (.iastore, 1) := by decide +kernel
theorem dX8_begin_135 : decode cX8_begin 135 = .ok (.aload_n 0, 1) := by decide +kernel
theorem dX8_begin_136 : decode cX8_begin 136 = .ok (.getfield 44, 3) := by decide +kernel
theorem dX8_begin_139 : decode cX8_begin 139 = .ok (.iload_n 3, 1) := by decide +kernel
theorem dX8_begin_140 : decode cX8_begin 140 = .ok (.dup2, 1) := by decide +kernel
theorem dX8_begin_141 : decode cX8_begin 141 = .ok (.iaload, 1) := by decide +kernel
theorem dX8_begin_142 : decode cX8_begin 142 = .ok (.aload_n 0, 1) := by decide +kernel
theorem dX8_begin_143 : decode cX8_begin 143 = .ok (.getfield 56, 3) := by decide +kernel
theorem dX8_begin_146 : decode cX8_begin 146 = .ok (.iconst 5, 1) := by decide +kernel
theorem dX8_begin_147 : decode cX8_begin 147 = .ok (.iload_n 1, 1) := by decide +kernel
theorem dX8_begin_148 : decode cX8_begin 148 = .ok (.imul, 1) := by decide +kernel
theorem dX8_begin_149 : decode cX8_begin 149 = .ok (.iload 8, 2) := by decide +kernel
theorem dX8_begin_151 : decode cX8_begin 151 = .ok (.iadd, 1) := by decide +kernel
theorem dX8_begin_152 : decode cX8_begin 152 = .ok (.iaload, 1) := by decide +kernel
theorem dX8_begin_153 : decode cX8_begin 153 = .ok (.iadd, 1) := by decide +kernel
theorem dX8_begin_154 : decode cX8_begin 154 = .ok (.iastore, 1) := by decide +kernel
theorem dX8_begin_155 : decode cX8_begin 155 = .ok (.aload_n 0, 1) := by decide +kernel
theorem dX8_begin_156 : decode cX8_begin 156 = .ok (.getfield 56, 3) := by decide +kernel
theorem dX8_begin_159 : decode cX8_begin 159 = .ok (.iconst 5, 1) := by decide +kernel
theorem dX8_begin_160 : decode cX8_begin 160 = .ok (.iload_n 1, 1) := by decide +kernel
theorem dX8_begin_161 : decode cX8_begin 161 = .ok (.imul, 1) := by decide +kernel
theorem dX8_begin_162 : decode cX8_begin 162 = .ok (.iload 8, 2) := by decide +kernel
theorem dX8_begin_164 : decode cX8_begin 164 = .ok (.iadd, 1) := by decide +kernel
theorem dX8_begin_165 : decode cX8_begin 165 = .ok (.iconst 0, 1) := by decide +kernel
theorem dX8_begin_166 : decode cX8_begin 166 = .ok (.iastore, 1) := by decide +kernel
theorem dX8_begin_167 : decode cX8_begin 167 = .ok (.iinc 8 1, 3) := by decide +kernel
theorem dX8_begin_170 : decode cX8_begin 170 = .ok (.goto (-66), 3) := by decide +kernel
theorem dX8_begin_173 : decode cX8_begin 173 = .ok (.iload 5, 2) := by decide +kernel
theorem dX8_begin_175 : decode cX8_begin 175 = .ok (.iconst 5, 1) := by decide +kernel
theorem dX8_begin_176 : decode cX8_begin 176 = .ok (.if_icmp .ge 24, 3) := by decide +kernel
theorem dX8_begin_179 : decode cX8_begin 179 = .ok (.aload_n 0, 1) := by decide +kernel
theorem dX8_begin_180 : decode cX8_begin 180 = .ok (.getfield 32, 3) := by decide +kernel
theorem dX8_begin_183 : decode cX8_begin 183 = .ok (.iconst 4, 1) := by decide +kernel
theorem dX8_begin_184 : decode cX8_begin 184 = .ok (.iload_n 1, 1) := by decide +kernel
theorem dX8_begin_185 : decode cX8_begin 185 = .ok (.imul, 1) := by decide +kernel
theorem dX8_begin_186 : decode cX8_begin 186 = .ok (.aload_n 0, 1) := by decide +kernel
theorem dX8_begin_187 : decode cX8_begin 187 = .ok (.iload_n 1, 1) := by decide +kernel
theorem dX8_begin_188 : decode cX8_begin 188 = .ok (.iload 4, 2) := by decide +kernel
theorem dX8_begin_190 : decode cX8_begin 190 = .ok (.iconst 1, 1) := by decide +kernel
theorem dX8_begin_191 : decode cX8_begin 191 = .ok (.invokevirtual 132, 3) := by decide +kernel
theorem dX8_begin_194 : decode cX8_begin 194 = .ok (.iadd, 1) := by decide +kernel
theorem dX8_begin_195 : decode cX8_begin 195 = .ok (.iload_n 2, 1) := by decide +kernel
theorem dX8_begin_196 : decode cX8_begin 196 = .ok (.iload 7, 2) := by decide +kernel
theorem dX8_begin_198 : decode cX8_begin 198 = .ok (.iadd, 1) := by decide +kernel
theorem dX8_begin_199 : decode cX8_begin 199 = .ok (.iastore, 1) := by decide +kernel
theorem dX8_begin_200 : decode cX8_begin 200 = .ok (.iload 6, 2) := by decide +kernel
theorem dX8_begin_202 : decode cX8_begin 202 = .ok (.ifCond .lt 22, 3) := by decide +kernel
theorem dX8_begin_205 : decode cX8_begin 205 = .ok (.aload_n 0, 1) := by decide +kernel
theorem dX8_begin_206 : decode cX8_begin 206 = .ok (.getfield 59, 3) := by decide +kernel
theorem dX8_begin_209 : decode cX8_begin 209 = .ok (.iload 6, 2) := by decide +kernel
theorem dX8_begin_211 : decode cX8_begin 211 = .ok (.iload_n 2, 1) := by decide +kernel
theorem dX8_begin_212 : decode cX8_begin 212 = .ok (.iload 7, 2) := by decide +kernel
theorem dX8_begin_214 : decode cX8_begin 214 = .ok (.iadd, 1) := by decide +kernel
theorem dX8_begin_215 : decode cX8_begin 215 = .ok (.iastore, 1) := by decide +kernel
theorem dX8_begin_216 : decode cX8_begin 216 = .ok (.aload_n 0, 1) := by decide +kernel
theorem dX8_begin_217 : decode cX8_begin 217 = .ok (.getfield 62, 3) := by decide +kernel
theorem dX8_begin_220 : decode cX8_begin 220 = .ok (.iload 6, 2) := by decide +kernel
theorem dX8_begin_222 : decode cX8_begin 222 = .ok (.iload_n 1, 1) := by decide +kernel
theorem dX8_begin_223 : decode cX8_begin 223 = .ok (.iastore, 1) := by decide +kernel
theorem dX8_begin_224 : decode cX8_begin 224 = .ok (.aload_n 0, 1) := by decide +kernel
theorem dX8_begin_225 : decode cX8_begin 225 = .ok (.getfield 50, 3) := by decide +kernel
theorem dX8_begin_228 : decode cX8_begin 228 = .ok (.iload_n 1, 1) := by decide +kernel
theorem dX8_begin_229 : decode cX8_begin 229 = .ok (.aload_n 0, 1) := by decide +kernel
theorem dX8_begin_230 : decode cX8_begin 230 = .ok (.iload_n 1, 1) := by decide +kernel
theorem dX8_begin_231 : decode cX8_begin 231 = .ok (.iload 4, 2) := by decide +kernel
theorem dX8_begin_233 : decode cX8_begin 233 = .ok (.invokevirtual 156, 3) := by decide +kernel
theorem dX8_begin_236 : decode cX8_begin 236 = .ok (.iastore, 1) := by decide +kernel
theorem dX8_begin_237 : decode cX8_begin 237 = .ok (.aload_n 0, 1) := by decide +kernel
theorem dX8_begin_238 : decode cX8_begin 238 = .ok (.getfield 47, 3) := by decide +kernel
theorem dX8_begin_241 : decode cX8_begin 241 = .ok (.iload_n 1, 1) := by decide +kernel
theorem dX8_begin_242 : decode cX8_begin 242 = .ok (.dup2, 1) := by decide +kernel
theorem dX8_begin_243 : decode cX8_begin 243 = .ok (.iaload, 1) := by decide +kernel
theorem dX8_begin_244 : decode cX8_begin 244 = .ok (.iconst 1, 1) := by decide +kernel
theorem dX8_begin_245 : decode cX8_begin 245 = .ok (.iadd, 1) := by decide +kernel
theorem dX8_begin_246 : decode cX8_begin 246 = .ok (.iastore, 1) := by decide +kernel
theorem dX8_begin_247 : decode cX8_begin 247 = .ok (.return_, 1) := by decide +kernel
theorem dX8_lengthOf_0 : decode cX8_lengthOf 0 = .ok (.iconst 0, 1) := by decide +kernel
theorem dX8_lengthOf_1 : decode cX8_lengthOf 1 = .ok (.istore_n 2, 1) := by decide +kernel
theorem dX8_lengthOf_2 : decode cX8_lengthOf 2 = .ok (.iconst 0, 1) := by decide +kernel
theorem dX8_lengthOf_3 : decode cX8_lengthOf 3 = .ok (.istore_n 3, 1) := by decide +kernel
theorem dX8_lengthOf_4 : decode cX8_lengthOf 4 = .ok (.iload_n 3, 1) := by decide +kernel
theorem dX8_lengthOf_5 : decode cX8_lengthOf 5 = .ok (.aload_n 0, 1) := by decide +kernel
theorem dX8_lengthOf_6 : decode cX8_lengthOf 6 = .ok (.getfield 47, 3) := by decide +kernel
theorem dX8_lengthOf_9 : decode cX8_lengthOf 9 = .ok (.iload_n 1, 1) := by decide +kernel
theorem dX8_lengthOf_10 : decode cX8_lengthOf 10 = .ok (.iaload, 1) := by decide +kernel
theorem dX8_lengthOf_11 : decode cX8_lengthOf 11 = .ok (.if_icmp .ge 40, 3) := by decide +kernel
theorem dX8_lengthOf_14 : decode cX8_lengthOf 14 = .ok (.aload_n 0, 1) := by decide +kernel
theorem dX8_lengthOf_15 : decode cX8_lengthOf 15 = .ok (.getfield 41, 3) := by decide +kernel
theorem dX8_lengthOf_18 : decode cX8_lengthOf 18 = .ok (.bipush 100, 2) := by decide +kernel
theorem dX8_lengthOf_20 : decode cX8_lengthOf 20 = .ok (.iload_n 1, 1) := by decide +kernel
theorem dX8_lengthOf_21 : decode cX8_lengthOf 21 = .ok (.imul, 1) := by decide +kernel
theorem dX8_lengthOf_22 : decode cX8_lengthOf 22 = .ok (.iload_n 3, 1) := by decide +kernel
theorem dX8_lengthOf_23 : decode cX8_lengthOf 23 = .ok (.iadd, 1) := by decide +kernel
theorem dX8_lengthOf_24 : decode cX8_lengthOf 24 = .ok (.iaload, 1) := by decide +kernel
theorem dX8_lengthOf_25 : decode cX8_lengthOf 25 = .ok (.iload_n 2, 1) := by decide +kernel
theorem dX8_lengthOf_26 : decode cX8_lengthOf 26 = .ok (.if_icmp .le 17, 3) := by decide +kernel
theorem dX8_lengthOf_29 : decode cX8_lengthOf 29 = .ok (.aload_n 0, 1) := by decide +kernel
theorem dX8_lengthOf_30 : decode cX8_lengthOf 30 = .ok (.getfield 41, 3) := by decide +kernel
theorem dX8_lengthOf_33 : decode cX8_lengthOf 33 = .ok (.bipush 100, 2) := by decide +kernel
theorem dX8_lengthOf_35 : decode cX8_lengthOf 35 = .ok (.iload_n 1, 1) := by decide +kernel
theorem dX8_lengthOf_36 : decode cX8_lengthOf 36 = .ok (.imul, 1) := by decide +kernel
theorem dX8_lengthOf_37 : decode cX8_lengthOf 37 = .ok (.iload_n 3, 1) := by decide +kernel
theorem dX8_lengthOf_38 : decode cX8_lengthOf 38 = .ok (.iadd, 1) := by decide +kernel
theorem dX8_lengthOf_39 : decode cX8_lengthOf 39 = .ok (.iaload, 1) := by decide +kernel
theorem dX8_lengthOf_40 : decode cX8_lengthOf 40 = .ok (.goto 4, 3) := by decide +kernel
theorem dX8_lengthOf_43 : decode cX8_lengthOf 43 = .ok (.iload_n 2, 1) := by decide +kernel
theorem dX8_lengthOf_44 : decode cX8_lengthOf 44 = .ok (.istore_n 2, 1) := by decide +kernel
theorem dX8_lengthOf_45 : decode cX8_lengthOf 45 = .ok (.iinc 3 1, 3) := by decide +kernel
theorem dX8_lengthOf_48 : decode cX8_lengthOf 48 = .ok (.goto (-44), 3) := by decide +kernel
theorem dX8_lengthOf_51 : decode cX8_lengthOf 51 = .ok (.iload_n 2, 1) := by decide +kernel
theorem dX8_lengthOf_52 : decode cX8_lengthOf 52 = .ok (.ireturn, 1) := by decide +kernel
theorem dX8_goThrough_0 : decode cX8_goThrough 0 = .ok (.iconst 0, 1) := by decide +kernel
theorem dX8_goThrough_1 : decode cX8_goThrough 1 = .ok (.istore 4, 2) := by decide +kernel
theorem dX8_goThrough_3 : decode cX8_goThrough 3 = .ok (.iload 4, 2) := by decide +kernel
theorem dX8_goThrough_5 : decode cX8_goThrough 5 = .ok (.iconst 2, 1) := by decide +kernel
theorem dX8_goThrough_6 : decode cX8_goThrough 6 = .ok (.if_icmp .ge 174, 3) := by decide +kernel
theorem dX8_goThrough_9 : decode cX8_goThrough 9 = .ok (.aload_n 0, 1) := by decide +kernel
theorem dX8_goThrough_10 : decode cX8_goThrough 10 = .ok (.getfield 47, 3) := by decide +kernel
theorem dX8_goThrough_13 : decode cX8_goThrough 13 = .ok (.iload 4, 2) := by decide +kernel
theorem dX8_goThrough_15 : decode cX8_goThrough 15 = .ok (.iconst 0, 1) := by decide +kernel
theorem dX8_goThrough_16 : decode cX8_goThrough 16 = .ok (.iastore, 1) := by decide +kernel
theorem dX8_goThrough_17 : decode cX8_goThrough 17 = .ok (.aload_n 0, 1) := by decide +kernel
theorem dX8_goThrough_18 : decode cX8_goThrough 18 = .ok (.getfield 50, 3) := by decide +kernel
theorem dX8_goThrough_21 : decode cX8_goThrough 21 = .ok (.iload 4, 2) := by decide +kernel
theorem dX8_goThrough_23 : decode cX8_goThrough 23 = .ok (.iload_n 3, 1) := by decide +kernel
theorem dX8_goThrough_24 : decode cX8_goThrough 24 = .ok (.ifCond .lt 9, 3) := by decide +kernel
theorem dX8_goThrough_27 : decode cX8_goThrough 27 = .ok (.iload_n 3, 1) := by decide +kernel
theorem dX8_goThrough_28 : decode cX8_goThrough 28 = .ok (.iload 4, 2) := by decide +kernel
theorem dX8_goThrough_30 : decode cX8_goThrough 30 = .ok (.if_icmp .ne 7, 3) := by decide +kernel
theorem dX8_goThrough_33 : decode cX8_goThrough 33 = .ok (.iconst 0, 1) := by decide +kernel
theorem dX8_goThrough_34 : decode cX8_goThrough 34 = .ok (.goto 5, 3) := by decide +kernel
theorem dX8_goThrough_37 : decode cX8_goThrough 37 = .ok (.bipush (-6), 2) := by decide +kernel
theorem dX8_goThrough_39 : decode cX8_goThrough 39 = .ok (.iastore, 1) := by decide +kernel
theorem dX8_goThrough_40 : decode cX8_goThrough 40 = .ok (.aload_n 0, 1) := by decide +kernel
theorem dX8_goThrough_41 : decode cX8_goThrough 41 = .ok (.getfield 59, 3) := by decide +kernel
theorem dX8_goThrough_44 : decode cX8_goThrough 44 = .ok (.iload 4, 2) := by decide +kernel
theorem dX8_goThrough_46 : decode cX8_goThrough 46 = .ok (.iconst 0, 1) := by decide +kernel
theorem dX8_goThrough_47 : decode cX8_goThrough 47 = .ok (.iastore, 1) := by decide +kernel
theorem dX8_goThrough_48 : decode cX8_goThrough 48 = .ok (.aload_n 0, 1) := by decide +kernel
theorem dX8_goThrough_49 : decode cX8_goThrough 49 = .ok (.getfield 62, 3) := by decide +kernel
theorem dX8_goThrough_52 : decode cX8_goThrough 52 = .ok (.iload 4, 2) := by decide +kernel
theorem dX8_goThrough_54 : decode cX8_goThrough 54 = .ok (.bipush (-6), 2) := by decide +kernel
theorem dX8_goThrough_56 : decode cX8_goThrough 56 = .ok (.iastore, 1) := by decide +kernel
theorem dX8_goThrough_57 : decode cX8_goThrough 57 = .ok (.iconst 0, 1) := by decide +kernel
theorem dX8_goThrough_58 : decode cX8_goThrough 58 = .ok (.istore 5, 2) := by decide +kernel
theorem dX8_goThrough_60 : decode cX8_goThrough 60 = .ok (.iload 5, 2) := by decide +kernel
theorem dX8_goThrough_62 : decode cX8_goThrough 62 = .ok (.bipush 12, 2) := by decide +kernel
theorem dX8_goThrough_64 : decode cX8_goThrough 64 = .ok (.if_icmp .ge 41, 3) := by decide +kernel
theorem dX8_goThrough_67 : decode cX8_goThrough 67 = .ok (.aload_n 0, 1) := by decide +kernel
theorem dX8_goThrough_68 : decode cX8_goThrough 68 = .ok (.getfield 29, 3) := by decide +kernel
theorem dX8_goThrough_71 : decode cX8_goThrough 71 = .ok (.bipush 12, 2) := by decide +kernel
theorem dX8_goThrough_73 : decode cX8_goThrough 73 = .ok (.iload 4, 2) := by decide +kernel
theorem dX8_goThrough_75 : decode cX8_goThrough 75 = .ok (.imul, 1) := by decide +kernel
theorem dX8_goThrough_76 : decode cX8_goThrough 76 = .ok (.iload 5, 2) := by decide +kernel
theorem dX8_goThrough_78 : decode cX8_goThrough 78 = .ok (.iadd, 1) := by decide +kernel
theorem dX8_goThrough_79 : decode cX8_goThrough 79 = .ok (.aload_n 0, 1) := by decide +kernel
theorem dX8_goThrough_80 : decode cX8_goThrough 80 = .ok (.getfield 7, 3) := by decide +kernel
theorem dX8_goThrough_83 : decode cX8_goThrough 83 = .ok (.bipush 10, 2) := by decide +kernel
theorem dX8_goThrough_85 : decode cX8_goThrough 85 = .ok (.bipush 100, 2) := by decide +kernel
theorem dX8_goThrough_87 : decode cX8_goThrough 87 = .ok (.iload 4, 2) := by decide +kernel
theorem dX8_goThrough_89 : decode cX8_goThrough 89 = .ok (.imul, 1) := by decide +kernel
theorem dX8_goThrough_90 : decode cX8_goThrough 90 = .ok (.iadd, 1) := by decide +kernel
theorem dX8_goThrough_91 : decode cX8_goThrough 91 = .ok (.bipush 70, 2) := by decide +kernel
theorem dX8_goThrough_93 : decode cX8_goThrough 93 = .ok (.iadd, 1) := by decide +kernel
theorem dX8_goThrough_94 : decode cX8_goThrough 94 = .ok (.iload 5, 2) := by decide +kernel
theorem dX8_goThrough_96 : decode cX8_goThrough 96 = .ok (.iadd, 1) := by decide +kernel
theorem dX8_goThrough_97 : decode cX8_goThrough 97 = .ok (.iaload, 1) := by decide +kernel
theorem dX8_goThrough_98 : decode cX8_goThrough 98 = .ok (.iastore, 1) := by decide +kernel
theorem dX8_goThrough_99 : decode cX8_goThrough 99 = .ok (.iinc 5 1, 3) := by decide +kernel
theorem dX8_goThrough_102 : decode cX8_goThrough 102 = .ok (.goto (-42), 3) := by decide +kernel
theorem dX8_goThrough_105 : decode cX8_goThrough 105 = .ok (.iconst 0, 1) := by decide +kernel
theorem dX8_goThrough_106 : decode cX8_goThrough 106 = .ok (.istore 5, 2) := by decide +kernel
theorem dX8_goThrough_108 : decode cX8_goThrough 108 = .ok (.iload 5, 2) := by decide +kernel
theorem dX8_goThrough_110 : decode cX8_goThrough 110 = .ok (.iconst 4, 1) := by decide +kernel
theorem dX8_goThrough_111 : decode cX8_goThrough 111 = .ok (.if_icmp .ge 22, 3) := by decide +kernel
theorem dX8_goThrough_114 : decode cX8_goThrough 114 = .ok (.aload_n 0, 1) := by decide +kernel
theorem dX8_goThrough_115 : decode cX8_goThrough 115 = .ok (.getfield 32, 3) := by decide +kernel
theorem dX8_goThrough_118 : decode cX8_goThrough 118 = .ok (.iconst 4, 1) := by decide +kernel
theorem dX8_goThrough_119 : decode cX8_goThrough 119 = .ok (.iload 4, 2) := by decide +kernel
theorem dX8_goThrough_121 : decode cX8_goThrough 121 = .ok (.imul, 1) := by decide +kernel
theorem dX8_goThrough_122 : decode cX8_goThrough 122 = .ok (.iload 5, 2) := by decide +kernel
theorem dX8_goThrough_124 : decode cX8_goThrough 124 = .ok (.iadd, 1) := by decide +kernel
theorem dX8_goThrough_125 : decode cX8_goThrough 125 = .ok (.iconst 0, 1) := by decide +kernel
theorem dX8_goThrough_126 : decode cX8_goThrough 126 = .ok (.iastore, 1) := by decide +kernel
theorem dX8_goThrough_127 : decode cX8_goThrough 127 = .ok (.iinc 5 1, 3) := by decide +kernel
theorem dX8_goThrough_130 : decode cX8_goThrough 130 = .ok (.goto (-22), 3) := by decide +kernel
theorem dX8_goThrough_133 : decode cX8_goThrough 133 = .ok (.iconst 0, 1) := by decide +kernel
theorem dX8_goThrough_134 : decode cX8_goThrough 134 = .ok (.istore 5, 2) := by decide +kernel
theorem dX8_goThrough_136 : decode cX8_goThrough 136 = .ok (.iload 5, 2) := by decide +kernel
theorem dX8_goThrough_138 : decode cX8_goThrough 138 = .ok (.iconst 5, 1) := by decide +kernel
theorem dX8_goThrough_139 : decode cX8_goThrough 139 = .ok (.if_icmp .ge 35, 3) := by decide +kernel
theorem dX8_goThrough_142 : decode cX8_goThrough 142 = .ok (.aload_n 0, 1) := by decide +kernel
theorem dX8_goThrough_143 : decode cX8_goThrough 143 = .ok (.getfield 53, 3) := by decide +kernel
theorem dX8_goThrough_146 : decode cX8_goThrough 146 = .ok (.iconst 5, 1) := by decide +kernel
theorem dX8_goThrough_147 : decode cX8_goThrough 147 = .ok (.iload 4, 2) := by decide +kernel
theorem dX8_goThrough_149 : decode cX8_goThrough 149 = .ok (.imul, 1) := by decide +kernel
theorem dX8_goThrough_150 : decode cX8_goThrough 150 = .ok (.iload 5, 2) := by decide +kernel
theorem dX8_goThrough_152 : decode cX8_goThrough 152 = .ok (.iadd, 1) := by decide +kernel
theorem dX8_goThrough_153 : decode cX8_goThrough 153 = .ok (.iconst 0, 1) := by decide +kernel
theorem dX8_goThrough_154 : decode cX8_goThrough 154 = .ok (.iastore, 1) := by decide +kernel
theorem dX8_goThrough_155 : decode cX8_goThrough 155 = .ok (.aload_n 0, 1) := by decide +kernel
theorem dX8_goThrough_156 : decode cX8_goThrough 156 = .ok (.getfield 56, 3) := by decide +kernel
theorem dX8_goThrough_159 : decode cX8_goThrough 159 = .ok (.iconst 5, 1) := by decide +kernel
theorem dX8_goThrough_160 : decode cX8_goThrough 160 = .ok (.iload 4, 2) := by decide +kernel
theorem dX8_goThrough_162 : decode cX8_goThrough 162 = .ok (.imul, 1) := by decide +kernel
theorem dX8_goThrough_163 : decode cX8_goThrough 163 = .ok (.iload 5, 2) := by decide +kernel
theorem dX8_goThrough_165 : decode cX8_goThrough 165 = .ok (.iadd, 1) := by decide +kernel
theorem dX8_goThrough_166 : decode cX8_goThrough 166 = .ok (.iconst 0, 1) := by decide +kernel
theorem dX8_goThrough_167 : decode cX8_goThrough 167 = .ok (.iastore, 1) := by decide +kernel
theorem dX8_goThrough_168 : decode cX8_goThrough 168 = .ok (.iinc 5 1, 3) := by decide +kernel
theorem dX8_goThrough_171 : decode cX8_goThrough 171 = .ok (.goto (-35), 3) := by decide +kernel
theorem dX8_goThrough_174 : decode cX8_goThrough 174 = .ok (.iinc 4 1, 3) := by decide +kernel
theorem dX8_goThrough_177 : decode cX8_goThrough 177 = .ok (.goto (-174), 3) := by decide +kernel
theorem dX8_goThrough_180 : decode cX8_goThrough 180 = .ok (.iconst 0, 1) := by decide +kernel
theorem dX8_goThrough_181 : decode cX8_goThrough 181 = .ok (.istore 4, 2) := by decide +kernel
theorem dX8_goThrough_183 : decode cX8_goThrough 183 = .ok (.aload_n 0, 1) := by decide +kernel
theorem dX8_goThrough_184 : decode cX8_goThrough 184 = .ok (.iconst 0, 1) := by decide +kernel
theorem dX8_goThrough_185 : decode cX8_goThrough 185 = .ok (.invokevirtual 143, 3) := by decide +kernel
theorem dX8_goThrough_188 : decode cX8_goThrough 188 = .ok (.ifCond .ne 11, 3) := by decide +kernel
theorem dX8_goThrough_191 : decode cX8_goThrough 191 = .ok (.aload_n 0, 1) := by decide +kernel
theorem dX8_goThrough_192 : decode cX8_goThrough 192 = .ok (.iconst 1, 1) := by decide +kernel
theorem dX8_goThrough_193 : decode cX8_goThrough 193 = .ok (.invokevirtual 143, 3) := by decide +kernel
theorem dX8_goThrough_196 : decode cX8_goThrough 196 = .ok (.ifCond .eq 99, 3) := by decide +kernel
theorem dX8_goThrough_199 : decode cX8_goThrough 199 = .ok (.aload_n 0, 1) := by decide +kernel
theorem dX8_goThrough_200 : decode cX8_goThrough 200 = .ok (.iload 4, 2) := by decide +kernel
theorem dX8_goThrough_202 : decode cX8_goThrough 202 = .ok (.iload_n 1, 1) := by decide +kernel
theorem dX8_goThrough_203 : decode cX8_goThrough 203 = .ok (.iload_n 2, 1) := by decide +kernel
theorem dX8_goThrough_204 : decode cX8_goThrough 204 = .ok (.invokevirtual 159, 3) := by decide +kernel
theorem dX8_goThrough_207 : decode cX8_goThrough 207 = .ok (.istore 5, 2) := by decide +kernel
theorem dX8_goThrough_209 : decode cX8_goThrough 209 = .ok (.iconst 0, 1) := by decide +kernel
theorem dX8_goThrough_210 : decode cX8_goThrough 210 = .ok (.istore 6, 2) := by decide +kernel
theorem dX8_goThrough_212 : decode cX8_goThrough 212 = .ok (.iload 6, 2) := by decide +kernel
theorem dX8_goThrough_214 : decode cX8_goThrough 214 = .ok (.iconst 2, 1) := by decide +kernel
theorem dX8_goThrough_215 : decode cX8_goThrough 215 = .ok (.if_icmp .ge 61, 3) := by decide +kernel
theorem dX8_goThrough_218 : decode cX8_goThrough 218 = .ok (.iload 6, 2) := by decide +kernel
theorem dX8_goThrough_220 : decode cX8_goThrough 220 = .ok (.iload 5, 2) := by decide +kernel
theorem dX8_goThrough_222 : decode cX8_goThrough 222 = .ok (.if_icmp .eq 48, 3) := by decide +kernel
theorem dX8_goThrough_225 : decode cX8_goThrough 225 = .ok (.aload_n 0, 1) := by decide +kernel
theorem dX8_goThrough_226 : decode cX8_goThrough 226 = .ok (.iload 6, 2) := by decide +kernel
theorem dX8_goThrough_228 : decode cX8_goThrough 228 = .ok (.invokevirtual 143, 3) := by decide +kernel
theorem dX8_goThrough_231 : decode cX8_goThrough 231 = .ok (.ifCond .eq 39, 3) := by decide +kernel
theorem dX8_goThrough_234 : decode cX8_goThrough 234 = .ok (.aload_n 0, 1) := by decide +kernel
theorem dX8_goThrough_235 : decode cX8_goThrough 235 = .ok (.iload 6, 2) := by decide +kernel
theorem dX8_goThrough_237 : decode cX8_goThrough 237 = .ok (.iload 4, 2) := by decide +kernel
theorem dX8_goThrough_239 : decode cX8_goThrough 239 = .ok (.iload_n 2, 1) := by decide +kernel
theorem dX8_goThrough_240 : decode cX8_goThrough 240 = .ok (.invokevirtual 146, 3) := by decide +kernel
theorem dX8_goThrough_243 : decode cX8_goThrough 243 = .ok (.istore 7, 2) := by decide +kernel
theorem dX8_goThrough_245 : decode cX8_goThrough 245 = .ok (.aload_n 0, 1) := by decide +kernel
theorem dX8_goThrough_246 : decode cX8_goThrough 246 = .ok (.getfield 56, 3) := by decide +kernel
theorem dX8_goThrough_249 : decode cX8_goThrough 249 = .ok (.iconst 5, 1) := by decide +kernel
theorem dX8_goThrough_250 : decode cX8_goThrough 250 = .ok (.iload 6, 2) := by decide +kernel
theorem dX8_goThrough_252 : decode cX8_goThrough 252 = .ok (.imul, 1) := by decide +kernel
theorem dX8_goThrough_253 : decode cX8_goThrough 253 = .ok (.iload 7, 2) := by decide +kernel
theorem dX8_goThrough_255 : decode cX8_goThrough 255 = .ok (.ifCond .ne 7, 3) := by decide +kernel
theorem dX8_goThrough_258 : decode cX8_goThrough 258 = .ok (.iconst 4, 1) := by decide +kernel
theorem dX8_goThrough_259 : decode cX8_goThrough 259 = .ok (.goto 5, 3) := by decide +kernel
theorem dX8_goThrough_262 : decode cX8_goThrough 262 = .ok (.iload 7, 2) := by decide +kernel
theorem dX8_goThrough_264 : decode cX8_goThrough 264 = .ok (.iadd, 1) := by decide +kernel
theorem dX8_goThrough_265 : decode cX8_goThrough 265 = .ok (.dup2, 1) := by decide +kernel
theorem dX8_goThrough_266 : decode cX8_goThrough 266 = .ok (.iaload, 1) := by decide +kernel
theorem dX8_goThrough_267 : decode cX8_goThrough 267 = .ok (.iconst 1, 1) := by decide +kernel
theorem dX8_goThrough_268 : decode cX8_goThrough 268 = .ok (.iadd, 1) := by decide +kernel
theorem dX8_goThrough_269 : decode cX8_goThrough 269 = .ok (.iastore, 1) := by decide +kernel
theorem dX8_goThrough_270 : decode cX8_goThrough 270 = .ok (.iinc 6 1, 3) := by decide +kernel
theorem dX8_goThrough_273 : decode cX8_goThrough 273 = .ok (.goto (-61), 3) := by decide +kernel
theorem dX8_goThrough_276 : decode cX8_goThrough 276 = .ok (.iload 5, 2) := by decide +kernel
theorem dX8_goThrough_278 : decode cX8_goThrough 278 = .ok (.ifCond .lt 11, 3) := by decide +kernel
theorem dX8_goThrough_281 : decode cX8_goThrough 281 = .ok (.aload_n 0, 1) := by decide +kernel
theorem dX8_goThrough_282 : decode cX8_goThrough 282 = .ok (.iload 5, 2) := by decide +kernel
theorem dX8_goThrough_284 : decode cX8_goThrough 284 = .ok (.iload 4, 2) := by decide +kernel
theorem dX8_goThrough_286 : decode cX8_goThrough 286 = .ok (.invokevirtual 162, 3) := by decide +kernel
theorem dX8_goThrough_289 : decode cX8_goThrough 289 = .ok (.iinc 4 1, 3) := by decide +kernel
theorem dX8_goThrough_292 : decode cX8_goThrough 292 = .ok (.goto (-109), 3) := by decide +kernel
theorem dX8_goThrough_295 : decode cX8_goThrough 295 = .ok (.aload_n 0, 1) := by decide +kernel
theorem dX8_goThrough_296 : decode cX8_goThrough 296 = .ok (.iconst 0, 1) := by decide +kernel
theorem dX8_goThrough_297 : decode cX8_goThrough 297 = .ok (.invokevirtual 166, 3) := by decide +kernel
theorem dX8_goThrough_300 : decode cX8_goThrough 300 = .ok (.aload_n 0, 1) := by decide +kernel
theorem dX8_goThrough_301 : decode cX8_goThrough 301 = .ok (.iconst 1, 1) := by decide +kernel
theorem dX8_goThrough_302 : decode cX8_goThrough 302 = .ok (.invokevirtual 166, 3) := by decide +kernel
theorem dX8_goThrough_305 : decode cX8_goThrough 305 = .ok (.if_icmp .le 11, 3) := by decide +kernel
theorem dX8_goThrough_308 : decode cX8_goThrough 308 = .ok (.aload_n 0, 1) := by decide +kernel
theorem dX8_goThrough_309 : decode cX8_goThrough 309 = .ok (.iconst 0, 1) := by decide +kernel
theorem dX8_goThrough_310 : decode cX8_goThrough 310 = .ok (.invokevirtual 166, 3) := by decide +kernel
theorem dX8_goThrough_313 : decode cX8_goThrough 313 = .ok (.goto 8, 3) := by decide +kernel
theorem dX8_goThrough_316 : decode cX8_goThrough 316 = .ok (.aload_n 0, 1) := by decide +kernel
theorem dX8_goThrough_317 : decode cX8_goThrough 317 = .ok (.iconst 1, 1) := by decide +kernel
theorem dX8_goThrough_318 : decode cX8_goThrough 318 = .ok (.invokevirtual 166, 3) := by decide +kernel
theorem dX8_goThrough_321 : decode cX8_goThrough 321 = .ok (.ireturn, 1) := by decide +kernel
theorem dX8_run_0 : decode cX8_run 0 = .ok (.aload_n 0, 1) := by decide +kernel
theorem dX8_run_1 : decode cX8_run 1 = .ok (.aload_n 0, 1) := by decide +kernel
theorem dX8_run_2 : decode cX8_run 2 = .ok (.getfield 7, 3) := by decide +kernel
theorem dX8_run_5 : decode cX8_run 5 = .ok (.iconst 0, 1) := by decide +kernel
theorem dX8_run_6 : decode cX8_run 6 = .ok (.iaload, 1) := by decide +kernel
theorem dX8_run_7 : decode cX8_run 7 = .ok (.bipush (-6), 2) := by decide +kernel
theorem dX8_run_9 : decode cX8_run 9 = .ok (.bipush (-6), 2) := by decide +kernel
theorem dX8_run_11 : decode cX8_run 11 = .ok (.invokevirtual 169, 3) := by decide +kernel
theorem dX8_run_14 : decode cX8_run 14 = .ok (.ireturn, 1) := by decide +kernel
theorem dX8_stepsOf_0 : decode cX8_stepsOf 0 = .ok (.iconst 0, 1) := by decide +kernel
theorem dX8_stepsOf_1 : decode cX8_stepsOf 1 = .ok (.istore_n 3, 1) := by decide +kernel
theorem dX8_stepsOf_2 : decode cX8_stepsOf 2 = .ok (.iconst 0, 1) := by decide +kernel
theorem dX8_stepsOf_3 : decode cX8_stepsOf 3 = .ok (.istore 4, 2) := by decide +kernel
theorem dX8_stepsOf_5 : decode cX8_stepsOf 5 = .ok (.iload 4, 2) := by decide +kernel
theorem dX8_stepsOf_7 : decode cX8_stepsOf 7 = .ok (.aload_n 0, 1) := by decide +kernel
theorem dX8_stepsOf_8 : decode cX8_stepsOf 8 = .ok (.getfield 47, 3) := by decide +kernel
theorem dX8_stepsOf_11 : decode cX8_stepsOf 11 = .ok (.iload_n 1, 1) := by decide +kernel
theorem dX8_stepsOf_12 : decode cX8_stepsOf 12 = .ok (.iaload, 1) := by decide +kernel
theorem dX8_stepsOf_13 : decode cX8_stepsOf 13 = .ok (.if_icmp .ge 42, 3) := by decide +kernel
theorem dX8_stepsOf_16 : decode cX8_stepsOf 16 = .ok (.iload_n 3, 1) := by decide +kernel
theorem dX8_stepsOf_17 : decode cX8_stepsOf 17 = .ok (.aload_n 0, 1) := by decide +kernel
theorem dX8_stepsOf_18 : decode cX8_stepsOf 18 = .ok (.iload_n 1, 1) := by decide +kernel
theorem dX8_stepsOf_19 : decode cX8_stepsOf 19 = .ok (.aload_n 0, 1) := by decide +kernel
theorem dX8_stepsOf_20 : decode cX8_stepsOf 20 = .ok (.getfield 38, 3) := by decide +kernel
theorem dX8_stepsOf_23 : decode cX8_stepsOf 23 = .ok (.bipush 100, 2) := by decide +kernel
theorem dX8_stepsOf_25 : decode cX8_stepsOf 25 = .ok (.iload_n 1, 1) := by decide +kernel
theorem dX8_stepsOf_26 : decode cX8_stepsOf 26 = .ok (.imul, 1) := by decide +kernel
theorem dX8_stepsOf_27 : decode cX8_stepsOf 27 = .ok (.iload 4, 2) := by decide +kernel
theorem dX8_stepsOf_29 : decode cX8_stepsOf 29 = .ok (.iadd, 1) := by decide +kernel
theorem dX8_stepsOf_30 : decode cX8_stepsOf 30 = .ok (.iaload, 1) := by decide +kernel
theorem dX8_stepsOf_31 : decode cX8_stepsOf 31 = .ok (.iconst 0, 1) := by decide +kernel
theorem dX8_stepsOf_32 : decode cX8_stepsOf 32 = .ok (.invokevirtual 132, 3) := by decide +kernel
theorem dX8_stepsOf_35 : decode cX8_stepsOf 35 = .ok (.invokestatic 136, 3) := by decide +kernel
theorem dX8_stepsOf_38 : decode cX8_stepsOf 38 = .ok (.iload_n 2, 1) := by decide +kernel
theorem dX8_stepsOf_39 : decode cX8_stepsOf 39 = .ok (.if_icmp .ne 7, 3) := by decide +kernel
theorem dX8_stepsOf_42 : decode cX8_stepsOf 42 = .ok (.iconst 1, 1) := by decide +kernel
theorem dX8_stepsOf_43 : decode cX8_stepsOf 43 = .ok (.goto 4, 3) := by decide +kernel
theorem dX8_stepsOf_46 : decode cX8_stepsOf 46 = .ok (.iconst 0, 1) := by decide +kernel
theorem dX8_stepsOf_47 : decode cX8_stepsOf 47 = .ok (.iadd, 1) := by decide +kernel
theorem dX8_stepsOf_48 : decode cX8_stepsOf 48 = .ok (.istore_n 3, 1) := by decide +kernel
theorem dX8_stepsOf_49 : decode cX8_stepsOf 49 = .ok (.iinc 4 1, 3) := by decide +kernel
theorem dX8_stepsOf_52 : decode cX8_stepsOf 52 = .ok (.goto (-47), 3) := by decide +kernel
theorem dX8_stepsOf_55 : decode cX8_stepsOf 55 = .ok (.iload_n 3, 1) := by decide +kernel
theorem dX8_stepsOf_56 : decode cX8_stepsOf 56 = .ok (.ireturn, 1) := by decide +kernel
theorem dX8_ofThread_0 : decode cX8_ofThread 0 = .ok (.iload_n 1, 1) := by decide +kernel
theorem dX8_ofThread_1 : decode cX8_ofThread 1 = .ok (.invokestatic 79, 3) := by decide +kernel
theorem dX8_ofThread_4 : decode cX8_ofThread 4 = .ok (.ifCond .ne 5, 3) := by decide +kernel
theorem dX8_ofThread_7 : decode cX8_ofThread 7 = .ok (.iconst (-1), 1) := by decide +kernel
theorem dX8_ofThread_8 : decode cX8_ofThread 8 = .ok (.ireturn, 1) := by decide +kernel
theorem dX8_ofThread_9 : decode cX8_ofThread 9 = .ok (.aload_n 0, 1) := by decide +kernel
theorem dX8_ofThread_10 : decode cX8_ofThread 10 = .ok (.invokevirtual 129, 3) := by decide +kernel
theorem dX8_ofThread_13 : decode cX8_ofThread 13 = .ok (.pop, 1) := by decide +kernel
theorem dX8_ofThread_14 : decode cX8_ofThread 14 = .ok (.iload_n 2, 1) := by decide +kernel
theorem dX8_ofThread_15 : decode cX8_ofThread 15 = .ok (.tableswitch 143 0 10 #[57, 63, 70, 76, 143, 143, 143, 143, 113, 133, 133], 57) := by decide +kernel
theorem dX8_ofThread_72 : decode cX8_ofThread 72 = .ok (.aload_n 0, 1) := by decide +kernel
theorem dX8_ofThread_73 : decode cX8_ofThread 73 = .ok (.iload_n 1, 1) := by decide +kernel
theorem dX8_ofThread_74 : decode cX8_ofThread 74 = .ok (.invokevirtual 125, 3) := by decide +kernel
theorem dX8_ofThread_77 : decode cX8_ofThread 77 = .ok (.ireturn, 1) := by decide +kernel
theorem dX8_ofThread_78 : decode cX8_ofThread 78 = .ok (.aload_n 0, 1) := by decide +kernel
theorem dX8_ofThread_79 : decode cX8_ofThread 79 = .ok (.getfield 47, 3) := by decide +kernel
theorem dX8_ofThread_82 : decode cX8_ofThread 82 = .ok (.iload_n 1, 1) := by decide +kernel
theorem dX8_ofThread_83 : decode cX8_ofThread 83 = .ok (.iaload, 1) := by decide +kernel
theorem dX8_ofThread_84 : decode cX8_ofThread 84 = .ok (.ireturn, 1) := by decide +kernel
theorem dX8_ofThread_85 : decode cX8_ofThread 85 = .ok (.aload_n 0, 1) := by decide +kernel
theorem dX8_ofThread_86 : decode cX8_ofThread 86 = .ok (.iload_n 1, 1) := by decide +kernel
theorem dX8_ofThread_87 : decode cX8_ofThread 87 = .ok (.invokevirtual 166, 3) := by decide +kernel
theorem dX8_ofThread_90 : decode cX8_ofThread 90 = .ok (.ireturn, 1) := by decide +kernel
theorem dX8_ofThread_91 : decode cX8_ofThread 91 = .ok (.aload_n 0, 1) := by decide +kernel
theorem dX8_ofThread_92 : decode cX8_ofThread 92 = .ok (.getfield 47, 3) := by decide +kernel
theorem dX8_ofThread_95 : decode cX8_ofThread 95 = .ok (.iload_n 1, 1) := by decide +kernel
theorem dX8_ofThread_96 : decode cX8_ofThread 96 = .ok (.iaload, 1) := by decide +kernel
theorem dX8_ofThread_97 : decode cX8_ofThread 97 = .ok (.bipush 100, 2) := by decide +kernel
theorem dX8_ofThread_99 : decode cX8_ofThread 99 = .ok (.if_icmp .ne 27, 3) := by decide +kernel
theorem dX8_ofThread_102 : decode cX8_ofThread 102 = .ok (.aload_n 0, 1) := by decide +kernel
theorem dX8_ofThread_103 : decode cX8_ofThread 103 = .ok (.getfield 50, 3) := by decide +kernel
theorem dX8_ofThread_106 : decode cX8_ofThread 106 = .ok (.iload_n 1, 1) := by decide +kernel
theorem dX8_ofThread_107 : decode cX8_ofThread 107 = .ok (.iaload, 1) := by decide +kernel
theorem dX8_ofThread_108 : decode cX8_ofThread 108 = .ok (.iconst 0, 1) := by decide +kernel
theorem dX8_ofThread_109 : decode cX8_ofThread 109 = .ok (.aload_n 0, 1) := by decide +kernel
theorem dX8_ofThread_110 : decode cX8_ofThread 110 = .ok (.iload_n 1, 1) := by decide +kernel
theorem dX8_ofThread_111 : decode cX8_ofThread 111 = .ok (.invokevirtual 125, 3) := by decide +kernel
theorem dX8_ofThread_114 : decode cX8_ofThread 114 = .ok (.iconst 1, 1) := by decide +kernel
theorem dX8_ofThread_115 : decode cX8_ofThread 115 = .ok (.isub, 1) := by decide +kernel
theorem dX8_ofThread_116 : decode cX8_ofThread 116 = .ok (.invokestatic 72, 3) := by decide +kernel
theorem dX8_ofThread_119 : decode cX8_ofThread 119 = .ok (.ifCond .eq 7, 3) := by decide +kernel
theorem dX8_ofThread_122 : decode cX8_ofThread 122 = .ok (.iconst 1, 1) := by decide +kernel
theorem dX8_ofThread_123 : decode cX8_ofThread 123 = .ok (.goto 4, 3) := by decide +kernel
theorem dX8_ofThread_126 : decode cX8_ofThread 126 = .ok (.iconst 0, 1) := by decide +kernel
theorem dX8_ofThread_127 : decode cX8_ofThread 127 = .ok (.ireturn, 1) := by decide +kernel
theorem dX8_ofThread_128 : decode cX8_ofThread 128 = .ok (.aload_n 0, 1) := by decide +kernel
theorem dX8_ofThread_129 : decode cX8_ofThread 129 = .ok (.getfield 47, 3) := by decide +kernel
theorem dX8_ofThread_132 : decode cX8_ofThread 132 = .ok (.iload_n 1, 1) := by decide +kernel
theorem dX8_ofThread_133 : decode cX8_ofThread 133 = .ok (.iaload, 1) := by decide +kernel
theorem dX8_ofThread_134 : decode cX8_ofThread 134 = .ok (.ifCond .ne 8, 3) := by decide +kernel
theorem dX8_ofThread_137 : decode cX8_ofThread 137 = .ok (.bipush (-6), 2) := by decide +kernel
theorem dX8_ofThread_139 : decode cX8_ofThread 139 = .ok (.goto 8, 3) := by decide +kernel
theorem dX8_ofThread_142 : decode cX8_ofThread 142 = .ok (.aload_n 0, 1) := by decide +kernel
theorem dX8_ofThread_143 : decode cX8_ofThread 143 = .ok (.iload_n 1, 1) := by decide +kernel
theorem dX8_ofThread_144 : decode cX8_ofThread 144 = .ok (.invokevirtual 149, 3) := by decide +kernel
theorem dX8_ofThread_147 : decode cX8_ofThread 147 = .ok (.ireturn, 1) := by decide +kernel
theorem dX8_ofThread_148 : decode cX8_ofThread 148 = .ok (.aload_n 0, 1) := by decide +kernel
theorem dX8_ofThread_149 : decode cX8_ofThread 149 = .ok (.iload_n 1, 1) := by decide +kernel
theorem dX8_ofThread_150 : decode cX8_ofThread 150 = .ok (.iload_n 2, 1) := by decide +kernel
theorem dX8_ofThread_151 : decode cX8_ofThread 151 = .ok (.bipush 9, 2) := by decide +kernel
theorem dX8_ofThread_153 : decode cX8_ofThread 153 = .ok (.isub, 1) := by decide +kernel
theorem dX8_ofThread_154 : decode cX8_ofThread 154 = .ok (.invokevirtual 172, 3) := by decide +kernel
theorem dX8_ofThread_157 : decode cX8_ofThread 157 = .ok (.ireturn, 1) := by decide +kernel
theorem dX8_ofThread_158 : decode cX8_ofThread 158 = .ok (.iload_n 2, 1) := by decide +kernel
theorem dX8_ofThread_159 : decode cX8_ofThread 159 = .ok (.iconst 4, 1) := by decide +kernel
theorem dX8_ofThread_160 : decode cX8_ofThread 160 = .ok (.bipush 7, 2) := by decide +kernel
theorem dX8_ofThread_162 : decode cX8_ofThread 162 = .ok (.invokestatic 72, 3) := by decide +kernel
theorem dX8_ofThread_165 : decode cX8_ofThread 165 = .ok (.ifCond .eq 18, 3) := by decide +kernel
theorem dX8_ofThread_168 : decode cX8_ofThread 168 = .ok (.aload_n 0, 1) := by decide +kernel
theorem dX8_ofThread_169 : decode cX8_ofThread 169 = .ok (.getfield 53, 3) := by decide +kernel
theorem dX8_ofThread_172 : decode cX8_ofThread 172 = .ok (.iconst 5, 1) := by decide +kernel
theorem dX8_ofThread_173 : decode cX8_ofThread 173 = .ok (.iload_n 1, 1) := by decide +kernel
theorem dX8_ofThread_174 : decode cX8_ofThread 174 = .ok (.imul, 1) := by decide +kernel
theorem dX8_ofThread_175 : decode cX8_ofThread 175 = .ok (.iload_n 2, 1) := by decide +kernel
theorem dX8_ofThread_176 : decode cX8_ofThread 176 = .ok (.iadd, 1) := by decide +kernel
theorem dX8_ofThread_177 : decode cX8_ofThread 177 = .ok (.iconst 3, 1) := by decide +kernel
theorem dX8_ofThread_178 : decode cX8_ofThread 178 = .ok (.isub, 1) := by decide +kernel
theorem dX8_ofThread_179 : decode cX8_ofThread 179 = .ok (.iaload, 1) := by decide +kernel
theorem dX8_ofThread_180 : decode cX8_ofThread 180 = .ok (.goto 5, 3) := by decide +kernel
theorem dX8_ofThread_183 : decode cX8_ofThread 183 = .ok (.bipush (-2), 2) := by decide +kernel
theorem dX8_ofThread_185 : decode cX8_ofThread 185 = .ok (.ireturn, 1) := by decide +kernel
theorem dX8_last_0 : decode cX8_last 0 = .ok (.iload_n 1, 1) := by decide +kernel
theorem dX8_last_1 : decode cX8_last 1 = .ok (.invokestatic 79, 3) := by decide +kernel
theorem dX8_last_4 : decode cX8_last 4 = .ok (.ifCond .eq 13, 3) := by decide +kernel
theorem dX8_last_7 : decode cX8_last 7 = .ok (.iload_n 2, 1) := by decide +kernel
theorem dX8_last_8 : decode cX8_last 8 = .ok (.iconst 0, 1) := by decide +kernel
theorem dX8_last_9 : decode cX8_last 9 = .ok (.bipush 11, 2) := by decide +kernel
theorem dX8_last_11 : decode cX8_last 11 = .ok (.invokestatic 72, 3) := by decide +kernel
theorem dX8_last_14 : decode cX8_last 14 = .ok (.ifCond .ne 5, 3) := by decide +kernel
theorem dX8_last_17 : decode cX8_last 17 = .ok (.iconst (-1), 1) := by decide +kernel
theorem dX8_last_18 : decode cX8_last 18 = .ok (.ireturn, 1) := by decide +kernel
theorem dX8_last_19 : decode cX8_last 19 = .ok (.aload_n 0, 1) := by decide +kernel
theorem dX8_last_20 : decode cX8_last 20 = .ok (.invokevirtual 129, 3) := by decide +kernel
theorem dX8_last_23 : decode cX8_last 23 = .ok (.pop, 1) := by decide +kernel
theorem dX8_last_24 : decode cX8_last 24 = .ok (.aload_n 0, 1) := by decide +kernel
theorem dX8_last_25 : decode cX8_last 25 = .ok (.iload_n 1, 1) := by decide +kernel
theorem dX8_last_26 : decode cX8_last 26 = .ok (.iload_n 2, 1) := by decide +kernel
theorem dX8_last_27 : decode cX8_last 27 = .ok (.invokevirtual 152, 3) := by decide +kernel
theorem dX8_last_30 : decode cX8_last 30 = .ok (.ireturn, 1) := by decide +kernel
theorem dX8_ofStep_0 : decode cX8_ofStep 0 = .ok (.aload_n 0, 1) := by decide +kernel
theorem dX8_ofStep_1 : decode cX8_ofStep 1 = .ok (.invokevirtual 129, 3) := by decide +kernel
theorem dX8_ofStep_4 : decode cX8_ofStep 4 = .ok (.pop, 1) := by decide +kernel
theorem dX8_ofStep_5 : decode cX8_ofStep 5 = .ok (.iload_n 1, 1) := by decide +kernel
theorem dX8_ofStep_6 : decode cX8_ofStep 6 = .ok (.invokestatic 79, 3) := by decide +kernel
theorem dX8_ofStep_9 : decode cX8_ofStep 9 = .ok (.ifCond .eq 19, 3) := by decide +kernel
theorem dX8_ofStep_12 : decode cX8_ofStep 12 = .ok (.iload_n 2, 1) := by decide +kernel
theorem dX8_ofStep_13 : decode cX8_ofStep 13 = .ok (.iconst 0, 1) := by decide +kernel
theorem dX8_ofStep_14 : decode cX8_ofStep 14 = .ok (.aload_n 0, 1) := by decide +kernel
theorem dX8_ofStep_15 : decode cX8_ofStep 15 = .ok (.getfield 47, 3) := by decide +kernel
theorem dX8_ofStep_18 : decode cX8_ofStep 18 = .ok (.iload_n 1, 1) := by decide +kernel
theorem dX8_ofStep_19 : decode cX8_ofStep 19 = .ok (.iaload, 1) := by decide +kernel
theorem dX8_ofStep_20 : decode cX8_ofStep 20 = .ok (.iconst 1, 1) := by decide +kernel
theorem dX8_ofStep_21 : decode cX8_ofStep 21 = .ok (.isub, 1) := by decide +kernel
theorem dX8_ofStep_22 : decode cX8_ofStep 22 = .ok (.invokestatic 72, 3) := by decide +kernel
theorem dX8_ofStep_25 : decode cX8_ofStep 25 = .ok (.ifCond .ne 5, 3) := by decide +kernel
theorem dX8_ofStep_28 : decode cX8_ofStep 28 = .ok (.iconst (-1), 1) := by decide +kernel
theorem dX8_ofStep_29 : decode cX8_ofStep 29 = .ok (.ireturn, 1) := by decide +kernel
theorem dX8_ofStep_30 : decode cX8_ofStep 30 = .ok (.bipush 100, 2) := by decide +kernel
theorem dX8_ofStep_32 : decode cX8_ofStep 32 = .ok (.iload_n 1, 1) := by decide +kernel
theorem dX8_ofStep_33 : decode cX8_ofStep 33 = .ok (.imul, 1) := by decide +kernel
theorem dX8_ofStep_34 : decode cX8_ofStep 34 = .ok (.iload_n 2, 1) := by decide +kernel
theorem dX8_ofStep_35 : decode cX8_ofStep 35 = .ok (.iadd, 1) := by decide +kernel
theorem dX8_ofStep_36 : decode cX8_ofStep 36 = .ok (.istore 4, 2) := by decide +kernel
theorem dX8_ofStep_38 : decode cX8_ofStep 38 = .ok (.iload_n 3, 1) := by decide +kernel
theorem dX8_ofStep_39 : decode cX8_ofStep 39 = .ok (.ifCond .ne 13, 3) := by decide +kernel
theorem dX8_ofStep_42 : decode cX8_ofStep 42 = .ok (.aload_n 0, 1) := by decide +kernel
theorem dX8_ofStep_43 : decode cX8_ofStep 43 = .ok (.getfield 35, 3) := by decide +kernel
theorem dX8_ofStep_46 : decode cX8_ofStep 46 = .ok (.iload 4, 2) := by decide +kernel
theorem dX8_ofStep_48 : decode cX8_ofStep 48 = .ok (.iaload, 1) := by decide +kernel
theorem dX8_ofStep_49 : decode cX8_ofStep 49 = .ok (.goto 50, 3) := by decide +kernel
theorem dX8_ofStep_52 : decode cX8_ofStep 52 = .ok (.iload_n 3, 1) := by decide +kernel
theorem dX8_ofStep_53 : decode cX8_ofStep 53 = .ok (.iconst 1, 1) := by decide +kernel
theorem dX8_ofStep_54 : decode cX8_ofStep 54 = .ok (.if_icmp .ne 13, 3) := by decide +kernel
theorem dX8_ofStep_57 : decode cX8_ofStep 57 = .ok (.aload_n 0, 1) := by decide +kernel
theorem dX8_ofStep_58 : decode cX8_ofStep 58 = .ok (.getfield 38, 3) := by decide +kernel
theorem dX8_ofStep_61 : decode cX8_ofStep 61 = .ok (.iload 4, 2) := by decide +kernel
theorem dX8_ofStep_63 : decode cX8_ofStep 63 = .ok (.iaload, 1) := by decide +kernel
theorem dX8_ofStep_64 : decode cX8_ofStep 64 = .ok (.goto 35, 3) := by decide +kernel
theorem dX8_ofStep_67 : decode cX8_ofStep 67 = .ok (.iload_n 3, 1) := by decide +kernel
theorem dX8_ofStep_68 : decode cX8_ofStep 68 = .ok (.iconst 2, 1) := by decide +kernel
theorem dX8_ofStep_69 : decode cX8_ofStep 69 = .ok (.if_icmp .ne 13, 3) := by decide +kernel
theorem dX8_ofStep_72 : decode cX8_ofStep 72 = .ok (.aload_n 0, 1) := by decide +kernel
theorem dX8_ofStep_73 : decode cX8_ofStep 73 = .ok (.getfield 41, 3) := by decide +kernel
theorem dX8_ofStep_76 : decode cX8_ofStep 76 = .ok (.iload 4, 2) := by decide +kernel
theorem dX8_ofStep_78 : decode cX8_ofStep 78 = .ok (.iaload, 1) := by decide +kernel
theorem dX8_ofStep_79 : decode cX8_ofStep 79 = .ok (.goto 20, 3) := by decide +kernel
theorem dX8_ofStep_82 : decode cX8_ofStep 82 = .ok (.iload_n 3, 1) := by decide +kernel
theorem dX8_ofStep_83 : decode cX8_ofStep 83 = .ok (.iconst 3, 1) := by decide +kernel
theorem dX8_ofStep_84 : decode cX8_ofStep 84 = .ok (.if_icmp .ne 13, 3) := by decide +kernel
theorem dX8_ofStep_87 : decode cX8_ofStep 87 = .ok (.aload_n 0, 1) := by decide +kernel
theorem dX8_ofStep_88 : decode cX8_ofStep 88 = .ok (.getfield 44, 3) := by decide +kernel
theorem dX8_ofStep_91 : decode cX8_ofStep 91 = .ok (.iload 4, 2) := by decide +kernel
theorem dX8_ofStep_93 : decode cX8_ofStep 93 = .ok (.iaload, 1) := by decide +kernel
theorem dX8_ofStep_94 : decode cX8_ofStep 94 = .ok (.goto 5, 3) := by decide +kernel
theorem dX8_ofStep_97 : decode cX8_ofStep 97 = .ok (.bipush (-2), 2) := by decide +kernel
theorem dX8_ofStep_99 : decode cX8_ofStep 99 = .ok (.ireturn, 1) := by decide +kernel
theorem dX8_at_0 : decode cX8_at 0 = .ok (.iload_n 1, 1) := by decide +kernel
theorem dX8_at_1 : decode cX8_at 1 = .ok (.ifCond .lt 12, 3) := by decide +kernel
theorem dX8_at_4 : decode cX8_at 4 = .ok (.iload_n 2, 1) := by decide +kernel
theorem dX8_at_5 : decode cX8_at 5 = .ok (.iconst 0, 1) := by decide +kernel
theorem dX8_at_6 : decode cX8_at 6 = .ok (.iconst 2, 1) := by decide +kernel
theorem dX8_at_7 : decode cX8_at 7 = .ok (.invokestatic 72, 3) := by decide +kernel
theorem dX8_at_10 : decode cX8_at 10 = .ok (.ifCond .ne 6, 3) := by decide +kernel
theorem dX8_at_13 : decode cX8_at 13 = .ok (.bipush (-2), 2) := by decide +kernel
theorem dX8_at_15 : decode cX8_at 15 = .ok (.ireturn, 1) := by decide +kernel
theorem dX8_at_16 : decode cX8_at 16 = .ok (.aload_n 0, 1) := by decide +kernel
theorem dX8_at_17 : decode cX8_at 17 = .ok (.invokevirtual 129, 3) := by decide +kernel
theorem dX8_at_20 : decode cX8_at 20 = .ok (.pop, 1) := by decide +kernel
theorem dX8_at_21 : decode cX8_at 21 = .ok (.iconst 0, 1) := by decide +kernel
theorem dX8_at_22 : decode cX8_at 22 = .ok (.istore_n 3, 1) := by decide +kernel
theorem dX8_at_23 : decode cX8_at 23 = .ok (.iload_n 3, 1) := by decide +kernel
theorem dX8_at_24 : decode cX8_at 24 = .ok (.iconst 2, 1) := by decide +kernel
theorem dX8_at_25 : decode cX8_at 25 = .ok (.if_icmp .ge 113, 3) := by decide +kernel
theorem dX8_at_28 : decode cX8_at 28 = .ok (.bipush 100, 2) := by decide +kernel
theorem dX8_at_30 : decode cX8_at 30 = .ok (.iload_n 3, 1) := by decide +kernel
theorem dX8_at_31 : decode cX8_at 31 = .ok (.imul, 1) := by decide +kernel
theorem dX8_at_32 : decode cX8_at 32 = .ok (.istore 4, 2) := by decide +kernel
theorem dX8_at_34 : decode cX8_at 34 = .ok (.iload 4, 2) := by decide +kernel
theorem dX8_at_36 : decode cX8_at 36 = .ok (.bipush 100, 2) := by decide +kernel
theorem dX8_at_38 : decode cX8_at 38 = .ok (.iload_n 3, 1) := by decide +kernel
theorem dX8_at_39 : decode cX8_at 39 = .ok (.imul, 1) := by decide +kernel
theorem dX8_at_40 : decode cX8_at 40 = .ok (.aload_n 0, 1) := by decide +kernel
theorem dX8_at_41 : decode cX8_at 41 = .ok (.getfield 47, 3) := by decide +kernel
theorem dX8_at_44 : decode cX8_at 44 = .ok (.iload_n 3, 1) := by decide +kernel
theorem dX8_at_45 : decode cX8_at 45 = .ok (.iaload, 1) := by decide +kernel
theorem dX8_at_46 : decode cX8_at 46 = .ok (.iadd, 1) := by decide +kernel
theorem dX8_at_47 : decode cX8_at 47 = .ok (.if_icmp .ge 85, 3) := by decide +kernel
theorem dX8_at_50 : decode cX8_at 50 = .ok (.aload_n 0, 1) := by decide +kernel
theorem dX8_at_51 : decode cX8_at 51 = .ok (.getfield 35, 3) := by decide +kernel
theorem dX8_at_54 : decode cX8_at 54 = .ok (.iload 4, 2) := by decide +kernel
theorem dX8_at_56 : decode cX8_at 56 = .ok (.iaload, 1) := by decide +kernel
theorem dX8_at_57 : decode cX8_at 57 = .ok (.iload_n 1, 1) := by decide +kernel
theorem dX8_at_58 : decode cX8_at 58 = .ok (.if_icmp .gt 40, 3) := by decide +kernel
theorem dX8_at_61 : decode cX8_at 61 = .ok (.iload_n 1, 1) := by decide +kernel
theorem dX8_at_62 : decode cX8_at 62 = .ok (.aload_n 0, 1) := by decide +kernel
theorem dX8_at_63 : decode cX8_at 63 = .ok (.getfield 41, 3) := by decide +kernel
theorem dX8_at_66 : decode cX8_at 66 = .ok (.iload 4, 2) := by decide +kernel
theorem dX8_at_68 : decode cX8_at 68 = .ok (.iaload, 1) := by decide +kernel
theorem dX8_at_69 : decode cX8_at 69 = .ok (.if_icmp .ge 29, 3) := by decide +kernel
theorem dX8_at_72 : decode cX8_at 72 = .ok (.aload_n 0, 1) := by decide +kernel
theorem dX8_at_73 : decode cX8_at 73 = .ok (.iload_n 3, 1) := by decide +kernel
theorem dX8_at_74 : decode cX8_at 74 = .ok (.aload_n 0, 1) := by decide +kernel
theorem dX8_at_75 : decode cX8_at 75 = .ok (.getfield 38, 3) := by decide +kernel
theorem dX8_at_78 : decode cX8_at 78 = .ok (.iload 4, 2) := by decide +kernel
theorem dX8_at_80 : decode cX8_at 80 = .ok (.iaload, 1) := by decide +kernel
theorem dX8_at_81 : decode cX8_at 81 = .ok (.iconst 0, 1) := by decide +kernel
theorem dX8_at_82 : decode cX8_at 82 = .ok (.invokevirtual 132, 3) := by decide +kernel
theorem dX8_at_85 : decode cX8_at 85 = .ok (.invokestatic 136, 3) := by decide +kernel
theorem dX8_at_88 : decode cX8_at 88 = .ok (.iload_n 2, 1) := by decide +kernel
theorem dX8_at_89 : decode cX8_at 89 = .ok (.iconst 1, 1) := by decide +kernel
theorem dX8_at_90 : decode cX8_at 90 = .ok (.isub, 1) := by decide +kernel
theorem dX8_at_91 : decode cX8_at 91 = .ok (.if_icmp .ne 7, 3) := by decide +kernel
theorem dX8_at_94 : decode cX8_at 94 = .ok (.iconst 1, 1) := by decide +kernel
theorem dX8_at_95 : decode cX8_at 95 = .ok (.goto 4, 3) := by decide +kernel
theorem dX8_at_98 : decode cX8_at 98 = .ok (.iconst 0, 1) := by decide +kernel
theorem dX8_at_99 : decode cX8_at 99 = .ok (.istore 5, 2) := by decide +kernel
theorem dX8_at_101 : decode cX8_at 101 = .ok (.iload_n 2, 1) := by decide +kernel
theorem dX8_at_102 : decode cX8_at 102 = .ok (.ifCond .ne 17, 3) := by decide +kernel
theorem dX8_at_105 : decode cX8_at 105 = .ok (.aload_n 0, 1) := by decide +kernel
theorem dX8_at_106 : decode cX8_at 106 = .ok (.getfield 35, 3) := by decide +kernel
theorem dX8_at_109 : decode cX8_at 109 = .ok (.iload 4, 2) := by decide +kernel
theorem dX8_at_111 : decode cX8_at 111 = .ok (.iaload, 1) := by decide +kernel
theorem dX8_at_112 : decode cX8_at 112 = .ok (.iload_n 1, 1) := by decide +kernel
theorem dX8_at_113 : decode cX8_at 113 = .ok (.if_icmp .ne 13, 3) := by decide +kernel
theorem dX8_at_116 : decode cX8_at 116 = .ok (.goto 8, 3) := by decide +kernel
theorem dX8_at_119 : decode cX8_at 119 = .ok (.iload 5, 2) := by decide +kernel
theorem dX8_at_121 : decode cX8_at 121 = .ok (.ifCond .eq 5, 3) := by decide +kernel
theorem dX8_at_124 : decode cX8_at 124 = .ok (.iload_n 3, 1) := by decide +kernel
theorem dX8_at_125 : decode cX8_at 125 = .ok (.ireturn, 1) := by decide +kernel
theorem dX8_at_126 : decode cX8_at 126 = .ok (.iinc 4 1, 3) := by decide +kernel
theorem dX8_at_129 : decode cX8_at 129 = .ok (.goto (-95), 3) := by decide +kernel
theorem dX8_at_132 : decode cX8_at 132 = .ok (.iinc 3 1, 3) := by decide +kernel
theorem dX8_at_135 : decode cX8_at 135 = .ok (.goto (-112), 3) := by decide +kernel
theorem dX8_at_138 : decode cX8_at 138 = .ok (.bipush (-6), 2) := by decide +kernel
theorem dX8_at_140 : decode cX8_at 140 = .ok (.ireturn, 1) := by decide +kernel
theorem dX8_count_0 : decode cX8_count 0 = .ok (.iload_n 1, 1) := by decide +kernel
theorem dX8_count_1 : decode cX8_count 1 = .ok (.bipush 7, 2) := by decide +kernel
theorem dX8_count_3 : decode cX8_count 3 = .ok (.bipush 9, 2) := by decide +kernel
theorem dX8_count_5 : decode cX8_count 5 = .ok (.invokestatic 72, 3) := by decide +kernel
theorem dX8_count_8 : decode cX8_count 8 = .ok (.ifCond .eq 13, 3) := by decide +kernel
theorem dX8_count_11 : decode cX8_count 11 = .ok (.aload_n 0, 1) := by decide +kernel
theorem dX8_count_12 : decode cX8_count 12 = .ok (.getfield 7, 3) := by decide +kernel
theorem dX8_count_15 : decode cX8_count 15 = .ok (.iload_n 1, 1) := by decide +kernel
theorem dX8_count_16 : decode cX8_count 16 = .ok (.bipush 7, 2) := by decide +kernel
theorem dX8_count_18 : decode cX8_count 18 = .ok (.isub, 1) := by decide +kernel
theorem dX8_count_19 : decode cX8_count 19 = .ok (.iaload, 1) := by decide +kernel
theorem dX8_count_20 : decode cX8_count 20 = .ok (.ireturn, 1) := by decide +kernel
theorem dX8_count_21 : decode cX8_count 21 = .ok (.aload_n 0, 1) := by decide +kernel
theorem dX8_count_22 : decode cX8_count 22 = .ok (.invokevirtual 129, 3) := by decide +kernel
theorem dX8_count_25 : decode cX8_count 25 = .ok (.istore_n 2, 1) := by decide +kernel
theorem dX8_count_26 : decode cX8_count 26 = .ok (.iload_n 1, 1) := by decide +kernel
theorem dX8_count_27 : decode cX8_count 27 = .ok (.tableswitch 116 0 5 #[37, 39, 53, 69, 90, 111], 37) := by decide +kernel
theorem dX8_count_64 : decode cX8_count 64 = .ok (.iload_n 2, 1) := by decide +kernel
theorem dX8_count_65 : decode cX8_count 65 = .ok (.ireturn, 1) := by decide +kernel
theorem dX8_count_66 : decode cX8_count 66 = .ok (.aload_n 0, 1) := by decide +kernel
theorem dX8_count_67 : decode cX8_count 67 = .ok (.getfield 47, 3) := by decide +kernel
theorem dX8_count_70 : decode cX8_count 70 = .ok (.iconst 0, 1) := by decide +kernel
theorem dX8_count_71 : decode cX8_count 71 = .ok (.iaload, 1) := by decide +kernel
theorem dX8_count_72 : decode cX8_count 72 = .ok (.aload_n 0, 1) := by decide +kernel
theorem dX8_count_73 : decode cX8_count 73 = .ok (.getfield 47, 3) := by decide +kernel
theorem dX8_count_76 : decode cX8_count 76 = .ok (.iconst 1, 1) := by decide +kernel
theorem dX8_count_77 : decode cX8_count 77 = .ok (.iaload, 1) := by decide +kernel
theorem dX8_count_78 : decode cX8_count 78 = .ok (.iadd, 1) := by decide +kernel
theorem dX8_count_79 : decode cX8_count 79 = .ok (.ireturn, 1) := by decide +kernel
theorem dX8_count_80 : decode cX8_count 80 = .ok (.iload_n 2, 1) := by decide +kernel
theorem dX8_count_81 : decode cX8_count 81 = .ok (.aload_n 0, 1) := by decide +kernel
theorem dX8_count_82 : decode cX8_count 82 = .ok (.getfield 47, 3) := by decide +kernel
theorem dX8_count_85 : decode cX8_count 85 = .ok (.iconst 0, 1) := by decide +kernel
theorem dX8_count_86 : decode cX8_count 86 = .ok (.iaload, 1) := by decide +kernel
theorem dX8_count_87 : decode cX8_count 87 = .ok (.isub, 1) := by decide +kernel
theorem dX8_count_88 : decode cX8_count 88 = .ok (.aload_n 0, 1) := by decide +kernel
theorem dX8_count_89 : decode cX8_count 89 = .ok (.getfield 47, 3) := by decide +kernel
theorem dX8_count_92 : decode cX8_count 92 = .ok (.iconst 1, 1) := by decide +kernel
theorem dX8_count_93 : decode cX8_count 93 = .ok (.iaload, 1) := by decide +kernel
theorem dX8_count_94 : decode cX8_count 94 = .ok (.isub, 1) := by decide +kernel
theorem dX8_count_95 : decode cX8_count 95 = .ok (.ireturn, 1) := by decide +kernel
theorem dX8_count_96 : decode cX8_count 96 = .ok (.aload_n 0, 1) := by decide +kernel
theorem dX8_count_97 : decode cX8_count 97 = .ok (.iconst 0, 1) := by decide +kernel
theorem dX8_count_98 : decode cX8_count 98 = .ok (.iconst 0, 1) := by decide +kernel
theorem dX8_count_99 : decode cX8_count 99 = .ok (.invokevirtual 172, 3) := by decide +kernel
theorem dX8_count_102 : decode cX8_count 102 = .ok (.aload_n 0, 1) := by decide +kernel
theorem dX8_count_103 : decode cX8_count 103 = .ok (.iconst 1, 1) := by decide +kernel
theorem dX8_count_104 : decode cX8_count 104 = .ok (.iconst 0, 1) := by decide +kernel
theorem dX8_count_105 : decode cX8_count 105 = .ok (.invokevirtual 172, 3) := by decide +kernel
theorem dX8_count_108 : decode cX8_count 108 = .ok (.iadd, 1) := by decide +kernel
theorem dX8_count_109 : decode cX8_count 109 = .ok (.aload_n 0, 1) := by decide +kernel
theorem dX8_count_110 : decode cX8_count 110 = .ok (.getfield 7, 3) := by decide +kernel
theorem dX8_count_113 : decode cX8_count 113 = .ok (.iconst 1, 1) := by decide +kernel
theorem dX8_count_114 : decode cX8_count 114 = .ok (.iaload, 1) := by decide +kernel
theorem dX8_count_115 : decode cX8_count 115 = .ok (.imul, 1) := by decide +kernel
theorem dX8_count_116 : decode cX8_count 116 = .ok (.ireturn, 1) := by decide +kernel
theorem dX8_count_117 : decode cX8_count 117 = .ok (.aload_n 0, 1) := by decide +kernel
theorem dX8_count_118 : decode cX8_count 118 = .ok (.iconst 0, 1) := by decide +kernel
theorem dX8_count_119 : decode cX8_count 119 = .ok (.iconst 1, 1) := by decide +kernel
theorem dX8_count_120 : decode cX8_count 120 = .ok (.invokevirtual 172, 3) := by decide +kernel
theorem dX8_count_123 : decode cX8_count 123 = .ok (.aload_n 0, 1) := by decide +kernel
theorem dX8_count_124 : decode cX8_count 124 = .ok (.iconst 1, 1) := by decide +kernel
theorem dX8_count_125 : decode cX8_count 125 = .ok (.iconst 1, 1) := by decide +kernel
theorem dX8_count_126 : decode cX8_count 126 = .ok (.invokevirtual 172, 3) := by decide +kernel
theorem dX8_count_129 : decode cX8_count 129 = .ok (.iadd, 1) := by decide +kernel
theorem dX8_count_130 : decode cX8_count 130 = .ok (.aload_n 0, 1) := by decide +kernel
theorem dX8_count_131 : decode cX8_count 131 = .ok (.getfield 7, 3) := by decide +kernel
theorem dX8_count_134 : decode cX8_count 134 = .ok (.iconst 2, 1) := by decide +kernel
theorem dX8_count_135 : decode cX8_count 135 = .ok (.iaload, 1) := by decide +kernel
theorem dX8_count_136 : decode cX8_count 136 = .ok (.imul, 1) := by decide +kernel
theorem dX8_count_137 : decode cX8_count 137 = .ok (.ireturn, 1) := by decide +kernel
theorem dX8_count_138 : decode cX8_count 138 = .ok (.aload_n 0, 1) := by decide +kernel
theorem dX8_count_139 : decode cX8_count 139 = .ok (.getfield 86, 3) := by decide +kernel
theorem dX8_count_142 : decode cX8_count 142 = .ok (.ireturn, 1) := by decide +kernel
theorem dX8_count_143 : decode cX8_count 143 = .ok (.iload_n 1, 1) := by decide +kernel
theorem dX8_count_144 : decode cX8_count 144 = .ok (.bipush 6, 2) := by decide +kernel
theorem dX8_count_146 : decode cX8_count 146 = .ok (.if_icmp .ne 10, 3) := by decide +kernel
theorem dX8_count_149 : decode cX8_count 149 = .ok (.aload_n 0, 1) := by decide +kernel
theorem dX8_count_150 : decode cX8_count 150 = .ok (.getfield 68, 3) := by decide +kernel
theorem dX8_count_153 : decode cX8_count 153 = .ok (.goto 5, 3) := by decide +kernel
theorem dX8_count_156 : decode cX8_count 156 = .ok (.bipush (-2), 2) := by decide +kernel
theorem dX8_count_158 : decode cX8_count 158 = .ok (.ireturn, 1) := by decide +kernel
theorem dX8_alone_0 : decode cX8_alone 0 = .ok (.iload_n 1, 1) := by decide +kernel
theorem dX8_alone_1 : decode cX8_alone 1 = .ok (.invokestatic 79, 3) := by decide +kernel
theorem dX8_alone_4 : decode cX8_alone 4 = .ok (.ifCond .eq 19, 3) := by decide +kernel
theorem dX8_alone_7 : decode cX8_alone 7 = .ok (.aload_n 0, 1) := by decide +kernel
theorem dX8_alone_8 : decode cX8_alone 8 = .ok (.aload_n 0, 1) := by decide +kernel
theorem dX8_alone_9 : decode cX8_alone 9 = .ok (.getfield 7, 3) := by decide +kernel
theorem dX8_alone_12 : decode cX8_alone 12 = .ok (.iconst 0, 1) := by decide +kernel
theorem dX8_alone_13 : decode cX8_alone 13 = .ok (.iaload, 1) := by decide +kernel
theorem dX8_alone_14 : decode cX8_alone 14 = .ok (.bipush (-6), 2) := by decide +kernel
theorem dX8_alone_16 : decode cX8_alone 16 = .ok (.iload_n 1, 1) := by decide +kernel
theorem dX8_alone_17 : decode cX8_alone 17 = .ok (.invokevirtual 169, 3) := by decide +kernel
theorem dX8_alone_20 : decode cX8_alone 20 = .ok (.goto 4, 3) := by decide +kernel
theorem dX8_alone_23 : decode cX8_alone 23 = .ok (.iconst (-1), 1) := by decide +kernel
theorem dX8_alone_24 : decode cX8_alone 24 = .ok (.ireturn, 1) := by decide +kernel
theorem dX8_lengthWith_0 : decode cX8_lengthWith 0 = .ok (.iload_n 1, 1) := by decide +kernel
theorem dX8_lengthWith_1 : decode cX8_lengthWith 1 = .ok (.iconst 0, 1) := by decide +kernel
theorem dX8_lengthWith_2 : decode cX8_lengthWith 2 = .ok (.iconst 2, 1) := by decide +kernel
theorem dX8_lengthWith_3 : decode cX8_lengthWith 3 = .ok (.invokestatic 72, 3) := by decide +kernel
theorem dX8_lengthWith_6 : decode cX8_lengthWith 6 = .ok (.ifCond .eq 15, 3) := by decide +kernel
theorem dX8_lengthWith_9 : decode cX8_lengthWith 9 = .ok (.aload_n 0, 1) := by decide +kernel
theorem dX8_lengthWith_10 : decode cX8_lengthWith 10 = .ok (.iload_n 1, 1) := by decide +kernel
theorem dX8_lengthWith_11 : decode cX8_lengthWith 11 = .ok (.bipush (-6), 2) := by decide +kernel
theorem dX8_lengthWith_13 : decode cX8_lengthWith 13 = .ok (.bipush (-6), 2) := by decide +kernel
theorem dX8_lengthWith_15 : decode cX8_lengthWith 15 = .ok (.invokevirtual 169, 3) := by decide +kernel
theorem dX8_lengthWith_18 : decode cX8_lengthWith 18 = .ok (.goto 5, 3) := by decide +kernel
theorem dX8_lengthWith_21 : decode cX8_lengthWith 21 = .ok (.bipush (-2), 2) := by decide +kernel
theorem dX8_lengthWith_23 : decode cX8_lengthWith 23 = .ok (.ireturn, 1) := by decide +kernel
theorem dX8_bestTurns_0 : decode cX8_bestTurns 0 = .ok (.iconst 0, 1) := by decide +kernel
theorem dX8_bestTurns_1 : decode cX8_bestTurns 1 = .ok (.istore_n 1, 1) := by decide +kernel
theorem dX8_bestTurns_2 : decode cX8_bestTurns 2 = .ok (.aload_n 0, 1) := by decide +kernel
theorem dX8_bestTurns_3 : decode cX8_bestTurns 3 = .ok (.iconst 0, 1) := by decide +kernel
theorem dX8_bestTurns_4 : decode cX8_bestTurns 4 = .ok (.bipush (-6), 2) := by decide +kernel
theorem dX8_bestTurns_6 : decode cX8_bestTurns 6 = .ok (.bipush (-6), 2) := by decide +kernel
theorem dX8_bestTurns_8 : decode cX8_bestTurns 8 = .ok (.invokevirtual 169, 3) := by decide +kernel
theorem dX8_bestTurns_11 : decode cX8_bestTurns 11 = .ok (.istore_n 2, 1) := by decide +kernel
theorem dX8_bestTurns_12 : decode cX8_bestTurns 12 = .ok (.iconst 1, 1) := by decide +kernel
theorem dX8_bestTurns_13 : decode cX8_bestTurns 13 = .ok (.istore_n 3, 1) := by decide +kernel
theorem dX8_bestTurns_14 : decode cX8_bestTurns 14 = .ok (.iload_n 3, 1) := by decide +kernel
theorem dX8_bestTurns_15 : decode cX8_bestTurns 15 = .ok (.iconst 3, 1) := by decide +kernel
theorem dX8_bestTurns_16 : decode cX8_bestTurns 16 = .ok (.if_icmp .ge 45, 3) := by decide +kernel
theorem dX8_bestTurns_19 : decode cX8_bestTurns 19 = .ok (.aload_n 0, 1) := by decide +kernel
theorem dX8_bestTurns_20 : decode cX8_bestTurns 20 = .ok (.iload_n 3, 1) := by decide +kernel
theorem dX8_bestTurns_21 : decode cX8_bestTurns 21 = .ok (.bipush (-6), 2) := by decide +kernel
theorem dX8_bestTurns_23 : decode cX8_bestTurns 23 = .ok (.bipush (-6), 2) := by decide +kernel
theorem dX8_bestTurns_25 : decode cX8_bestTurns 25 = .ok (.invokevirtual 169, 3) := by decide +kernel
theorem dX8_bestTurns_28 : decode cX8_bestTurns 28 = .ok (.istore 4, 2) := by decide +kernel
theorem dX8_bestTurns_30 : decode cX8_bestTurns 30 = .ok (.iload 4, 2) := by decide +kernel
theorem dX8_bestTurns_32 : decode cX8_bestTurns 32 = .ok (.iload_n 2, 1) := by decide +kernel
theorem dX8_bestTurns_33 : decode cX8_bestTurns 33 = .ok (.if_icmp .ge 7, 3) := by decide +kernel
theorem dX8_bestTurns_36 : decode cX8_bestTurns 36 = .ok (.iload_n 3, 1) := by decide +kernel
theorem dX8_bestTurns_37 : decode cX8_bestTurns 37 = .ok (.goto 4, 3) := by decide +kernel
theorem dX8_bestTurns_40 : decode cX8_bestTurns 40 = .ok (.iload_n 1, 1) := by decide +kernel
theorem dX8_bestTurns_41 : decode cX8_bestTurns 41 = .ok (.istore_n 1, 1) := by decide +kernel
theorem dX8_bestTurns_42 : decode cX8_bestTurns 42 = .ok (.iload 4, 2) := by decide +kernel
theorem dX8_bestTurns_44 : decode cX8_bestTurns 44 = .ok (.iload_n 2, 1) := by decide +kernel
theorem dX8_bestTurns_45 : decode cX8_bestTurns 45 = .ok (.if_icmp .ge 8, 3) := by decide +kernel
theorem dX8_bestTurns_48 : decode cX8_bestTurns 48 = .ok (.iload 4, 2) := by decide +kernel
theorem dX8_bestTurns_50 : decode cX8_bestTurns 50 = .ok (.goto 4, 3) := by decide +kernel
theorem dX8_bestTurns_53 : decode cX8_bestTurns 53 = .ok (.iload_n 2, 1) := by decide +kernel
theorem dX8_bestTurns_54 : decode cX8_bestTurns 54 = .ok (.istore_n 2, 1) := by decide +kernel
theorem dX8_bestTurns_55 : decode cX8_bestTurns 55 = .ok (.iinc 3 1, 3) := by decide +kernel
theorem dX8_bestTurns_58 : decode cX8_bestTurns 58 = .ok (.goto (-44), 3) := by decide +kernel
theorem dX8_bestTurns_61 : decode cX8_bestTurns 61 = .ok (.iload_n 1, 1) := by decide +kernel
theorem dX8_bestTurns_62 : decode cX8_bestTurns 62 = .ok (.ireturn, 1) := by decide +kernel
theorem dX8_lengthWithout_0 : decode cX8_lengthWithout 0 = .ok (.iload_n 1, 1) := by decide +kernel
theorem dX8_lengthWithout_1 : decode cX8_lengthWithout 1 = .ok (.iconst 0, 1) := by decide +kernel
theorem dX8_lengthWithout_2 : decode cX8_lengthWithout 2 = .ok (.iconst 1, 1) := by decide +kernel
theorem dX8_lengthWithout_3 : decode cX8_lengthWithout 3 = .ok (.invokestatic 72, 3) := by decide +kernel
theorem dX8_lengthWithout_6 : decode cX8_lengthWithout 6 = .ok (.ifCond .eq 19, 3) := by decide +kernel
theorem dX8_lengthWithout_9 : decode cX8_lengthWithout 9 = .ok (.aload_n 0, 1) := by decide +kernel
theorem dX8_lengthWithout_10 : decode cX8_lengthWithout 10 = .ok (.aload_n 0, 1) := by decide +kernel
theorem dX8_lengthWithout_11 : decode cX8_lengthWithout 11 = .ok (.getfield 7, 3) := by decide +kernel
theorem dX8_lengthWithout_14 : decode cX8_lengthWithout 14 = .ok (.iconst 0, 1) := by decide +kernel
theorem dX8_lengthWithout_15 : decode cX8_lengthWithout 15 = .ok (.iaload, 1) := by decide +kernel
theorem dX8_lengthWithout_16 : decode cX8_lengthWithout 16 = .ok (.iload_n 1, 1) := by decide +kernel
theorem dX8_lengthWithout_17 : decode cX8_lengthWithout 17 = .ok (.bipush (-6), 2) := by decide +kernel
theorem dX8_lengthWithout_19 : decode cX8_lengthWithout 19 = .ok (.invokevirtual 169, 3) := by decide +kernel
theorem dX8_lengthWithout_22 : decode cX8_lengthWithout 22 = .ok (.goto 5, 3) := by decide +kernel
theorem dX8_lengthWithout_25 : decode cX8_lengthWithout 25 = .ok (.bipush (-2), 2) := by decide +kernel
theorem dX8_lengthWithout_27 : decode cX8_lengthWithout 27 = .ok (.ireturn, 1) := by decide +kernel
theorem dX8_isFixed_0 : decode cX8_isFixed 0 = .ok (.aload_n 0, 1) := by decide +kernel
theorem dX8_isFixed_1 : decode cX8_isFixed 1 = .ok (.iload_n 1, 1) := by decide +kernel
theorem dX8_isFixed_2 : decode cX8_isFixed 2 = .ok (.iload_n 2, 1) := by decide +kernel
theorem dX8_isFixed_3 : decode cX8_isFixed 3 = .ok (.iconst 0, 1) := by decide +kernel
theorem dX8_isFixed_4 : decode cX8_isFixed 4 = .ok (.invokevirtual 132, 3) := by decide +kernel
theorem dX8_isFixed_7 : decode cX8_isFixed 7 = .ok (.bipush 6, 2) := by decide +kernel
theorem dX8_isFixed_9 : decode cX8_isFixed 9 = .ok (.if_icmp .ne 7, 3) := by decide +kernel
theorem dX8_isFixed_12 : decode cX8_isFixed 12 = .ok (.iconst 1, 1) := by decide +kernel
theorem dX8_isFixed_13 : decode cX8_isFixed 13 = .ok (.goto 4, 3) := by decide +kernel
theorem dX8_isFixed_16 : decode cX8_isFixed 16 = .ok (.iconst 0, 1) := by decide +kernel
theorem dX8_isFixed_17 : decode cX8_isFixed 17 = .ok (.istore_n 3, 1) := by decide +kernel
theorem dX8_isFixed_18 : decode cX8_isFixed 18 = .ok (.iconst 0, 1) := by decide +kernel
theorem dX8_isFixed_19 : decode cX8_isFixed 19 = .ok (.istore 4, 2) := by decide +kernel
theorem dX8_isFixed_21 : decode cX8_isFixed 21 = .ok (.iload 4, 2) := by decide +kernel
theorem dX8_isFixed_23 : decode cX8_isFixed 23 = .ok (.aload_n 0, 1) := by decide +kernel
theorem dX8_isFixed_24 : decode cX8_isFixed 24 = .ok (.iload_n 1, 1) := by decide +kernel
theorem dX8_isFixed_25 : decode cX8_isFixed 25 = .ok (.invokevirtual 125, 3) := by decide +kernel
theorem dX8_isFixed_28 : decode cX8_isFixed 28 = .ok (.if_icmp .ge 44, 3) := by decide +kernel
theorem dX8_isFixed_31 : decode cX8_isFixed 31 = .ok (.iload_n 3, 1) := by decide +kernel
theorem dX8_isFixed_32 : decode cX8_isFixed 32 = .ok (.ifCond .ne 28, 3) := by decide +kernel
theorem dX8_isFixed_35 : decode cX8_isFixed 35 = .ok (.aload_n 0, 1) := by decide +kernel
theorem dX8_isFixed_36 : decode cX8_isFixed 36 = .ok (.iload_n 1, 1) := by decide +kernel
theorem dX8_isFixed_37 : decode cX8_isFixed 37 = .ok (.iload 4, 2) := by decide +kernel
theorem dX8_isFixed_39 : decode cX8_isFixed 39 = .ok (.iconst 0, 1) := by decide +kernel
theorem dX8_isFixed_40 : decode cX8_isFixed 40 = .ok (.invokevirtual 132, 3) := by decide +kernel
theorem dX8_isFixed_43 : decode cX8_isFixed 43 = .ok (.bipush 6, 2) := by decide +kernel
theorem dX8_isFixed_45 : decode cX8_isFixed 45 = .ok (.if_icmp .ne 19, 3) := by decide +kernel
theorem dX8_isFixed_48 : decode cX8_isFixed 48 = .ok (.aload_n 0, 1) := by decide +kernel
theorem dX8_isFixed_49 : decode cX8_isFixed 49 = .ok (.iload_n 1, 1) := by decide +kernel
theorem dX8_isFixed_50 : decode cX8_isFixed 50 = .ok (.iload 4, 2) := by decide +kernel
theorem dX8_isFixed_52 : decode cX8_isFixed 52 = .ok (.iconst 4, 1) := by decide +kernel
theorem dX8_isFixed_53 : decode cX8_isFixed 53 = .ok (.invokevirtual 132, 3) := by decide +kernel
theorem dX8_isFixed_56 : decode cX8_isFixed 56 = .ok (.iload_n 2, 1) := by decide +kernel
theorem dX8_isFixed_57 : decode cX8_isFixed 57 = .ok (.if_icmp .ne 7, 3) := by decide +kernel
theorem dX8_isFixed_60 : decode cX8_isFixed 60 = .ok (.iconst 1, 1) := by decide +kernel
theorem dX8_isFixed_61 : decode cX8_isFixed 61 = .ok (.goto 4, 3) := by decide +kernel
theorem dX8_isFixed_64 : decode cX8_isFixed 64 = .ok (.iconst 0, 1) := by decide +kernel
theorem dX8_isFixed_65 : decode cX8_isFixed 65 = .ok (.istore_n 3, 1) := by decide +kernel
theorem dX8_isFixed_66 : decode cX8_isFixed 66 = .ok (.iinc 4 1, 3) := by decide +kernel
theorem dX8_isFixed_69 : decode cX8_isFixed 69 = .ok (.goto (-48), 3) := by decide +kernel
theorem dX8_isFixed_72 : decode cX8_isFixed 72 = .ok (.iload_n 3, 1) := by decide +kernel
theorem dX8_isFixed_73 : decode cX8_isFixed 73 = .ok (.ireturn, 1) := by decide +kernel
theorem dX8_swap_0 : decode cX8_swap 0 = .ok (.bipush 10, 2) := by decide +kernel
theorem dX8_swap_2 : decode cX8_swap 2 = .ok (.bipush 100, 2) := by decide +kernel
theorem dX8_swap_4 : decode cX8_swap 4 = .ok (.iload_n 1, 1) := by decide +kernel
theorem dX8_swap_5 : decode cX8_swap 5 = .ok (.imul, 1) := by decide +kernel
theorem dX8_swap_6 : decode cX8_swap 6 = .ok (.iadd, 1) := by decide +kernel
theorem dX8_swap_7 : decode cX8_swap 7 = .ok (.iconst 1, 1) := by decide +kernel
theorem dX8_swap_8 : decode cX8_swap 8 = .ok (.iadd, 1) := by decide +kernel
theorem dX8_swap_9 : decode cX8_swap 9 = .ok (.iconst 5, 1) := by decide +kernel
theorem dX8_swap_10 : decode cX8_swap 10 = .ok (.iload_n 2, 1) := by decide +kernel
theorem dX8_swap_11 : decode cX8_swap 11 = .ok (.imul, 1) := by decide +kernel
theorem dX8_swap_12 : decode cX8_swap 12 = .ok (.iadd, 1) := by decide +kernel
theorem dX8_swap_13 : decode cX8_swap 13 = .ok (.istore_n 3, 1) := by decide +kernel
theorem dX8_swap_14 : decode cX8_swap 14 = .ok (.iload_n 3, 1) := by decide +kernel
theorem dX8_swap_15 : decode cX8_swap 15 = .ok (.istore 4, 2) := by decide +kernel
theorem dX8_swap_17 : decode cX8_swap 17 = .ok (.iload 4, 2) := by decide +kernel
theorem dX8_swap_19 : decode cX8_swap 19 = .ok (.iload_n 3, 1) := by decide +kernel
theorem dX8_swap_20 : decode cX8_swap 20 = .ok (.iconst 5, 1) := by decide +kernel
theorem dX8_swap_21 : decode cX8_swap 21 = .ok (.iadd, 1) := by decide +kernel
theorem dX8_swap_22 : decode cX8_swap 22 = .ok (.if_icmp .ge 45, 3) := by decide +kernel
theorem dX8_swap_25 : decode cX8_swap 25 = .ok (.aload_n 0, 1) := by decide +kernel
theorem dX8_swap_26 : decode cX8_swap 26 = .ok (.getfield 7, 3) := by decide +kernel
theorem dX8_swap_29 : decode cX8_swap 29 = .ok (.iload 4, 2) := by decide +kernel
theorem dX8_swap_31 : decode cX8_swap 31 = .ok (.iaload, 1) := by decide +kernel
theorem dX8_swap_32 : decode cX8_swap 32 = .ok (.istore 5, 2) := by decide +kernel
theorem dX8_swap_34 : decode cX8_swap 34 = .ok (.aload_n 0, 1) := by decide +kernel
theorem dX8_swap_35 : decode cX8_swap 35 = .ok (.getfield 7, 3) := by decide +kernel
theorem dX8_swap_38 : decode cX8_swap 38 = .ok (.iload 4, 2) := by decide +kernel
theorem dX8_swap_40 : decode cX8_swap 40 = .ok (.aload_n 0, 1) := by decide +kernel
theorem dX8_swap_41 : decode cX8_swap 41 = .ok (.getfield 7, 3) := by decide +kernel
theorem dX8_swap_44 : decode cX8_swap 44 = .ok (.iload 4, 2) := by decide +kernel
theorem dX8_swap_46 : decode cX8_swap 46 = .ok (.iconst 5, 1) := by decide +kernel
theorem dX8_swap_47 : decode cX8_swap 47 = .ok (.iadd, 1) := by decide +kernel
theorem dX8_swap_48 : decode cX8_swap 48 = .ok (.iaload, 1) := by decide +kernel
theorem dX8_swap_49 : decode cX8_swap 49 = .ok (.iastore, 1) := by decide +kernel
theorem dX8_swap_50 : decode cX8_swap 50 = .ok (.aload_n 0, 1) := by decide +kernel
theorem dX8_swap_51 : decode cX8_swap 51 = .ok (.getfield 7, 3) := by decide +kernel
theorem dX8_swap_54 : decode cX8_swap 54 = .ok (.iload 4, 2) := by decide +kernel
theorem dX8_swap_56 : decode cX8_swap 56 = .ok (.iconst 5, 1) := by decide +kernel
theorem dX8_swap_57 : decode cX8_swap 57 = .ok (.iadd, 1) := by decide +kernel
theorem dX8_swap_58 : decode cX8_swap 58 = .ok (.iload 5, 2) := by decide +kernel
theorem dX8_swap_60 : decode cX8_swap 60 = .ok (.iastore, 1) := by decide +kernel
theorem dX8_swap_61 : decode cX8_swap 61 = .ok (.iinc 4 1, 3) := by decide +kernel
theorem dX8_swap_64 : decode cX8_swap 64 = .ok (.goto (-47), 3) := by decide +kernel
theorem dX8_swap_67 : decode cX8_swap 67 = .ok (.return_, 1) := by decide +kernel
theorem dX8_areValuesSame_0 : decode cX8_areValuesSame 0 = .ok (.iconst 1, 1) := by decide +kernel
theorem dX8_areValuesSame_1 : decode cX8_areValuesSame 1 = .ok (.istore_n 1, 1) := by decide +kernel
theorem dX8_areValuesSame_2 : decode cX8_areValuesSame 2 = .ok (.iconst 0, 1) := by decide +kernel
theorem dX8_areValuesSame_3 : decode cX8_areValuesSame 3 = .ok (.istore_n 2, 1) := by decide +kernel
theorem dX8_areValuesSame_4 : decode cX8_areValuesSame 4 = .ok (.iload_n 2, 1) := by decide +kernel
theorem dX8_areValuesSame_5 : decode cX8_areValuesSame 5 = .ok (.bipush 24, 2) := by decide +kernel
theorem dX8_areValuesSame_7 : decode cX8_areValuesSame 7 = .ok (.if_icmp .ge 34, 3) := by decide +kernel
theorem dX8_areValuesSame_10 : decode cX8_areValuesSame 10 = .ok (.iload_n 1, 1) := by decide +kernel
theorem dX8_areValuesSame_11 : decode cX8_areValuesSame 11 = .ok (.ifCond .eq 22, 3) := by decide +kernel
theorem dX8_areValuesSame_14 : decode cX8_areValuesSame 14 = .ok (.aload_n 0, 1) := by decide +kernel
theorem dX8_areValuesSame_15 : decode cX8_areValuesSame 15 = .ok (.getfield 29, 3) := by decide +kernel
theorem dX8_areValuesSame_18 : decode cX8_areValuesSame 18 = .ok (.iload_n 2, 1) := by decide +kernel
theorem dX8_areValuesSame_19 : decode cX8_areValuesSame 19 = .ok (.iaload, 1) := by decide +kernel
theorem dX8_areValuesSame_20 : decode cX8_areValuesSame 20 = .ok (.aload_n 0, 1) := by decide +kernel
theorem dX8_areValuesSame_21 : decode cX8_areValuesSame 21 = .ok (.getfield 65, 3) := by decide +kernel
theorem dX8_areValuesSame_24 : decode cX8_areValuesSame 24 = .ok (.iload_n 2, 1) := by decide +kernel
theorem dX8_areValuesSame_25 : decode cX8_areValuesSame 25 = .ok (.iaload, 1) := by decide +kernel
theorem dX8_areValuesSame_26 : decode cX8_areValuesSame 26 = .ok (.if_icmp .ne 7, 3) := by decide +kernel
theorem dX8_areValuesSame_29 : decode cX8_areValuesSame 29 = .ok (.iconst 1, 1) := by decide +kernel
theorem dX8_areValuesSame_30 : decode cX8_areValuesSame 30 = .ok (.goto 4, 3) := by decide +kernel
theorem dX8_areValuesSame_33 : decode cX8_areValuesSame 33 = .ok (.iconst 0, 1) := by decide +kernel
theorem dX8_areValuesSame_34 : decode cX8_areValuesSame 34 = .ok (.istore_n 1, 1) := by decide +kernel
theorem dX8_areValuesSame_35 : decode cX8_areValuesSame 35 = .ok (.iinc 2 1, 3) := by decide +kernel
theorem dX8_areValuesSame_38 : decode cX8_areValuesSame 38 = .ok (.goto (-34), 3) := by decide +kernel
theorem dX8_areValuesSame_41 : decode cX8_areValuesSame 41 = .ok (.iload_n 1, 1) := by decide +kernel
theorem dX8_areValuesSame_42 : decode cX8_areValuesSame 42 = .ok (.ireturn, 1) := by decide +kernel
theorem dX8_bestExchange_0 : decode cX8_bestExchange 0 = .ok (.iload_n 1, 1) := by decide +kernel
theorem dX8_bestExchange_1 : decode cX8_bestExchange 1 = .ok (.invokestatic 79, 3) := by decide +kernel
theorem dX8_bestExchange_4 : decode cX8_bestExchange 4 = .ok (.ifCond .ne 5, 3) := by decide +kernel
theorem dX8_bestExchange_7 : decode cX8_bestExchange 7 = .ok (.iconst (-1), 1) := by decide +kernel
theorem dX8_bestExchange_8 : decode cX8_bestExchange 8 = .ok (.ireturn, 1) := by decide +kernel
theorem dX8_bestExchange_9 : decode cX8_bestExchange 9 = .ok (.iload_n 2, 1) := by decide +kernel
theorem dX8_bestExchange_10 : decode cX8_bestExchange 10 = .ok (.iconst 0, 1) := by decide +kernel
theorem dX8_bestExchange_11 : decode cX8_bestExchange 11 = .ok (.iconst 1, 1) := by decide +kernel
theorem dX8_bestExchange_12 : decode cX8_bestExchange 12 = .ok (.invokestatic 72, 3) := by decide +kernel
theorem dX8_bestExchange_15 : decode cX8_bestExchange 15 = .ok (.ifCond .ne 6, 3) := by decide +kernel
theorem dX8_bestExchange_18 : decode cX8_bestExchange 18 = .ok (.bipush (-2), 2) := by decide +kernel
theorem dX8_bestExchange_20 : decode cX8_bestExchange 20 = .ok (.ireturn, 1) := by decide +kernel
theorem dX8_bestExchange_21 : decode cX8_bestExchange 21 = .ok (.aload_n 0, 1) := by decide +kernel
theorem dX8_bestExchange_22 : decode cX8_bestExchange 22 = .ok (.invokevirtual 129, 3) := by decide +kernel
theorem dX8_bestExchange_25 : decode cX8_bestExchange 25 = .ok (.istore_n 3, 1) := by decide +kernel
theorem dX8_bestExchange_26 : decode cX8_bestExchange 26 = .ok (.bipush (-6), 2) := by decide +kernel
theorem dX8_bestExchange_28 : decode cX8_bestExchange 28 = .ok (.istore 4, 2) := by decide +kernel
theorem dX8_bestExchange_30 : decode cX8_bestExchange 30 = .ok (.iconst 0, 1) := by decide +kernel
theorem dX8_bestExchange_31 : decode cX8_bestExchange 31 = .ok (.istore 5, 2) := by decide +kernel
theorem dX8_bestExchange_33 : decode cX8_bestExchange 33 = .ok (.iload 5, 2) := by decide +kernel
theorem dX8_bestExchange_35 : decode cX8_bestExchange 35 = .ok (.bipush 24, 2) := by decide +kernel
theorem dX8_bestExchange_37 : decode cX8_bestExchange 37 = .ok (.if_icmp .ge 23, 3) := by decide +kernel
theorem dX8_bestExchange_40 : decode cX8_bestExchange 40 = .ok (.aload_n 0, 1) := by decide +kernel
theorem dX8_bestExchange_41 : decode cX8_bestExchange 41 = .ok (.getfield 65, 3) := by decide +kernel
theorem dX8_bestExchange_44 : decode cX8_bestExchange 44 = .ok (.iload 5, 2) := by decide +kernel
theorem dX8_bestExchange_46 : decode cX8_bestExchange 46 = .ok (.aload_n 0, 1) := by decide +kernel
theorem dX8_bestExchange_47 : decode cX8_bestExchange 47 = .ok (.getfield 29, 3) := by decide +kernel
theorem dX8_bestExchange_50 : decode cX8_bestExchange 50 = .ok (.iload 5, 2) := by decide +kernel
theorem dX8_bestExchange_52 : decode cX8_bestExchange 52 = .ok (.iaload, 1) := by decide +kernel
theorem dX8_bestExchange_53 : decode cX8_bestExchange 53 = .ok (.iastore, 1) := by decide +kernel
theorem dX8_bestExchange_54 : decode cX8_bestExchange 54 = .ok (.iinc 5 1, 3) := by decide +kernel
theorem dX8_bestExchange_57 : decode cX8_bestExchange 57 = .ok (.goto (-24), 3) := by decide +kernel
theorem dX8_bestExchange_60 : decode cX8_bestExchange 60 = .ok (.iconst 0, 1) := by decide +kernel
theorem dX8_bestExchange_61 : decode cX8_bestExchange 61 = .ok (.istore 5, 2) := by decide +kernel
theorem dX8_bestExchange_63 : decode cX8_bestExchange 63 = .ok (.iload 5, 2) := by decide +kernel
theorem dX8_bestExchange_65 : decode cX8_bestExchange 65 = .ok (.iconst 1, 1) := by decide +kernel
theorem dX8_bestExchange_66 : decode cX8_bestExchange 66 = .ok (.iadd, 1) := by decide +kernel
theorem dX8_bestExchange_67 : decode cX8_bestExchange 67 = .ok (.aload_n 0, 1) := by decide +kernel
theorem dX8_bestExchange_68 : decode cX8_bestExchange 68 = .ok (.iload_n 1, 1) := by decide +kernel
theorem dX8_bestExchange_69 : decode cX8_bestExchange 69 = .ok (.invokevirtual 125, 3) := by decide +kernel
theorem dX8_bestExchange_72 : decode cX8_bestExchange 72 = .ok (.if_icmp .ge 97, 3) := by decide +kernel
theorem dX8_bestExchange_75 : decode cX8_bestExchange 75 = .ok (.aload_n 0, 1) := by decide +kernel
theorem dX8_bestExchange_76 : decode cX8_bestExchange 76 = .ok (.iload_n 1, 1) := by decide +kernel
theorem dX8_bestExchange_77 : decode cX8_bestExchange 77 = .ok (.iload 5, 2) := by decide +kernel
theorem dX8_bestExchange_79 : decode cX8_bestExchange 79 = .ok (.invokevirtual 175, 3) := by decide +kernel
theorem dX8_bestExchange_82 : decode cX8_bestExchange 82 = .ok (.ifCond .ne 81, 3) := by decide +kernel
theorem dX8_bestExchange_85 : decode cX8_bestExchange 85 = .ok (.aload_n 0, 1) := by decide +kernel
theorem dX8_bestExchange_86 : decode cX8_bestExchange 86 = .ok (.iload_n 1, 1) := by decide +kernel
theorem dX8_bestExchange_87 : decode cX8_bestExchange 87 = .ok (.iload 5, 2) := by decide +kernel
theorem dX8_bestExchange_89 : decode cX8_bestExchange 89 = .ok (.iconst 1, 1) := by decide +kernel
theorem dX8_bestExchange_90 : decode cX8_bestExchange 90 = .ok (.iadd, 1) := by decide +kernel
theorem dX8_bestExchange_91 : decode cX8_bestExchange 91 = .ok (.invokevirtual 175, 3) := by decide +kernel
theorem dX8_bestExchange_94 : decode cX8_bestExchange 94 = .ok (.ifCond .ne 69, 3) := by decide +kernel
theorem dX8_bestExchange_97 : decode cX8_bestExchange 97 = .ok (.aload_n 0, 1) := by decide +kernel
theorem dX8_bestExchange_98 : decode cX8_bestExchange 98 = .ok (.iload_n 1, 1) := by decide +kernel
theorem dX8_bestExchange_99 : decode cX8_bestExchange 99 = .ok (.iload 5, 2) := by decide +kernel
theorem dX8_bestExchange_101 : decode cX8_bestExchange 101 = .ok (.invokevirtual 178, 3) := by decide +kernel
theorem dX8_bestExchange_104 : decode cX8_bestExchange 104 = .ok (.aload_n 0, 1) := by decide +kernel
theorem dX8_bestExchange_105 : decode cX8_bestExchange 105 = .ok (.invokevirtual 129, 3) := by decide +kernel
theorem dX8_bestExchange_108 : decode cX8_bestExchange 108 = .ok (.istore 6, 2) := by decide +kernel
theorem dX8_bestExchange_110 : decode cX8_bestExchange 110 = .ok (.iload 6, 2) := by decide +kernel
theorem dX8_bestExchange_112 : decode cX8_bestExchange 112 = .ok (.iload_n 3, 1) := by decide +kernel
theorem dX8_bestExchange_113 : decode cX8_bestExchange 113 = .ok (.if_icmp .ge 14, 3) := by decide +kernel
theorem dX8_bestExchange_116 : decode cX8_bestExchange 116 = .ok (.aload_n 0, 1) := by decide +kernel
theorem dX8_bestExchange_117 : decode cX8_bestExchange 117 = .ok (.invokevirtual 181, 3) := by decide +kernel
theorem dX8_bestExchange_120 : decode cX8_bestExchange 120 = .ok (.ifCond .eq 7, 3) := by decide +kernel
theorem dX8_bestExchange_123 : decode cX8_bestExchange 123 = .ok (.iconst 1, 1) := by decide +kernel
theorem dX8_bestExchange_124 : decode cX8_bestExchange 124 = .ok (.goto 4, 3) := by decide +kernel
theorem dX8_bestExchange_127 : decode cX8_bestExchange 127 = .ok (.iconst 0, 1) := by decide +kernel
theorem dX8_bestExchange_128 : decode cX8_bestExchange 128 = .ok (.istore 7, 2) := by decide +kernel
theorem dX8_bestExchange_130 : decode cX8_bestExchange 130 = .ok (.aload_n 0, 1) := by decide +kernel
theorem dX8_bestExchange_131 : decode cX8_bestExchange 131 = .ok (.iload_n 1, 1) := by decide +kernel
theorem dX8_bestExchange_132 : decode cX8_bestExchange 132 = .ok (.iload 5, 2) := by decide +kernel
theorem dX8_bestExchange_134 : decode cX8_bestExchange 134 = .ok (.invokevirtual 178, 3) := by decide +kernel
theorem dX8_bestExchange_137 : decode cX8_bestExchange 137 = .ok (.iload 7, 2) := by decide +kernel
theorem dX8_bestExchange_139 : decode cX8_bestExchange 139 = .ok (.ifCond .eq 8, 3) := by decide +kernel
theorem dX8_bestExchange_142 : decode cX8_bestExchange 142 = .ok (.iload 5, 2) := by decide +kernel
theorem dX8_bestExchange_144 : decode cX8_bestExchange 144 = .ok (.goto 5, 3) := by decide +kernel
theorem dX8_bestExchange_147 : decode cX8_bestExchange 147 = .ok (.iload 4, 2) := by decide +kernel
theorem dX8_bestExchange_149 : decode cX8_bestExchange 149 = .ok (.istore 4, 2) := by decide +kernel
theorem dX8_bestExchange_151 : decode cX8_bestExchange 151 = .ok (.iload 7, 2) := by decide +kernel
theorem dX8_bestExchange_153 : decode cX8_bestExchange 153 = .ok (.ifCond .eq 8, 3) := by decide +kernel
theorem dX8_bestExchange_156 : decode cX8_bestExchange 156 = .ok (.iload 6, 2) := by decide +kernel
theorem dX8_bestExchange_158 : decode cX8_bestExchange 158 = .ok (.goto 4, 3) := by decide +kernel
theorem dX8_bestExchange_161 : decode cX8_bestExchange 161 = .ok (.iload_n 3, 1) := by decide +kernel
theorem dX8_bestExchange_162 : decode cX8_bestExchange 162 = .ok (.istore_n 3, 1) := by decide +kernel
theorem dX8_bestExchange_163 : decode cX8_bestExchange 163 = .ok (.iinc 5 1, 3) := by decide +kernel
theorem dX8_bestExchange_166 : decode cX8_bestExchange 166 = .ok (.goto (-103), 3) := by decide +kernel
theorem dX8_bestExchange_169 : decode cX8_bestExchange 169 = .ok (.iload 4, 2) := by decide +kernel
theorem dX8_bestExchange_171 : decode cX8_bestExchange 171 = .ok (.ifCond .lt 7, 3) := by decide +kernel
theorem dX8_bestExchange_174 : decode cX8_bestExchange 174 = .ok (.iload_n 2, 1) := by decide +kernel
theorem dX8_bestExchange_175 : decode cX8_bestExchange 175 = .ok (.ifCond .ne 8, 3) := by decide +kernel
theorem dX8_bestExchange_178 : decode cX8_bestExchange 178 = .ok (.iload 4, 2) := by decide +kernel
theorem dX8_bestExchange_180 : decode cX8_bestExchange 180 = .ok (.goto 4, 3) := by decide +kernel
theorem dX8_bestExchange_183 : decode cX8_bestExchange 183 = .ok (.iload_n 3, 1) := by decide +kernel
theorem dX8_bestExchange_184 : decode cX8_bestExchange 184 = .ok (.ireturn, 1) := by decide +kernel
theorem dX8_undo_0 : decode cX8_undo 0 = .ok (.aload_n 0, 1) := by decide +kernel
theorem dX8_undo_1 : decode cX8_undo 1 = .ok (.getfield 68, 3) := by decide +kernel
theorem dX8_undo_4 : decode cX8_undo 4 = .ok (.ifCond .ne 6, 3) := by decide +kernel
theorem dX8_undo_7 : decode cX8_undo 7 = .ok (.bipush (-5), 2) := by decide +kernel
theorem dX8_undo_9 : decode cX8_undo 9 = .ok (.ireturn, 1) := by decide +kernel
theorem dX8_undo_10 : decode cX8_undo 10 = .ok (.aload_n 0, 1) := by decide +kernel
theorem dX8_undo_11 : decode cX8_undo 11 = .ok (.dup, 1) := by decide +kernel
theorem dX8_undo_12 : decode cX8_undo 12 = .ok (.getfield 68, 3) := by decide +kernel
theorem dX8_undo_15 : decode cX8_undo 15 = .ok (.iconst 1, 1) := by decide +kernel
theorem dX8_undo_16 : decode cX8_undo 16 = .ok (.isub, 1) := by decide +kernel
theorem dX8_undo_17 : decode cX8_undo 17 = .ok (.putfield 68, 3) := by decide +kernel
theorem dX8_undo_20 : decode cX8_undo 20 = .ok (.iconst 0, 1) := by decide +kernel
theorem dX8_undo_21 : decode cX8_undo 21 = .ok (.istore_n 1, 1) := by decide +kernel
theorem dX8_undo_22 : decode cX8_undo 22 = .ok (.iload_n 1, 1) := by decide +kernel
theorem dX8_undo_23 : decode cX8_undo 23 = .ok (.sipush 210, 3) := by decide +kernel
theorem dX8_undo_26 : decode cX8_undo 26 = .ok (.if_icmp .ge 30, 3) := by decide +kernel
theorem dX8_undo_29 : decode cX8_undo 29 = .ok (.aload_n 0, 1) := by decide +kernel
theorem dX8_undo_30 : decode cX8_undo 30 = .ok (.getfield 7, 3) := by decide +kernel
theorem dX8_undo_33 : decode cX8_undo 33 = .ok (.iload_n 1, 1) := by decide +kernel
theorem dX8_undo_34 : decode cX8_undo 34 = .ok (.aload_n 0, 1) := by decide +kernel
theorem dX8_undo_35 : decode cX8_undo 35 = .ok (.getfield 13, 3) := by decide +kernel
theorem dX8_undo_38 : decode cX8_undo 38 = .ok (.aload_n 0, 1) := by decide +kernel
theorem dX8_undo_39 : decode cX8_undo 39 = .ok (.getfield 68, 3) := by decide +kernel
theorem dX8_undo_42 : decode cX8_undo 42 = .ok (.sipush 210, 3) := by decide +kernel
theorem dX8_undo_45 : decode cX8_undo 45 = .ok (.imul, 1) := by decide +kernel
theorem dX8_undo_46 : decode cX8_undo 46 = .ok (.iload_n 1, 1) := by decide +kernel
theorem dX8_undo_47 : decode cX8_undo 47 = .ok (.iadd, 1) := by decide +kernel
theorem dX8_undo_48 : decode cX8_undo 48 = .ok (.iaload, 1) := by decide +kernel
theorem dX8_undo_49 : decode cX8_undo 49 = .ok (.iastore, 1) := by decide +kernel
theorem dX8_undo_50 : decode cX8_undo 50 = .ok (.iinc 1 1, 3) := by decide +kernel
theorem dX8_undo_53 : decode cX8_undo 53 = .ok (.goto (-31), 3) := by decide +kernel
theorem dX8_undo_56 : decode cX8_undo 56 = .ok (.aload_n 0, 1) := by decide +kernel
theorem dX8_undo_57 : decode cX8_undo 57 = .ok (.getfield 68, 3) := by decide +kernel
theorem dX8_undo_60 : decode cX8_undo 60 = .ok (.ireturn, 1) := by decide +kernel
theorem dX8_save_0 : decode cX8_save 0 = .ok (.iload_n 1, 1) := by decide +kernel
theorem dX8_save_1 : decode cX8_save 1 = .ok (.iconst 0, 1) := by decide +kernel
theorem dX8_save_2 : decode cX8_save 2 = .ok (.iconst 1, 1) := by decide +kernel
theorem dX8_save_3 : decode cX8_save 3 = .ok (.invokestatic 72, 3) := by decide +kernel
theorem dX8_save_6 : decode cX8_save 6 = .ok (.ifCond .ne 6, 3) := by decide +kernel
theorem dX8_save_9 : decode cX8_save 9 = .ok (.bipush (-2), 2) := by decide +kernel
theorem dX8_save_11 : decode cX8_save 11 = .ok (.ireturn, 1) := by decide +kernel
theorem dX8_save_12 : decode cX8_save 12 = .ok (.iconst 0, 1) := by decide +kernel
theorem dX8_save_13 : decode cX8_save 13 = .ok (.istore_n 2, 1) := by decide +kernel
theorem dX8_save_14 : decode cX8_save 14 = .ok (.iload_n 2, 1) := by decide +kernel
theorem dX8_save_15 : decode cX8_save 15 = .ok (.sipush 210, 3) := by decide +kernel
theorem dX8_save_18 : decode cX8_save 18 = .ok (.if_icmp .ge 27, 3) := by decide +kernel
theorem dX8_save_21 : decode cX8_save 21 = .ok (.aload_n 0, 1) := by decide +kernel
theorem dX8_save_22 : decode cX8_save 22 = .ok (.getfield 16, 3) := by decide +kernel
theorem dX8_save_25 : decode cX8_save 25 = .ok (.iload_n 1, 1) := by decide +kernel
theorem dX8_save_26 : decode cX8_save 26 = .ok (.sipush 210, 3) := by decide +kernel
theorem dX8_save_29 : decode cX8_save 29 = .ok (.imul, 1) := by decide +kernel
theorem dX8_save_30 : decode cX8_save 30 = .ok (.iload_n 2, 1) := by decide +kernel
theorem dX8_save_31 : decode cX8_save 31 = .ok (.iadd, 1) := by decide +kernel
theorem dX8_save_32 : decode cX8_save 32 = .ok (.aload_n 0, 1) := by decide +kernel
theorem dX8_save_33 : decode cX8_save 33 = .ok (.getfield 7, 3) := by decide +kernel
theorem dX8_save_36 : decode cX8_save 36 = .ok (.iload_n 2, 1) := by decide +kernel
theorem dX8_save_37 : decode cX8_save 37 = .ok (.iaload, 1) := by decide +kernel
theorem dX8_save_38 : decode cX8_save 38 = .ok (.iastore, 1) := by decide +kernel
theorem dX8_save_39 : decode cX8_save 39 = .ok (.iinc 2 1, 3) := by decide +kernel
theorem dX8_save_42 : decode cX8_save 42 = .ok (.goto (-28), 3) := by decide +kernel
theorem dX8_save_45 : decode cX8_save 45 = .ok (.aload_n 0, 1) := by decide +kernel
theorem dX8_save_46 : decode cX8_save 46 = .ok (.getfield 19, 3) := by decide +kernel
theorem dX8_save_49 : decode cX8_save 49 = .ok (.iload_n 1, 1) := by decide +kernel
theorem dX8_save_50 : decode cX8_save 50 = .ok (.iconst 1, 1) := by decide +kernel
theorem dX8_save_51 : decode cX8_save 51 = .ok (.bastore, 1) := by decide +kernel
theorem dX8_save_52 : decode cX8_save 52 = .ok (.aload_n 0, 1) := by decide +kernel
theorem dX8_save_53 : decode cX8_save 53 = .ok (.invokevirtual 129, 3) := by decide +kernel
theorem dX8_save_56 : decode cX8_save 56 = .ok (.ireturn, 1) := by decide +kernel
theorem dX8_restore_0 : decode cX8_restore 0 = .ok (.iload_n 1, 1) := by decide +kernel
theorem dX8_restore_1 : decode cX8_restore 1 = .ok (.iconst 0, 1) := by decide +kernel
theorem dX8_restore_2 : decode cX8_restore 2 = .ok (.iconst 1, 1) := by decide +kernel
theorem dX8_restore_3 : decode cX8_restore 3 = .ok (.invokestatic 72, 3) := by decide +kernel
theorem dX8_restore_6 : decode cX8_restore 6 = .ok (.ifCond .ne 6, 3) := by decide +kernel
theorem dX8_restore_9 : decode cX8_restore 9 = .ok (.bipush (-2), 2) := by decide +kernel
theorem dX8_restore_11 : decode cX8_restore 11 = .ok (.ireturn, 1) := by decide +kernel
theorem dX8_restore_12 : decode cX8_restore 12 = .ok (.aload_n 0, 1) := by decide +kernel
theorem dX8_restore_13 : decode cX8_restore 13 = .ok (.getfield 19, 3) := by decide +kernel
theorem dX8_restore_16 : decode cX8_restore 16 = .ok (.iload_n 1, 1) := by decide +kernel
theorem dX8_restore_17 : decode cX8_restore 17 = .ok (.baload, 1) := by decide +kernel
theorem dX8_restore_18 : decode cX8_restore 18 = .ok (.ifCond .ne 6, 3) := by decide +kernel
theorem dX8_restore_21 : decode cX8_restore 21 = .ok (.bipush (-5), 2) := by decide +kernel
theorem dX8_restore_23 : decode cX8_restore 23 = .ok (.ireturn, 1) := by decide +kernel
theorem dX8_restore_24 : decode cX8_restore 24 = .ok (.aload_n 0, 1) := by decide +kernel
theorem dX8_restore_25 : decode cX8_restore 25 = .ok (.invokevirtual 76, 3) := by decide +kernel
theorem dX8_restore_28 : decode cX8_restore 28 = .ok (.iconst 0, 1) := by decide +kernel
theorem dX8_restore_29 : decode cX8_restore 29 = .ok (.istore_n 2, 1) := by decide +kernel
theorem dX8_restore_30 : decode cX8_restore 30 = .ok (.iload_n 2, 1) := by decide +kernel
theorem dX8_restore_31 : decode cX8_restore 31 = .ok (.sipush 210, 3) := by decide +kernel
theorem dX8_restore_34 : decode cX8_restore 34 = .ok (.if_icmp .ge 27, 3) := by decide +kernel
theorem dX8_restore_37 : decode cX8_restore 37 = .ok (.aload_n 0, 1) := by decide +kernel
theorem dX8_restore_38 : decode cX8_restore 38 = .ok (.getfield 7, 3) := by decide +kernel
theorem dX8_restore_41 : decode cX8_restore 41 = .ok (.iload_n 2, 1) := by decide +kernel
theorem dX8_restore_42 : decode cX8_restore 42 = .ok (.aload_n 0, 1) := by decide +kernel
theorem dX8_restore_43 : decode cX8_restore 43 = .ok (.getfield 16, 3) := by decide +kernel
theorem dX8_restore_46 : decode cX8_restore 46 = .ok (.iload_n 1, 1) := by decide +kernel
theorem dX8_restore_47 : decode cX8_restore 47 = .ok (.sipush 210, 3) := by decide +kernel
theorem dX8_restore_50 : decode cX8_restore 50 = .ok (.imul, 1) := by decide +kernel
theorem dX8_restore_51 : decode cX8_restore 51 = .ok (.iload_n 2, 1) := by decide +kernel
theorem dX8_restore_52 : decode cX8_restore 52 = .ok (.iadd, 1) := by decide +kernel
theorem dX8_restore_53 : decode cX8_restore 53 = .ok (.iaload, 1) := by decide +kernel
theorem dX8_restore_54 : decode cX8_restore 54 = .ok (.iastore, 1) := by decide +kernel
theorem dX8_restore_55 : decode cX8_restore 55 = .ok (.iinc 2 1, 3) := by decide +kernel
theorem dX8_restore_58 : decode cX8_restore 58 = .ok (.goto (-28), 3) := by decide +kernel
theorem dX8_restore_61 : decode cX8_restore 61 = .ok (.aload_n 0, 1) := by decide +kernel
theorem dX8_restore_62 : decode cX8_restore 62 = .ok (.invokevirtual 129, 3) := by decide +kernel
theorem dX8_restore_65 : decode cX8_restore 65 = .ok (.ireturn, 1) := by decide +kernel
end
section
theorem dL_law_0 : decode cL_law 0 = .ok (.new 7, 3) := by decide +kernel
theorem dL_law_3 : decode cL_law 3 = .ok (.dup, 1) := by decide +kernel
theorem dL_law_4 : decode cL_law 4 = .ok (.invokespecial 9, 3) := by decide +kernel
theorem dL_law_7 : decode cL_law 7 = .ok (.astore_n 1, 1) := by decide +kernel
theorem dL_law_8 : decode cL_law 8 = .ok (.new 10, 3) := by decide +kernel
theorem dL_law_11 : decode cL_law 11 = .ok (.dup, 1) := by decide +kernel
theorem dL_law_12 : decode cL_law 12 = .ok (.invokespecial 12, 3) := by decide +kernel
theorem dL_law_15 : decode cL_law 15 = .ok (.astore_n 2, 1) := by decide +kernel
theorem dL_law_16 : decode cL_law 16 = .ok (.iconst 0, 1) := by decide +kernel
theorem dL_law_17 : decode cL_law 17 = .ok (.istore_n 3, 1) := by decide +kernel
theorem dL_law_18 : decode cL_law 18 = .ok (.iload_n 3, 1) := by decide +kernel
theorem dL_law_19 : decode cL_law 19 = .ok (.aload_n 0, 1) := by decide +kernel
theorem dL_law_20 : decode cL_law 20 = .ok (.arraylength, 1) := by decide +kernel
theorem dL_law_21 : decode cL_law 21 = .ok (.iconst 4, 1) := by decide +kernel
theorem dL_law_22 : decode cL_law 22 = .ok (.isub, 1) := by decide +kernel
theorem dL_law_23 : decode cL_law 23 = .ok (.if_icmp .gt 715, 3) := by decide +kernel
theorem dL_law_26 : decode cL_law 26 = .ok (.aload_n 0, 1) := by decide +kernel
theorem dL_law_27 : decode cL_law 27 = .ok (.iload_n 3, 1) := by decide +kernel
theorem dL_law_28 : decode cL_law 28 = .ok (.iaload, 1) := by decide +kernel
theorem dL_law_29 : decode cL_law 29 = .ok (.bipush 31, 2) := by decide +kernel
theorem dL_law_31 : decode cL_law 31 = .ok (.iand, 1) := by decide +kernel
theorem dL_law_32 : decode cL_law 32 = .ok (.tableswitch 700 0 21 #[104, 137, 190, 203, 216, 239, 262, 305, 318, 361, 394, 427, 470, 503, 526, 549, 572, 585, 608, 641, 654, 677], 104) := by decide +kernel
theorem dL_law_136 : decode cL_law 136 = .ok (.aload_n 1, 1) := by decide +kernel
theorem dL_law_137 : decode cL_law 137 = .ok (.aload_n 0, 1) := by decide +kernel
theorem dL_law_138 : decode cL_law 138 = .ok (.iload_n 3, 1) := by decide +kernel
theorem dL_law_139 : decode cL_law 139 = .ok (.iconst 1, 1) := by decide +kernel
theorem dL_law_140 : decode cL_law 140 = .ok (.iadd, 1) := by decide +kernel
theorem dL_law_141 : decode cL_law 141 = .ok (.iaload, 1) := by decide +kernel
theorem dL_law_142 : decode cL_law 142 = .ok (.aload_n 0, 1) := by decide +kernel
theorem dL_law_143 : decode cL_law 143 = .ok (.iload_n 3, 1) := by decide +kernel
theorem dL_law_144 : decode cL_law 144 = .ok (.iconst 2, 1) := by decide +kernel
theorem dL_law_145 : decode cL_law 145 = .ok (.iadd, 1) := by decide +kernel
theorem dL_law_146 : decode cL_law 146 = .ok (.iaload, 1) := by decide +kernel
theorem dL_law_147 : decode cL_law 147 = .ok (.invokevirtual 13, 3) := by decide +kernel
theorem dL_law_150 : decode cL_law 150 = .ok (.aload_n 2, 1) := by decide +kernel
theorem dL_law_151 : decode cL_law 151 = .ok (.aload_n 0, 1) := by decide +kernel
theorem dL_law_152 : decode cL_law 152 = .ok (.iload_n 3, 1) := by decide +kernel
theorem dL_law_153 : decode cL_law 153 = .ok (.iconst 1, 1) := by decide +kernel
theorem dL_law_154 : decode cL_law 154 = .ok (.iadd, 1) := by decide +kernel
theorem dL_law_155 : decode cL_law 155 = .ok (.iaload, 1) := by decide +kernel
theorem dL_law_156 : decode cL_law 156 = .ok (.aload_n 0, 1) := by decide +kernel
theorem dL_law_157 : decode cL_law 157 = .ok (.iload_n 3, 1) := by decide +kernel
theorem dL_law_158 : decode cL_law 158 = .ok (.iconst 2, 1) := by decide +kernel
theorem dL_law_159 : decode cL_law 159 = .ok (.iadd, 1) := by decide +kernel
theorem dL_law_160 : decode cL_law 160 = .ok (.iaload, 1) := by decide +kernel
theorem dL_law_161 : decode cL_law 161 = .ok (.invokevirtual 17, 3) := by decide +kernel
theorem dL_law_164 : decode cL_law 164 = .ok (.if_icmp .eq 568, 3) := by decide +kernel
theorem dL_law_167 : decode cL_law 167 = .ok (.iconst 0, 1) := by decide +kernel
theorem dL_law_168 : decode cL_law 168 = .ok (.ireturn, 1) := by decide +kernel
theorem dL_law_169 : decode cL_law 169 = .ok (.aload_n 1, 1) := by decide +kernel
theorem dL_law_170 : decode cL_law 170 = .ok (.aload_n 0, 1) := by decide +kernel
theorem dL_law_171 : decode cL_law 171 = .ok (.iload_n 3, 1) := by decide +kernel
theorem dL_law_172 : decode cL_law 172 = .ok (.iconst 1, 1) := by decide +kernel
theorem dL_law_173 : decode cL_law 173 = .ok (.iadd, 1) := by decide +kernel
theorem dL_law_174 : decode cL_law 174 = .ok (.iaload, 1) := by decide +kernel
theorem dL_law_175 : decode cL_law 175 = .ok (.i2l, 1) := by decide +kernel
theorem dL_law_176 : decode cL_law 176 = .ok (.bipush 32, 2) := by decide +kernel
theorem dL_law_178 : decode cL_law 178 = .ok (.lshl, 1) := by decide +kernel
theorem dL_law_179 : decode cL_law 179 = .ok (.aload_n 0, 1) := by decide +kernel
theorem dL_law_180 : decode cL_law 180 = .ok (.iload_n 3, 1) := by decide +kernel
theorem dL_law_181 : decode cL_law 181 = .ok (.iconst 2, 1) := by decide +kernel
theorem dL_law_182 : decode cL_law 182 = .ok (.iadd, 1) := by decide +kernel
theorem dL_law_183 : decode cL_law 183 = .ok (.iaload, 1) := by decide +kernel
theorem dL_law_184 : decode cL_law 184 = .ok (.i2l, 1) := by decide +kernel
theorem dL_law_185 : decode cL_law 185 = .ok (.ldc2_w 18, 3) := by decide +kernel
theorem dL_law_188 : decode cL_law 188 = .ok (.land, 1) := by decide +kernel
theorem dL_law_189 : decode cL_law 189 = .ok (.lor, 1) := by decide +kernel
theorem dL_law_190 : decode cL_law 190 = .ok (.invokevirtual 20, 3) := by decide +kernel
theorem dL_law_193 : decode cL_law 193 = .ok (.aload_n 2, 1) := by decide +kernel
theorem dL_law_194 : decode cL_law 194 = .ok (.aload_n 0, 1) := by decide +kernel
theorem dL_law_195 : decode cL_law 195 = .ok (.iload_n 3, 1) := by decide +kernel
theorem dL_law_196 : decode cL_law 196 = .ok (.iconst 1, 1) := by decide +kernel
theorem dL_law_197 : decode cL_law 197 = .ok (.iadd, 1) := by decide +kernel
theorem dL_law_198 : decode cL_law 198 = .ok (.iaload, 1) := by decide +kernel
theorem dL_law_199 : decode cL_law 199 = .ok (.i2l, 1) := by decide +kernel
theorem dL_law_200 : decode cL_law 200 = .ok (.bipush 32, 2) := by decide +kernel
theorem dL_law_202 : decode cL_law 202 = .ok (.lshl, 1) := by decide +kernel
theorem dL_law_203 : decode cL_law 203 = .ok (.aload_n 0, 1) := by decide +kernel
theorem dL_law_204 : decode cL_law 204 = .ok (.iload_n 3, 1) := by decide +kernel
theorem dL_law_205 : decode cL_law 205 = .ok (.iconst 2, 1) := by decide +kernel
theorem dL_law_206 : decode cL_law 206 = .ok (.iadd, 1) := by decide +kernel
theorem dL_law_207 : decode cL_law 207 = .ok (.iaload, 1) := by decide +kernel
theorem dL_law_208 : decode cL_law 208 = .ok (.i2l, 1) := by decide +kernel
theorem dL_law_209 : decode cL_law 209 = .ok (.ldc2_w 18, 3) := by decide +kernel
theorem dL_law_212 : decode cL_law 212 = .ok (.land, 1) := by decide +kernel
theorem dL_law_213 : decode cL_law 213 = .ok (.lor, 1) := by decide +kernel
theorem dL_law_214 : decode cL_law 214 = .ok (.invokevirtual 24, 3) := by decide +kernel
theorem dL_law_217 : decode cL_law 217 = .ok (.if_icmp .eq 515, 3) := by decide +kernel
theorem dL_law_220 : decode cL_law 220 = .ok (.iconst 0, 1) := by decide +kernel
theorem dL_law_221 : decode cL_law 221 = .ok (.ireturn, 1) := by decide +kernel
theorem dL_law_222 : decode cL_law 222 = .ok (.aload_n 1, 1) := by decide +kernel
theorem dL_law_223 : decode cL_law 223 = .ok (.invokevirtual 25, 3) := by decide +kernel
theorem dL_law_226 : decode cL_law 226 = .ok (.aload_n 2, 1) := by decide +kernel
theorem dL_law_227 : decode cL_law 227 = .ok (.invokevirtual 29, 3) := by decide +kernel
theorem dL_law_230 : decode cL_law 230 = .ok (.if_icmp .eq 502, 3) := by decide +kernel
theorem dL_law_233 : decode cL_law 233 = .ok (.iconst 0, 1) := by decide +kernel
theorem dL_law_234 : decode cL_law 234 = .ok (.ireturn, 1) := by decide +kernel
theorem dL_law_235 : decode cL_law 235 = .ok (.aload_n 1, 1) := by decide +kernel
theorem dL_law_236 : decode cL_law 236 = .ok (.invokevirtual 30, 3) := by decide +kernel
theorem dL_law_239 : decode cL_law 239 = .ok (.aload_n 2, 1) := by decide +kernel
theorem dL_law_240 : decode cL_law 240 = .ok (.invokevirtual 33, 3) := by decide +kernel
theorem dL_law_243 : decode cL_law 243 = .ok (.if_icmp .eq 489, 3) := by decide +kernel
theorem dL_law_246 : decode cL_law 246 = .ok (.iconst 0, 1) := by decide +kernel
theorem dL_law_247 : decode cL_law 247 = .ok (.ireturn, 1) := by decide +kernel
theorem dL_law_248 : decode cL_law 248 = .ok (.aload_n 1, 1) := by decide +kernel
theorem dL_law_249 : decode cL_law 249 = .ok (.aload_n 0, 1) := by decide +kernel
theorem dL_law_250 : decode cL_law 250 = .ok (.iload_n 3, 1) := by decide +kernel
theorem dL_law_251 : decode cL_law 251 = .ok (.iconst 1, 1) := by decide +kernel
theorem dL_law_252 : decode cL_law 252 = .ok (.iadd, 1) := by decide +kernel
theorem dL_law_253 : decode cL_law 253 = .ok (.iaload, 1) := by decide +kernel
theorem dL_law_254 : decode cL_law 254 = .ok (.invokevirtual 34, 3) := by decide +kernel
theorem dL_law_257 : decode cL_law 257 = .ok (.aload_n 2, 1) := by decide +kernel
theorem dL_law_258 : decode cL_law 258 = .ok (.aload_n 0, 1) := by decide +kernel
theorem dL_law_259 : decode cL_law 259 = .ok (.iload_n 3, 1) := by decide +kernel
theorem dL_law_260 : decode cL_law 260 = .ok (.iconst 1, 1) := by decide +kernel
theorem dL_law_261 : decode cL_law 261 = .ok (.iadd, 1) := by decide +kernel
theorem dL_law_262 : decode cL_law 262 = .ok (.iaload, 1) := by decide +kernel
theorem dL_law_263 : decode cL_law 263 = .ok (.invokevirtual 38, 3) := by decide +kernel
theorem dL_law_266 : decode cL_law 266 = .ok (.if_icmp .eq 466, 3) := by decide +kernel
theorem dL_law_269 : decode cL_law 269 = .ok (.iconst 0, 1) := by decide +kernel
theorem dL_law_270 : decode cL_law 270 = .ok (.ireturn, 1) := by decide +kernel
theorem dL_law_271 : decode cL_law 271 = .ok (.aload_n 1, 1) := by decide +kernel
theorem dL_law_272 : decode cL_law 272 = .ok (.aload_n 0, 1) := by decide +kernel
theorem dL_law_273 : decode cL_law 273 = .ok (.iload_n 3, 1) := by decide +kernel
theorem dL_law_274 : decode cL_law 274 = .ok (.iconst 1, 1) := by decide +kernel
theorem dL_law_275 : decode cL_law 275 = .ok (.iadd, 1) := by decide +kernel
theorem dL_law_276 : decode cL_law 276 = .ok (.iaload, 1) := by decide +kernel
theorem dL_law_277 : decode cL_law 277 = .ok (.invokevirtual 39, 3) := by decide +kernel
theorem dL_law_280 : decode cL_law 280 = .ok (.aload_n 2, 1) := by decide +kernel
theorem dL_law_281 : decode cL_law 281 = .ok (.aload_n 0, 1) := by decide +kernel
theorem dL_law_282 : decode cL_law 282 = .ok (.iload_n 3, 1) := by decide +kernel
theorem dL_law_283 : decode cL_law 283 = .ok (.iconst 1, 1) := by decide +kernel
theorem dL_law_284 : decode cL_law 284 = .ok (.iadd, 1) := by decide +kernel
theorem dL_law_285 : decode cL_law 285 = .ok (.iaload, 1) := by decide +kernel
theorem dL_law_286 : decode cL_law 286 = .ok (.invokevirtual 42, 3) := by decide +kernel
theorem dL_law_289 : decode cL_law 289 = .ok (.if_icmp .eq 443, 3) := by decide +kernel
theorem dL_law_292 : decode cL_law 292 = .ok (.iconst 0, 1) := by decide +kernel
theorem dL_law_293 : decode cL_law 293 = .ok (.ireturn, 1) := by decide +kernel
theorem dL_law_294 : decode cL_law 294 = .ok (.aload_n 1, 1) := by decide +kernel
theorem dL_law_295 : decode cL_law 295 = .ok (.aload_n 0, 1) := by decide +kernel
theorem dL_law_296 : decode cL_law 296 = .ok (.iload_n 3, 1) := by decide +kernel
theorem dL_law_297 : decode cL_law 297 = .ok (.iconst 1, 1) := by decide +kernel
theorem dL_law_298 : decode cL_law 298 = .ok (.iadd, 1) := by decide +kernel
theorem dL_law_299 : decode cL_law 299 = .ok (.iaload, 1) := by decide +kernel
theorem dL_law_300 : decode cL_law 300 = .ok (.aload_n 0, 1) := by decide +kernel
theorem dL_law_301 : decode cL_law 301 = .ok (.iload_n 3, 1) := by decide +kernel
theorem dL_law_302 : decode cL_law 302 = .ok (.iconst 2, 1) := by decide +kernel
theorem dL_law_303 : decode cL_law 303 = .ok (.iadd, 1) := by decide +kernel
theorem dL_law_304 : decode cL_law 304 = .ok (.iaload, 1) := by decide +kernel
theorem dL_law_305 : decode cL_law 305 = .ok (.aload_n 0, 1) := by decide +kernel
theorem dL_law_306 : decode cL_law 306 = .ok (.iload_n 3, 1) := by decide +kernel
theorem dL_law_307 : decode cL_law 307 = .ok (.iconst 3, 1) := by decide +kernel
theorem dL_law_308 : decode cL_law 308 = .ok (.iadd, 1) := by decide +kernel
theorem dL_law_309 : decode cL_law 309 = .ok (.iaload, 1) := by decide +kernel
theorem dL_law_310 : decode cL_law 310 = .ok (.invokevirtual 43, 3) := by decide +kernel
theorem dL_law_313 : decode cL_law 313 = .ok (.aload_n 2, 1) := by decide +kernel
theorem dL_law_314 : decode cL_law 314 = .ok (.aload_n 0, 1) := by decide +kernel
theorem dL_law_315 : decode cL_law 315 = .ok (.iload_n 3, 1) := by decide +kernel
theorem dL_law_316 : decode cL_law 316 = .ok (.iconst 1, 1) := by decide +kernel
theorem dL_law_317 : decode cL_law 317 = .ok (.iadd, 1) := by decide +kernel
theorem dL_law_318 : decode cL_law 318 = .ok (.iaload, 1) := by decide +kernel
theorem dL_law_319 : decode cL_law 319 = .ok (.aload_n 0, 1) := by decide +kernel
theorem dL_law_320 : decode cL_law 320 = .ok (.iload_n 3, 1) := by decide +kernel
theorem dL_law_321 : decode cL_law 321 = .ok (.iconst 2, 1) := by decide +kernel
theorem dL_law_322 : decode cL_law 322 = .ok (.iadd, 1) := by decide +kernel
theorem dL_law_323 : decode cL_law 323 = .ok (.iaload, 1) := by decide +kernel
theorem dL_law_324 : decode cL_law 324 = .ok (.aload_n 0, 1) := by decide +kernel
theorem dL_law_325 : decode cL_law 325 = .ok (.iload_n 3, 1) := by decide +kernel
theorem dL_law_326 : decode cL_law 326 = .ok (.iconst 3, 1) := by decide +kernel
theorem dL_law_327 : decode cL_law 327 = .ok (.iadd, 1) := by decide +kernel
theorem dL_law_328 : decode cL_law 328 = .ok (.iaload, 1) := by decide +kernel
theorem dL_law_329 : decode cL_law 329 = .ok (.invokevirtual 47, 3) := by decide +kernel
theorem dL_law_332 : decode cL_law 332 = .ok (.if_icmp .eq 400, 3) := by decide +kernel
theorem dL_law_335 : decode cL_law 335 = .ok (.iconst 0, 1) := by decide +kernel
theorem dL_law_336 : decode cL_law 336 = .ok (.ireturn, 1) := by decide +kernel
theorem dL_law_337 : decode cL_law 337 = .ok (.aload_n 1, 1) := by decide +kernel
theorem dL_law_338 : decode cL_law 338 = .ok (.invokevirtual 48, 3) := by decide +kernel
theorem dL_law_341 : decode cL_law 341 = .ok (.aload_n 2, 1) := by decide +kernel
theorem dL_law_342 : decode cL_law 342 = .ok (.invokevirtual 51, 3) := by decide +kernel
theorem dL_law_345 : decode cL_law 345 = .ok (.if_icmp .eq 387, 3) := by decide +kernel
theorem dL_law_348 : decode cL_law 348 = .ok (.iconst 0, 1) := by decide +kernel
theorem dL_law_349 : decode cL_law 349 = .ok (.ireturn, 1) := by decide +kernel
theorem dL_law_350 : decode cL_law 350 = .ok (.aload_n 1, 1) := by decide +kernel
theorem dL_law_351 : decode cL_law 351 = .ok (.aload_n 0, 1) := by decide +kernel
theorem dL_law_352 : decode cL_law 352 = .ok (.iload_n 3, 1) := by decide +kernel
theorem dL_law_353 : decode cL_law 353 = .ok (.iconst 1, 1) := by decide +kernel
theorem dL_law_354 : decode cL_law 354 = .ok (.iadd, 1) := by decide +kernel
theorem dL_law_355 : decode cL_law 355 = .ok (.iaload, 1) := by decide +kernel
theorem dL_law_356 : decode cL_law 356 = .ok (.aload_n 0, 1) := by decide +kernel
theorem dL_law_357 : decode cL_law 357 = .ok (.iload_n 3, 1) := by decide +kernel
theorem dL_law_358 : decode cL_law 358 = .ok (.iconst 2, 1) := by decide +kernel
theorem dL_law_359 : decode cL_law 359 = .ok (.iadd, 1) := by decide +kernel
theorem dL_law_360 : decode cL_law 360 = .ok (.iaload, 1) := by decide +kernel
theorem dL_law_361 : decode cL_law 361 = .ok (.aload_n 0, 1) := by decide +kernel
theorem dL_law_362 : decode cL_law 362 = .ok (.iload_n 3, 1) := by decide +kernel
theorem dL_law_363 : decode cL_law 363 = .ok (.iconst 3, 1) := by decide +kernel
theorem dL_law_364 : decode cL_law 364 = .ok (.iadd, 1) := by decide +kernel
theorem dL_law_365 : decode cL_law 365 = .ok (.iaload, 1) := by decide +kernel
theorem dL_law_366 : decode cL_law 366 = .ok (.invokevirtual 52, 3) := by decide +kernel
theorem dL_law_369 : decode cL_law 369 = .ok (.aload_n 2, 1) := by decide +kernel
theorem dL_law_370 : decode cL_law 370 = .ok (.aload_n 0, 1) := by decide +kernel
theorem dL_law_371 : decode cL_law 371 = .ok (.iload_n 3, 1) := by decide +kernel
theorem dL_law_372 : decode cL_law 372 = .ok (.iconst 1, 1) := by decide +kernel
theorem dL_law_373 : decode cL_law 373 = .ok (.iadd, 1) := by decide +kernel
theorem dL_law_374 : decode cL_law 374 = .ok (.iaload, 1) := by decide +kernel
theorem dL_law_375 : decode cL_law 375 = .ok (.aload_n 0, 1) := by decide +kernel
theorem dL_law_376 : decode cL_law 376 = .ok (.iload_n 3, 1) := by decide +kernel
theorem dL_law_377 : decode cL_law 377 = .ok (.iconst 2, 1) := by decide +kernel
theorem dL_law_378 : decode cL_law 378 = .ok (.iadd, 1) := by decide +kernel
theorem dL_law_379 : decode cL_law 379 = .ok (.iaload, 1) := by decide +kernel
theorem dL_law_380 : decode cL_law 380 = .ok (.aload_n 0, 1) := by decide +kernel
theorem dL_law_381 : decode cL_law 381 = .ok (.iload_n 3, 1) := by decide +kernel
theorem dL_law_382 : decode cL_law 382 = .ok (.iconst 3, 1) := by decide +kernel
theorem dL_law_383 : decode cL_law 383 = .ok (.iadd, 1) := by decide +kernel
theorem dL_law_384 : decode cL_law 384 = .ok (.iaload, 1) := by decide +kernel
theorem dL_law_385 : decode cL_law 385 = .ok (.invokevirtual 55, 3) := by decide +kernel
theorem dL_law_388 : decode cL_law 388 = .ok (.if_icmp .eq 344, 3) := by decide +kernel
theorem dL_law_391 : decode cL_law 391 = .ok (.iconst 0, 1) := by decide +kernel
theorem dL_law_392 : decode cL_law 392 = .ok (.ireturn, 1) := by decide +kernel
theorem dL_law_393 : decode cL_law 393 = .ok (.aload_n 1, 1) := by decide +kernel
theorem dL_law_394 : decode cL_law 394 = .ok (.aload_n 0, 1) := by decide +kernel
theorem dL_law_395 : decode cL_law 395 = .ok (.iload_n 3, 1) := by decide +kernel
theorem dL_law_396 : decode cL_law 396 = .ok (.iconst 1, 1) := by decide +kernel
theorem dL_law_397 : decode cL_law 397 = .ok (.iadd, 1) := by decide +kernel
theorem dL_law_398 : decode cL_law 398 = .ok (.iaload, 1) := by decide +kernel
theorem dL_law_399 : decode cL_law 399 = .ok (.aload_n 0, 1) := by decide +kernel
theorem dL_law_400 : decode cL_law 400 = .ok (.iload_n 3, 1) := by decide +kernel
theorem dL_law_401 : decode cL_law 401 = .ok (.iconst 2, 1) := by decide +kernel
theorem dL_law_402 : decode cL_law 402 = .ok (.iadd, 1) := by decide +kernel
theorem dL_law_403 : decode cL_law 403 = .ok (.iaload, 1) := by decide +kernel
theorem dL_law_404 : decode cL_law 404 = .ok (.invokevirtual 56, 3) := by decide +kernel
theorem dL_law_407 : decode cL_law 407 = .ok (.aload_n 2, 1) := by decide +kernel
theorem dL_law_408 : decode cL_law 408 = .ok (.aload_n 0, 1) := by decide +kernel
theorem dL_law_409 : decode cL_law 409 = .ok (.iload_n 3, 1) := by decide +kernel
theorem dL_law_410 : decode cL_law 410 = .ok (.iconst 1, 1) := by decide +kernel
theorem dL_law_411 : decode cL_law 411 = .ok (.iadd, 1) := by decide +kernel
theorem dL_law_412 : decode cL_law 412 = .ok (.iaload, 1) := by decide +kernel
theorem dL_law_413 : decode cL_law 413 = .ok (.aload_n 0, 1) := by decide +kernel
theorem dL_law_414 : decode cL_law 414 = .ok (.iload_n 3, 1) := by decide +kernel
theorem dL_law_415 : decode cL_law 415 = .ok (.iconst 2, 1) := by decide +kernel
theorem dL_law_416 : decode cL_law 416 = .ok (.iadd, 1) := by decide +kernel
theorem dL_law_417 : decode cL_law 417 = .ok (.iaload, 1) := by decide +kernel
theorem dL_law_418 : decode cL_law 418 = .ok (.invokevirtual 59, 3) := by decide +kernel
theorem dL_law_421 : decode cL_law 421 = .ok (.if_icmp .eq 311, 3) := by decide +kernel
theorem dL_law_424 : decode cL_law 424 = .ok (.iconst 0, 1) := by decide +kernel
theorem dL_law_425 : decode cL_law 425 = .ok (.ireturn, 1) := by decide +kernel
theorem dL_law_426 : decode cL_law 426 = .ok (.aload_n 1, 1) := by decide +kernel
theorem dL_law_427 : decode cL_law 427 = .ok (.aload_n 0, 1) := by decide +kernel
theorem dL_law_428 : decode cL_law 428 = .ok (.iload_n 3, 1) := by decide +kernel
theorem dL_law_429 : decode cL_law 429 = .ok (.iconst 1, 1) := by decide +kernel
theorem dL_law_430 : decode cL_law 430 = .ok (.iadd, 1) := by decide +kernel
theorem dL_law_431 : decode cL_law 431 = .ok (.iaload, 1) := by decide +kernel
theorem dL_law_432 : decode cL_law 432 = .ok (.aload_n 0, 1) := by decide +kernel
theorem dL_law_433 : decode cL_law 433 = .ok (.iload_n 3, 1) := by decide +kernel
theorem dL_law_434 : decode cL_law 434 = .ok (.iconst 2, 1) := by decide +kernel
theorem dL_law_435 : decode cL_law 435 = .ok (.iadd, 1) := by decide +kernel
theorem dL_law_436 : decode cL_law 436 = .ok (.iaload, 1) := by decide +kernel
theorem dL_law_437 : decode cL_law 437 = .ok (.invokevirtual 60, 3) := by decide +kernel
theorem dL_law_440 : decode cL_law 440 = .ok (.aload_n 2, 1) := by decide +kernel
theorem dL_law_441 : decode cL_law 441 = .ok (.aload_n 0, 1) := by decide +kernel
theorem dL_law_442 : decode cL_law 442 = .ok (.iload_n 3, 1) := by decide +kernel
theorem dL_law_443 : decode cL_law 443 = .ok (.iconst 1, 1) := by decide +kernel
theorem dL_law_444 : decode cL_law 444 = .ok (.iadd, 1) := by decide +kernel
theorem dL_law_445 : decode cL_law 445 = .ok (.iaload, 1) := by decide +kernel
theorem dL_law_446 : decode cL_law 446 = .ok (.aload_n 0, 1) := by decide +kernel
theorem dL_law_447 : decode cL_law 447 = .ok (.iload_n 3, 1) := by decide +kernel
theorem dL_law_448 : decode cL_law 448 = .ok (.iconst 2, 1) := by decide +kernel
theorem dL_law_449 : decode cL_law 449 = .ok (.iadd, 1) := by decide +kernel
theorem dL_law_450 : decode cL_law 450 = .ok (.iaload, 1) := by decide +kernel
theorem dL_law_451 : decode cL_law 451 = .ok (.invokevirtual 63, 3) := by decide +kernel
theorem dL_law_454 : decode cL_law 454 = .ok (.if_icmp .eq 278, 3) := by decide +kernel
theorem dL_law_457 : decode cL_law 457 = .ok (.iconst 0, 1) := by decide +kernel
theorem dL_law_458 : decode cL_law 458 = .ok (.ireturn, 1) := by decide +kernel
theorem dL_law_459 : decode cL_law 459 = .ok (.aload_n 1, 1) := by decide +kernel
theorem dL_law_460 : decode cL_law 460 = .ok (.aload_n 0, 1) := by decide +kernel
theorem dL_law_461 : decode cL_law 461 = .ok (.iload_n 3, 1) := by decide +kernel
theorem dL_law_462 : decode cL_law 462 = .ok (.iconst 1, 1) := by decide +kernel
theorem dL_law_463 : decode cL_law 463 = .ok (.iadd, 1) := by decide +kernel
theorem dL_law_464 : decode cL_law 464 = .ok (.iaload, 1) := by decide +kernel
theorem dL_law_465 : decode cL_law 465 = .ok (.aload_n 0, 1) := by decide +kernel
theorem dL_law_466 : decode cL_law 466 = .ok (.iload_n 3, 1) := by decide +kernel
theorem dL_law_467 : decode cL_law 467 = .ok (.iconst 2, 1) := by decide +kernel
theorem dL_law_468 : decode cL_law 468 = .ok (.iadd, 1) := by decide +kernel
theorem dL_law_469 : decode cL_law 469 = .ok (.iaload, 1) := by decide +kernel
theorem dL_law_470 : decode cL_law 470 = .ok (.aload_n 0, 1) := by decide +kernel
theorem dL_law_471 : decode cL_law 471 = .ok (.iload_n 3, 1) := by decide +kernel
theorem dL_law_472 : decode cL_law 472 = .ok (.iconst 3, 1) := by decide +kernel
theorem dL_law_473 : decode cL_law 473 = .ok (.iadd, 1) := by decide +kernel
theorem dL_law_474 : decode cL_law 474 = .ok (.iaload, 1) := by decide +kernel
theorem dL_law_475 : decode cL_law 475 = .ok (.invokevirtual 64, 3) := by decide +kernel
theorem dL_law_478 : decode cL_law 478 = .ok (.aload_n 2, 1) := by decide +kernel
theorem dL_law_479 : decode cL_law 479 = .ok (.aload_n 0, 1) := by decide +kernel
theorem dL_law_480 : decode cL_law 480 = .ok (.iload_n 3, 1) := by decide +kernel
theorem dL_law_481 : decode cL_law 481 = .ok (.iconst 1, 1) := by decide +kernel
theorem dL_law_482 : decode cL_law 482 = .ok (.iadd, 1) := by decide +kernel
theorem dL_law_483 : decode cL_law 483 = .ok (.iaload, 1) := by decide +kernel
theorem dL_law_484 : decode cL_law 484 = .ok (.aload_n 0, 1) := by decide +kernel
theorem dL_law_485 : decode cL_law 485 = .ok (.iload_n 3, 1) := by decide +kernel
theorem dL_law_486 : decode cL_law 486 = .ok (.iconst 2, 1) := by decide +kernel
theorem dL_law_487 : decode cL_law 487 = .ok (.iadd, 1) := by decide +kernel
theorem dL_law_488 : decode cL_law 488 = .ok (.iaload, 1) := by decide +kernel
theorem dL_law_489 : decode cL_law 489 = .ok (.aload_n 0, 1) := by decide +kernel
theorem dL_law_490 : decode cL_law 490 = .ok (.iload_n 3, 1) := by decide +kernel
theorem dL_law_491 : decode cL_law 491 = .ok (.iconst 3, 1) := by decide +kernel
theorem dL_law_492 : decode cL_law 492 = .ok (.iadd, 1) := by decide +kernel
theorem dL_law_493 : decode cL_law 493 = .ok (.iaload, 1) := by decide +kernel
theorem dL_law_494 : decode cL_law 494 = .ok (.invokevirtual 67, 3) := by decide +kernel
theorem dL_law_497 : decode cL_law 497 = .ok (.if_icmp .eq 235, 3) := by decide +kernel
theorem dL_law_500 : decode cL_law 500 = .ok (.iconst 0, 1) := by decide +kernel
theorem dL_law_501 : decode cL_law 501 = .ok (.ireturn, 1) := by decide +kernel
theorem dL_law_502 : decode cL_law 502 = .ok (.aload_n 1, 1) := by decide +kernel
theorem dL_law_503 : decode cL_law 503 = .ok (.aload_n 0, 1) := by decide +kernel
theorem dL_law_504 : decode cL_law 504 = .ok (.iload_n 3, 1) := by decide +kernel
theorem dL_law_505 : decode cL_law 505 = .ok (.iconst 1, 1) := by decide +kernel
theorem dL_law_506 : decode cL_law 506 = .ok (.iadd, 1) := by decide +kernel
theorem dL_law_507 : decode cL_law 507 = .ok (.iaload, 1) := by decide +kernel
theorem dL_law_508 : decode cL_law 508 = .ok (.aload_n 0, 1) := by decide +kernel
theorem dL_law_509 : decode cL_law 509 = .ok (.iload_n 3, 1) := by decide +kernel
theorem dL_law_510 : decode cL_law 510 = .ok (.iconst 2, 1) := by decide +kernel
theorem dL_law_511 : decode cL_law 511 = .ok (.iadd, 1) := by decide +kernel
theorem dL_law_512 : decode cL_law 512 = .ok (.iaload, 1) := by decide +kernel
theorem dL_law_513 : decode cL_law 513 = .ok (.invokevirtual 68, 3) := by decide +kernel
theorem dL_law_516 : decode cL_law 516 = .ok (.aload_n 2, 1) := by decide +kernel
theorem dL_law_517 : decode cL_law 517 = .ok (.aload_n 0, 1) := by decide +kernel
theorem dL_law_518 : decode cL_law 518 = .ok (.iload_n 3, 1) := by decide +kernel
theorem dL_law_519 : decode cL_law 519 = .ok (.iconst 1, 1) := by decide +kernel
theorem dL_law_520 : decode cL_law 520 = .ok (.iadd, 1) := by decide +kernel
theorem dL_law_521 : decode cL_law 521 = .ok (.iaload, 1) := by decide +kernel
theorem dL_law_522 : decode cL_law 522 = .ok (.aload_n 0, 1) := by decide +kernel
theorem dL_law_523 : decode cL_law 523 = .ok (.iload_n 3, 1) := by decide +kernel
theorem dL_law_524 : decode cL_law 524 = .ok (.iconst 2, 1) := by decide +kernel
theorem dL_law_525 : decode cL_law 525 = .ok (.iadd, 1) := by decide +kernel
theorem dL_law_526 : decode cL_law 526 = .ok (.iaload, 1) := by decide +kernel
theorem dL_law_527 : decode cL_law 527 = .ok (.invokevirtual 71, 3) := by decide +kernel
theorem dL_law_530 : decode cL_law 530 = .ok (.if_icmp .eq 202, 3) := by decide +kernel
theorem dL_law_533 : decode cL_law 533 = .ok (.iconst 0, 1) := by decide +kernel
theorem dL_law_534 : decode cL_law 534 = .ok (.ireturn, 1) := by decide +kernel
theorem dL_law_535 : decode cL_law 535 = .ok (.aload_n 1, 1) := by decide +kernel
theorem dL_law_536 : decode cL_law 536 = .ok (.aload_n 0, 1) := by decide +kernel
theorem dL_law_537 : decode cL_law 537 = .ok (.iload_n 3, 1) := by decide +kernel
theorem dL_law_538 : decode cL_law 538 = .ok (.iconst 1, 1) := by decide +kernel
theorem dL_law_539 : decode cL_law 539 = .ok (.iadd, 1) := by decide +kernel
theorem dL_law_540 : decode cL_law 540 = .ok (.iaload, 1) := by decide +kernel
theorem dL_law_541 : decode cL_law 541 = .ok (.invokevirtual 72, 3) := by decide +kernel
theorem dL_law_544 : decode cL_law 544 = .ok (.aload_n 2, 1) := by decide +kernel
theorem dL_law_545 : decode cL_law 545 = .ok (.aload_n 0, 1) := by decide +kernel
theorem dL_law_546 : decode cL_law 546 = .ok (.iload_n 3, 1) := by decide +kernel
theorem dL_law_547 : decode cL_law 547 = .ok (.iconst 1, 1) := by decide +kernel
theorem dL_law_548 : decode cL_law 548 = .ok (.iadd, 1) := by decide +kernel
theorem dL_law_549 : decode cL_law 549 = .ok (.iaload, 1) := by decide +kernel
theorem dL_law_550 : decode cL_law 550 = .ok (.invokevirtual 75, 3) := by decide +kernel
theorem dL_law_553 : decode cL_law 553 = .ok (.if_icmp .eq 179, 3) := by decide +kernel
theorem dL_law_556 : decode cL_law 556 = .ok (.iconst 0, 1) := by decide +kernel
theorem dL_law_557 : decode cL_law 557 = .ok (.ireturn, 1) := by decide +kernel
theorem dL_law_558 : decode cL_law 558 = .ok (.aload_n 1, 1) := by decide +kernel
theorem dL_law_559 : decode cL_law 559 = .ok (.aload_n 0, 1) := by decide +kernel
theorem dL_law_560 : decode cL_law 560 = .ok (.iload_n 3, 1) := by decide +kernel
theorem dL_law_561 : decode cL_law 561 = .ok (.iconst 1, 1) := by decide +kernel
theorem dL_law_562 : decode cL_law 562 = .ok (.iadd, 1) := by decide +kernel
theorem dL_law_563 : decode cL_law 563 = .ok (.iaload, 1) := by decide +kernel
theorem dL_law_564 : decode cL_law 564 = .ok (.invokevirtual 76, 3) := by decide +kernel
theorem dL_law_567 : decode cL_law 567 = .ok (.aload_n 2, 1) := by decide +kernel
theorem dL_law_568 : decode cL_law 568 = .ok (.aload_n 0, 1) := by decide +kernel
theorem dL_law_569 : decode cL_law 569 = .ok (.iload_n 3, 1) := by decide +kernel
theorem dL_law_570 : decode cL_law 570 = .ok (.iconst 1, 1) := by decide +kernel
theorem dL_law_571 : decode cL_law 571 = .ok (.iadd, 1) := by decide +kernel
theorem dL_law_572 : decode cL_law 572 = .ok (.iaload, 1) := by decide +kernel
theorem dL_law_573 : decode cL_law 573 = .ok (.invokevirtual 79, 3) := by decide +kernel
theorem dL_law_576 : decode cL_law 576 = .ok (.if_icmp .eq 156, 3) := by decide +kernel
theorem dL_law_579 : decode cL_law 579 = .ok (.iconst 0, 1) := by decide +kernel
theorem dL_law_580 : decode cL_law 580 = .ok (.ireturn, 1) := by decide +kernel
theorem dL_law_581 : decode cL_law 581 = .ok (.aload_n 1, 1) := by decide +kernel
theorem dL_law_582 : decode cL_law 582 = .ok (.aload_n 0, 1) := by decide +kernel
theorem dL_law_583 : decode cL_law 583 = .ok (.iload_n 3, 1) := by decide +kernel
theorem dL_law_584 : decode cL_law 584 = .ok (.iconst 1, 1) := by decide +kernel
theorem dL_law_585 : decode cL_law 585 = .ok (.iadd, 1) := by decide +kernel
theorem dL_law_586 : decode cL_law 586 = .ok (.iaload, 1) := by decide +kernel
theorem dL_law_587 : decode cL_law 587 = .ok (.invokevirtual 80, 3) := by decide +kernel
theorem dL_law_590 : decode cL_law 590 = .ok (.aload_n 2, 1) := by decide +kernel
theorem dL_law_591 : decode cL_law 591 = .ok (.aload_n 0, 1) := by decide +kernel
theorem dL_law_592 : decode cL_law 592 = .ok (.iload_n 3, 1) := by decide +kernel
theorem dL_law_593 : decode cL_law 593 = .ok (.iconst 1, 1) := by decide +kernel
theorem dL_law_594 : decode cL_law 594 = .ok (.iadd, 1) := by decide +kernel
theorem dL_law_595 : decode cL_law 595 = .ok (.iaload, 1) := by decide +kernel
theorem dL_law_596 : decode cL_law 596 = .ok (.invokevirtual 83, 3) := by decide +kernel
theorem dL_law_599 : decode cL_law 599 = .ok (.if_icmp .eq 133, 3) := by decide +kernel
theorem dL_law_602 : decode cL_law 602 = .ok (.iconst 0, 1) := by decide +kernel
theorem dL_law_603 : decode cL_law 603 = .ok (.ireturn, 1) := by decide +kernel
theorem dL_law_604 : decode cL_law 604 = .ok (.aload_n 1, 1) := by decide +kernel
theorem dL_law_605 : decode cL_law 605 = .ok (.invokevirtual 84, 3) := by decide +kernel
theorem dL_law_608 : decode cL_law 608 = .ok (.aload_n 2, 1) := by decide +kernel
theorem dL_law_609 : decode cL_law 609 = .ok (.invokevirtual 87, 3) := by decide +kernel
theorem dL_law_612 : decode cL_law 612 = .ok (.if_icmp .eq 120, 3) := by decide +kernel
theorem dL_law_615 : decode cL_law 615 = .ok (.iconst 0, 1) := by decide +kernel
theorem dL_law_616 : decode cL_law 616 = .ok (.ireturn, 1) := by decide +kernel
theorem dL_law_617 : decode cL_law 617 = .ok (.aload_n 1, 1) := by decide +kernel
theorem dL_law_618 : decode cL_law 618 = .ok (.aload_n 0, 1) := by decide +kernel
theorem dL_law_619 : decode cL_law 619 = .ok (.iload_n 3, 1) := by decide +kernel
theorem dL_law_620 : decode cL_law 620 = .ok (.iconst 1, 1) := by decide +kernel
theorem dL_law_621 : decode cL_law 621 = .ok (.iadd, 1) := by decide +kernel
theorem dL_law_622 : decode cL_law 622 = .ok (.iaload, 1) := by decide +kernel
theorem dL_law_623 : decode cL_law 623 = .ok (.invokevirtual 88, 3) := by decide +kernel
theorem dL_law_626 : decode cL_law 626 = .ok (.aload_n 2, 1) := by decide +kernel
theorem dL_law_627 : decode cL_law 627 = .ok (.aload_n 0, 1) := by decide +kernel
theorem dL_law_628 : decode cL_law 628 = .ok (.iload_n 3, 1) := by decide +kernel
theorem dL_law_629 : decode cL_law 629 = .ok (.iconst 1, 1) := by decide +kernel
theorem dL_law_630 : decode cL_law 630 = .ok (.iadd, 1) := by decide +kernel
theorem dL_law_631 : decode cL_law 631 = .ok (.iaload, 1) := by decide +kernel
theorem dL_law_632 : decode cL_law 632 = .ok (.invokevirtual 91, 3) := by decide +kernel
theorem dL_law_635 : decode cL_law 635 = .ok (.if_icmp .eq 97, 3) := by decide +kernel
theorem dL_law_638 : decode cL_law 638 = .ok (.iconst 0, 1) := by decide +kernel
theorem dL_law_639 : decode cL_law 639 = .ok (.ireturn, 1) := by decide +kernel
theorem dL_law_640 : decode cL_law 640 = .ok (.aload_n 1, 1) := by decide +kernel
theorem dL_law_641 : decode cL_law 641 = .ok (.aload_n 0, 1) := by decide +kernel
theorem dL_law_642 : decode cL_law 642 = .ok (.iload_n 3, 1) := by decide +kernel
theorem dL_law_643 : decode cL_law 643 = .ok (.iconst 1, 1) := by decide +kernel
theorem dL_law_644 : decode cL_law 644 = .ok (.iadd, 1) := by decide +kernel
theorem dL_law_645 : decode cL_law 645 = .ok (.iaload, 1) := by decide +kernel
theorem dL_law_646 : decode cL_law 646 = .ok (.aload_n 0, 1) := by decide +kernel
theorem dL_law_647 : decode cL_law 647 = .ok (.iload_n 3, 1) := by decide +kernel
theorem dL_law_648 : decode cL_law 648 = .ok (.iconst 2, 1) := by decide +kernel
theorem dL_law_649 : decode cL_law 649 = .ok (.iadd, 1) := by decide +kernel
theorem dL_law_650 : decode cL_law 650 = .ok (.iaload, 1) := by decide +kernel
theorem dL_law_651 : decode cL_law 651 = .ok (.invokevirtual 92, 3) := by decide +kernel
theorem dL_law_654 : decode cL_law 654 = .ok (.aload_n 2, 1) := by decide +kernel
theorem dL_law_655 : decode cL_law 655 = .ok (.aload_n 0, 1) := by decide +kernel
theorem dL_law_656 : decode cL_law 656 = .ok (.iload_n 3, 1) := by decide +kernel
theorem dL_law_657 : decode cL_law 657 = .ok (.iconst 1, 1) := by decide +kernel
theorem dL_law_658 : decode cL_law 658 = .ok (.iadd, 1) := by decide +kernel
theorem dL_law_659 : decode cL_law 659 = .ok (.iaload, 1) := by decide +kernel
theorem dL_law_660 : decode cL_law 660 = .ok (.aload_n 0, 1) := by decide +kernel
theorem dL_law_661 : decode cL_law 661 = .ok (.iload_n 3, 1) := by decide +kernel
theorem dL_law_662 : decode cL_law 662 = .ok (.iconst 2, 1) := by decide +kernel
theorem dL_law_663 : decode cL_law 663 = .ok (.iadd, 1) := by decide +kernel
theorem dL_law_664 : decode cL_law 664 = .ok (.iaload, 1) := by decide +kernel
theorem dL_law_665 : decode cL_law 665 = .ok (.invokevirtual 95, 3) := by decide +kernel
theorem dL_law_668 : decode cL_law 668 = .ok (.if_icmp .eq 64, 3) := by decide +kernel
theorem dL_law_671 : decode cL_law 671 = .ok (.iconst 0, 1) := by decide +kernel
theorem dL_law_672 : decode cL_law 672 = .ok (.ireturn, 1) := by decide +kernel
theorem dL_law_673 : decode cL_law 673 = .ok (.aload_n 1, 1) := by decide +kernel
theorem dL_law_674 : decode cL_law 674 = .ok (.invokevirtual 96, 3) := by decide +kernel
theorem dL_law_677 : decode cL_law 677 = .ok (.aload_n 2, 1) := by decide +kernel
theorem dL_law_678 : decode cL_law 678 = .ok (.invokevirtual 99, 3) := by decide +kernel
theorem dL_law_681 : decode cL_law 681 = .ok (.if_icmp .eq 51, 3) := by decide +kernel
theorem dL_law_684 : decode cL_law 684 = .ok (.iconst 0, 1) := by decide +kernel
theorem dL_law_685 : decode cL_law 685 = .ok (.ireturn, 1) := by decide +kernel
theorem dL_law_686 : decode cL_law 686 = .ok (.aload_n 1, 1) := by decide +kernel
theorem dL_law_687 : decode cL_law 687 = .ok (.aload_n 0, 1) := by decide +kernel
theorem dL_law_688 : decode cL_law 688 = .ok (.iload_n 3, 1) := by decide +kernel
theorem dL_law_689 : decode cL_law 689 = .ok (.iconst 1, 1) := by decide +kernel
theorem dL_law_690 : decode cL_law 690 = .ok (.iadd, 1) := by decide +kernel
theorem dL_law_691 : decode cL_law 691 = .ok (.iaload, 1) := by decide +kernel
theorem dL_law_692 : decode cL_law 692 = .ok (.invokevirtual 100, 3) := by decide +kernel
theorem dL_law_695 : decode cL_law 695 = .ok (.aload_n 2, 1) := by decide +kernel
theorem dL_law_696 : decode cL_law 696 = .ok (.aload_n 0, 1) := by decide +kernel
theorem dL_law_697 : decode cL_law 697 = .ok (.iload_n 3, 1) := by decide +kernel
theorem dL_law_698 : decode cL_law 698 = .ok (.iconst 1, 1) := by decide +kernel
theorem dL_law_699 : decode cL_law 699 = .ok (.iadd, 1) := by decide +kernel
theorem dL_law_700 : decode cL_law 700 = .ok (.iaload, 1) := by decide +kernel
theorem dL_law_701 : decode cL_law 701 = .ok (.invokevirtual 103, 3) := by decide +kernel
theorem dL_law_704 : decode cL_law 704 = .ok (.if_icmp .eq 28, 3) := by decide +kernel
theorem dL_law_707 : decode cL_law 707 = .ok (.iconst 0, 1) := by decide +kernel
theorem dL_law_708 : decode cL_law 708 = .ok (.ireturn, 1) := by decide +kernel
theorem dL_law_709 : decode cL_law 709 = .ok (.aload_n 1, 1) := by decide +kernel
theorem dL_law_710 : decode cL_law 710 = .ok (.aload_n 0, 1) := by decide +kernel
theorem dL_law_711 : decode cL_law 711 = .ok (.iload_n 3, 1) := by decide +kernel
theorem dL_law_712 : decode cL_law 712 = .ok (.iconst 1, 1) := by decide +kernel
theorem dL_law_713 : decode cL_law 713 = .ok (.iadd, 1) := by decide +kernel
theorem dL_law_714 : decode cL_law 714 = .ok (.iaload, 1) := by decide +kernel
theorem dL_law_715 : decode cL_law 715 = .ok (.invokevirtual 104, 3) := by decide +kernel
theorem dL_law_718 : decode cL_law 718 = .ok (.aload_n 2, 1) := by decide +kernel
theorem dL_law_719 : decode cL_law 719 = .ok (.aload_n 0, 1) := by decide +kernel
theorem dL_law_720 : decode cL_law 720 = .ok (.iload_n 3, 1) := by decide +kernel
theorem dL_law_721 : decode cL_law 721 = .ok (.iconst 1, 1) := by decide +kernel
theorem dL_law_722 : decode cL_law 722 = .ok (.iadd, 1) := by decide +kernel
theorem dL_law_723 : decode cL_law 723 = .ok (.iaload, 1) := by decide +kernel
theorem dL_law_724 : decode cL_law 724 = .ok (.invokevirtual 107, 3) := by decide +kernel
theorem dL_law_727 : decode cL_law 727 = .ok (.if_icmp .eq 5, 3) := by decide +kernel
theorem dL_law_730 : decode cL_law 730 = .ok (.iconst 0, 1) := by decide +kernel
theorem dL_law_731 : decode cL_law 731 = .ok (.ireturn, 1) := by decide +kernel
theorem dL_law_732 : decode cL_law 732 = .ok (.iinc 3 4, 3) := by decide +kernel
theorem dL_law_735 : decode cL_law 735 = .ok (.goto (-717), 3) := by decide +kernel
theorem dL_law_738 : decode cL_law 738 = .ok (.iconst 1, 1) := by decide +kernel
theorem dL_law_739 : decode cL_law 739 = .ok (.ireturn, 1) := by decide +kernel
end
section
/-! The store of this proof: every cell that the law makes, by address; a shape (kind and length), references and whole numbers apart. Each method is turned (by a program, wip/whole/gen.py) into a function over it that is none where a test fails; a contract says that the machine runs as the function does. -/
abbrev tw_Sh : Type := Nat → Option (Nat × Nat)
abbrev tw_St : Type := Nat × tw_Sh × (Nat → Nat → Option Nat) × (Nat → Nat → Int32)
abbrev tw_G : Type := va_G × (Nat → ClassId) × Nat × Nat × Nat
def tw_A (G : tw_G) : Nat → Prop := fun q => G.2.2.2.2 ≤ q
def tw_isR : Nat → Nat → Bool := fun t j => match t with
  | 0 => j == 2
  | 1 => j == 1
  | 2 => j == 2 || j == 3
  | 3 => j == 1
  | 4 => j == 0 || j == 2
  | 5 => !(j == 11)
  | 6 => true
  | 7 => true
  | 8 => !(j == 2 || j == 6 || j == 8 || j == 9 || j == 10)
  | 20 => false
  | 21 => false
  | 22 => false
  | _ => true
def tw_ty : Nat → FieldType := fun t => match t with
  | 20 => .int
  | 21 => .char
  | 22 => .boolean
  | 23 => .array .int
  | 24 => .object RX6
  | 25 => .object RX3
  | _ => .object RX2
def tw_v (t : Nat) (P : Nat → Nat → Option Nat) (I : Nat → Nat → Int32) (a : Nat) : Nat → Value := fun j => if tw_isR t j = true then va_rf (P a j) else .int (I a j)
def tw_cell (G : tw_G) (t n a : Nat) (V : Nat → Value) (H : Heap) : Prop := match vwCl[t]? with
  | some r => t_OB a (G.1.1 t) r.2.2 (G.1.2 t) H V
  | none => H[a]? = some (arrV (G.2.1 t) n V)
def tw_R (G : tw_G) (σ : tw_St) (H : Heap) : Prop := H.size = σ.1 ∧ G.2.2.2.2 ≤ σ.1 ∧ ∀ a t n, σ.2.1 a = some (t, n) → G.2.2.2.2 ≤ a ∧ tw_cell G t n a (tw_v t σ.2.2.1 σ.2.2.2 a) H
def tw_W : List Cond := lw_tbl.filter goodWord
theorem tw_in {w : Cond} (i : Nat) (h : lw_tbl[i]? = some w) (g : goodWord w = true) : w ∈ tw_W := List.mem_filter.mpr ⟨List.mem_of_getElem? h, g⟩
theorem tw_good {y : MethodName} {b : ByteArray} {n : Nat} {r : Option FieldType} {z : Cond} (h : Cond.code y b n r ∈ tw_W) : GoodIn (z :: tw_W) (Cond.code y b n r :: tw_W) := fun w hw => by
  have h1 : w ∈ tw_W := (List.mem_cons.mp hw).elim (fun e => by rw [e]; exact h) id
  exact ⟨List.mem_cons_of_mem _ h1, good_of_word (List.mem_filter.mp h1).2⟩
theorem tw_pay {args : Array Value} {s : State} {ws : List Cond} (hts : ∀ w ∈ tw_W, w.before args s = true) (h : ∀ w ∈ ws, w ∈ tw_W) : ∀ w ∈ ws, ∀ (a' : Array Value) (U : State), s.WarmedH U.vm → w.before a' U = true :=
  fun w hw a' U hW => word_at hW (good_of_word (List.mem_filter.mp (h w hw)).2) (hts w (h w hw))
def va_AOA (t : FieldType) (U : State) : Prop := (Cond.arrayOver (.array t)).before #[] U = true
theorem va_AOA.of {t : FieldType} {A : Array Value} {U : State} (h : (Cond.arrayOver (.array t)).before A U = true) : va_AOA t U := h
theorem va_AOA.use {t : FieldType} {A : Array Value} {U : State} (h : va_AOA t U) : (Cond.arrayOver (.array t)).before A U = true := h
theorem va_AOA.moved {t : FieldType} {u U : State} (hvm : u.vm.Alike U.vm) (h : va_AOA t u) : va_AOA t U := by
  obtain ⟨comp, c, k, h1, h2, h3, h4, h5⟩ := arrayOverA_spec h
  obtain ⟨k', hk', he⟩ := hvm.2.2 _ _ h3
  have hi : (U.vm.classes.findIdx? fun (x : Class) => match x.kind with | .array component _ => component == comp | _ => false) = some c := by
    rw [hvm.findIdx?_eq _ (fun _ => rfl)]
    exact h2
  have hkind : k'.kind = .array comp (.array t) := by rw [he]; exact h4
  have f1 : U.vm.findClass (FieldType.array t).toString = some comp := by rw [hvm.findClass]; exact h1
  have f2 : U.vm.findClass ("[" ++ (FieldType.array t).toString) = some c := by rw [hvm.findClass]; exact h5
  unfold va_AOA Cond.before Cond.holds
  simp only [Cond.value]
  rw [f1, Option.bind_some]
  refine (congrArg (fun o : Option Nat => (o.bind (fun c => (U.vm.classes[c]?).map fun (k : Class) => match k.kind with | .array _ ty => decide (ty = FieldType.array t) && decide (U.vm.findClass ("[" ++ (FieldType.array t).toString) = some c) | _ => false) == some true)) hi).trans ?_
  simp [hk', hkind, f2]
def tw_KN (U : State) : Prop := va_Nw (.methodLinkNest RX7 9 yX6_init RX7) U ∧ va_Nw (.methodLinkNest RX6 17 yX3_init RX7) U ∧ va_Nw (.methodLinkNest RX5 11 yX2_init RX7) U ∧ va_Nw (.methodLinkNest RX7 33 yX1_init RX7) U ∧ va_Nw (.methodLinkNest RX4 11 yX3_init RX7) U ∧ va_Nw (.methodLinkNest RX0 17 yX6_init RX7) U ∧ va_AO RX3 U ∧ va_AO RX2 U ∧ va_AO RX6 U ∧ va_AOA .int U
def tw_low (j : Nat) : Int32 := if j = 0 then 0 else 1
def tw_hig (j : Nat) : Int32 := if j = 0 then 2 else 9
def tw_K (G : tw_G) (U : State) (H : Heap) : Prop := (∀ t r, vwCl[t]? = some r → u_Kn U r.1 r.2.1 r.2.2 (G.1.1 t) (G.1.2 t)) ∧ (∀ t, 20 ≤ t → t < 27 → ArrOfT U (G.2.1 t) (tw_ty t) ∧ va_RA U (G.2.1 t) (tw_ty t)) ∧ tw_KN U ∧ va_Z RX7 "LOWEST" "[I" (.ref G.2.2.1) (tw_A G) U H ∧ va_Z RX7 "HIGHEST" "[I" (.ref G.2.2.2.1) (tw_A G) U H ∧ va_T .int G.2.2.1 3 (fun j => .int (tw_low j)) (tw_A G) U H ∧ va_T .int G.2.2.2.1 3 (fun j => .int (tw_hig j)) (tw_A G) U H ∧ ∃ kA : Class, U.vm.classes[G.2.1 23]? = some kA ∧ kA.kind = .array (G.2.1 20) (.array .int)
theorem tw_KN.moved {s U : State} (hW : s.WarmedH U.vm) (h : tw_KN s) : tw_KN U := by
  obtain ⟨h1, h2, h3, h4, h5, h6, h7, h8, h9, h10⟩ := h
  exact ⟨h1.warmM hW, h2.warmM hW, h3.warmM hW, h4.warmM hW, h5.warmM hW, h6.warmM hW, h7.moved hW.alike, h8.moved hW.alike, h9.moved hW.alike, h10.moved hW.alike⟩
theorem tw_K.moved {G : tw_G} {s U : State} {H H1 : Heap} (hW : s.WarmedH U.vm) (h : tw_K G s H) (hq : ∀ a : Nat, a < H.size → ¬ tw_A G a → H1[a]? = H[a]?) : tw_K G U H1 := by
  obtain ⟨h1, h2, h3, h4, h5, h6, h7, kA, h8, h9⟩ := h
  obtain ⟨k', hk', he⟩ := hW.alike.2.2 _ _ h8
  exact ⟨fun t r hr => u_Kn_moved hW.alike (h1 t r hr), fun t a b => ⟨arrOfT_moved hW.alike (h2 t a b).1, (h2 t a b).2.moved hW.alike⟩, h3.moved hW, (h4.kept hq).moved hW.alike, (h5.kept hq).moved hW.alike, (h6.kept hq).moved hW.alike, (h7.kept hq).moved hW.alike, k', hk', by rw [he]; exact h9⟩
theorem tw_KN.same {s U : State} (e : s.vm = U.vm) (h : tw_KN s) : tw_KN U := by
  obtain ⟨h1, h2, h3, h4, h5, h6, h7, h8, h9, h10⟩ := h
  have ha : s.vm.Alike U.vm := by rw [e]; exact Vm.Alike.refl _
  exact ⟨h1.same rfl e, h2.same rfl e, h3.same rfl e, h4.same rfl e, h5.same rfl e, h6.same rfl e, h7.moved ha, h8.moved ha, h9.moved ha, h10.moved ha⟩
theorem tw_K.same {G : tw_G} {s U : State} {H : Heap} (e : s.vm = U.vm) (h : tw_K G s H) : tw_K G U H := by
  obtain ⟨h1, h2, h3, h4, h5, h6, h7, kA, h8, h9⟩ := h
  have ha : s.vm.Alike U.vm := by rw [e]; exact Vm.Alike.refl _
  exact ⟨fun t r hr => u_Kn_moved ha (h1 t r hr), fun t a b => ⟨arrOfT_moved ha (h2 t a b).1, (h2 t a b).2.moved ha⟩, h3.same e, h4.moved ha, h5.moved ha, h6.moved ha, h7.moved ha, kA, by rw [← e]; exact h8, h9⟩
/-- the functions' own words: a test of a cell's kind, reads, writes -/
def tw_is (σ : tw_St) (t a : Nat) : Option Unit := match σ.2.1 a with
  | some q => if q.1 = t then some () else none
  | none => none
def tw_gI (σ : tw_St) (t a k : Nat) : Option Int32 := match σ.2.1 a with
  | some q => if q.1 = t then some (σ.2.2.2 a k) else none
  | none => none
def tw_gP (σ : tw_St) (t a k : Nat) : Option Nat := match σ.2.1 a with
  | some q => if q.1 = t then σ.2.2.1 a k else none
  | none => none
def tw_aI (σ : tw_St) (t a : Nat) (i : Int32) : Option Int32 := match σ.2.1 a with
  | some q => if q.1 = t ∧ ¬ i < 0 ∧ i.toNatClampNeg < q.2 then some (σ.2.2.2 a i.toNatClampNeg) else none
  | none => none
def tw_aP (σ : tw_St) (t a : Nat) (i : Int32) : Option Nat := match σ.2.1 a with
  | some q => if q.1 = t ∧ ¬ i < 0 ∧ i.toNatClampNeg < q.2 then σ.2.2.1 a i.toNatClampNeg else none
  | none => none
def tw_up {α : Type} (f : Nat → Nat → α) (a k : Nat) (x : α) : Nat → Nat → α := fun b j => if b = a ∧ j = k then x else f b j
def tw_sI (σ : tw_St) (a k : Nat) (x : Int32) : tw_St := (σ.1, σ.2.1, σ.2.2.1, tw_up σ.2.2.2 a k x)
def tw_sP (σ : tw_St) (a k : Nat) (x : Option Nat) : tw_St := (σ.1, σ.2.1, tw_up σ.2.2.1 a k x, σ.2.2.2)
def tw_pI (σ : tw_St) (t a k : Nat) (x : Int32) : Option tw_St := match σ.2.1 a with
  | some q => if q.1 = t then some (tw_sI σ a k x) else none
  | none => none
def tw_pP (σ : tw_St) (t a k : Nat) (x : Nat) : Option tw_St := match σ.2.1 a with
  | some q => if q.1 = t then some (tw_sP σ a k (some x)) else none
  | none => none
def tw_bz (x : Int32) : Option Int32 := if x = 0 ∨ x = 1 then some x else none
def tw_bc (x : Int32) : Option Int32 := if ¬ x < 0 ∧ x < 65536 then some x else none
def tw_wI (σ : tw_St) (t a : Nat) (i x : Int32) : Option tw_St := match σ.2.1 a with
  | some q => if q.1 = t ∧ ¬ i < 0 ∧ i.toNatClampNeg < q.2 then some (tw_sI σ a i.toNatClampNeg x) else none
  | none => none
def tw_wP (σ : tw_St) (t tv a : Nat) (i : Int32) (x : Nat) : Option tw_St := match σ.2.1 a, σ.2.1 x with
  | some q, some z => if q.1 = t ∧ z.1 = tv ∧ ¬ i < 0 ∧ i.toNatClampNeg < q.2 then some (tw_sP σ a i.toNatClampNeg (some x)) else none
  | _, _ => none
def tw_len (σ : tw_St) (t a : Nat) : Option Int32 := match σ.2.1 a with
  | some q => if q.1 = t then some (Int32.ofNat q.2) else none
  | none => none
def tw_cpI (f g : Nat → Int32) (sp dp n : Nat) : Nat → Int32 := fun j => if dp ≤ j ∧ j < dp + n then f (sp + (j - dp)) else g j
def tw_cp (σ : tw_St) (b : Nat) (sp : Int32) (a : Nat) (dp n : Int32) : Option tw_St := match σ.2.1 b, σ.2.1 a with
  | some q, some z => if q.1 = 20 ∧ z.1 = 20 ∧ ¬ sp < 0 ∧ ¬ dp < 0 ∧ ¬ n < 0 ∧ sp.toNatClampNeg + n.toNatClampNeg ≤ q.2 ∧ dp.toNatClampNeg + n.toNatClampNeg ≤ z.2 then
      some (σ.1, σ.2.1, σ.2.2.1, fun c => if c = a then tw_cpI (σ.2.2.2 b) (σ.2.2.2 a) sp.toNatClampNeg dp.toNatClampNeg n.toNatClampNeg else σ.2.2.2 c) else none
  | _, _ => none
def tw_new (σ : tw_St) (t n : Nat) : tw_St := (σ.1 + 1, (fun a => if a = σ.1 then some (t, n) else σ.2.1 a), (fun a => if a = σ.1 then fun _ => none else σ.2.2.1 a), (fun a => if a = σ.1 then fun _ => 0 else σ.2.2.2 a))
/-- an outer row of n rows of k numbers each -/
def tw_grid (σ : tw_St) (n k : Nat) : tw_St := (σ.1 + 1 + n, (fun a => if a = σ.1 then some (23, n) else if σ.1 < a ∧ a < σ.1 + 1 + n then some (20, k) else σ.2.1 a), (fun a => if a = σ.1 then fun j => if j < n then some (σ.1 + 1 + j) else none else if σ.1 < a ∧ a < σ.1 + 1 + n then fun _ => none else σ.2.2.1 a), (fun a => if σ.1 ≤ a ∧ a < σ.1 + 1 + n then fun _ => 0 else σ.2.2.2 a))
def tw_lo (i : Int32) : Option Int32 := if ¬ i < 0 ∧ i.toNatClampNeg < 3 then some (tw_low i.toNatClampNeg) else none
def tw_hi (i : Int32) : Option Int32 := if ¬ i < 0 ∧ i.toNatClampNeg < 3 then some (tw_hig i.toNatClampNeg) else none
def tw_it {F : Type} (z : F) (B : F → F) : Nat → F
  | 0 => z
  | n + 1 => B (tw_it z B n)
def tw_F : Nat := 100000
theorem tw_ifp {α : Type} {c : Prop} [Decidable c] {A B r : α} (hc : c) (h : (if c then A else B) = r) : A = r := by rwa [if_pos hc] at h
theorem tw_ifn {α : Type} {c : Prop} [Decidable c] {A B r : α} (hc : ¬ c) (h : (if c then A else B) = r) : B = r := by rwa [if_neg hc] at h
theorem tw_bd {α β : Type} {x : Option α} {f : α → Option β} {b : β} (h : x.bind f = some b) : ∃ a, x = some a ∧ f a = some b := Option.bind_eq_some_iff.mp h
/-- what the words say of the store -/
theorem tw_is_sp {σ : tw_St} {t a : Nat} {u : Unit} (h : tw_is σ t a = some u) : ∃ n, σ.2.1 a = some (t, n) := by
  unfold tw_is at h
  split at h
  · rename_i q hq
    split at h
    · rename_i e; exact ⟨q.2, by rw [hq, ← e]⟩
    · cases h
  · cases h
theorem tw_gI_sp {σ : tw_St} {t a k : Nat} {v : Int32} (h : tw_gI σ t a k = some v) : ∃ n, σ.2.1 a = some (t, n) ∧ σ.2.2.2 a k = v := by
  unfold tw_gI at h
  split at h
  · rename_i q hq
    split at h
    · rename_i e; exact ⟨q.2, by rw [hq, ← e], Option.some.inj h⟩
    · cases h
  · cases h
theorem tw_gP_sp {σ : tw_St} {t a k : Nat} {v : Nat} (h : tw_gP σ t a k = some v) : ∃ n, σ.2.1 a = some (t, n) ∧ σ.2.2.1 a k = some v := by
  unfold tw_gP at h
  split at h
  · rename_i q hq
    split at h
    · rename_i e; exact ⟨q.2, by rw [hq, ← e], h⟩
    · cases h
  · cases h
theorem tw_aI_sp {σ : tw_St} {t a : Nat} {i v : Int32} (h : tw_aI σ t a i = some v) : ∃ n, σ.2.1 a = some (t, n) ∧ vp_in i n ∧ σ.2.2.2 a i.toNatClampNeg = v := by
  unfold tw_aI at h
  split at h
  · rename_i q hq
    split at h
    · rename_i e; exact ⟨q.2, by rw [hq, ← e.1], fun z => z.elim e.2.1 (Nat.not_le.mpr e.2.2), Option.some.inj h⟩
    · cases h
  · cases h
theorem tw_aP_sp {σ : tw_St} {t a : Nat} {i : Int32} {v : Nat} (h : tw_aP σ t a i = some v) : ∃ n, σ.2.1 a = some (t, n) ∧ vp_in i n ∧ σ.2.2.1 a i.toNatClampNeg = some v := by
  unfold tw_aP at h
  split at h
  · rename_i q hq
    split at h
    · rename_i e; exact ⟨q.2, by rw [hq, ← e.1], fun z => z.elim e.2.1 (Nat.not_le.mpr e.2.2), h⟩
    · cases h
  · cases h
theorem tw_pI_sp {σ σ' : tw_St} {t a k : Nat} {x : Int32} (h : tw_pI σ t a k x = some σ') : (∃ n, σ.2.1 a = some (t, n)) ∧ σ' = tw_sI σ a k x := by
  unfold tw_pI at h
  split at h
  · rename_i q hq
    split at h
    · rename_i e; exact ⟨⟨q.2, by rw [hq, ← e]⟩, (Option.some.inj h).symm⟩
    · cases h
  · cases h
theorem tw_pP_sp {σ σ' : tw_St} {t a k x : Nat} (h : tw_pP σ t a k x = some σ') : (∃ n, σ.2.1 a = some (t, n)) ∧ σ' = tw_sP σ a k (some x) := by
  unfold tw_pP at h
  split at h
  · rename_i q hq
    split at h
    · rename_i e; exact ⟨⟨q.2, by rw [hq, ← e]⟩, (Option.some.inj h).symm⟩
    · cases h
  · cases h
theorem tw_wI_sp {σ σ' : tw_St} {t a : Nat} {i x : Int32} (h : tw_wI σ t a i x = some σ') : ∃ n, σ.2.1 a = some (t, n) ∧ vp_in i n ∧ σ' = tw_sI σ a i.toNatClampNeg x := by
  unfold tw_wI at h
  split at h
  · rename_i q hq
    split at h
    · rename_i e; exact ⟨q.2, by rw [hq, ← e.1], fun z => z.elim e.2.1 (Nat.not_le.mpr e.2.2), (Option.some.inj h).symm⟩
    · cases h
  · cases h
theorem tw_wP_sp {σ σ' : tw_St} {t tv a x : Nat} {i : Int32} (h : tw_wP σ t tv a i x = some σ') : ∃ n m, σ.2.1 a = some (t, n) ∧ σ.2.1 x = some (tv, m) ∧ vp_in i n ∧ σ' = tw_sP σ a i.toNatClampNeg (some x) := by
  unfold tw_wP at h
  split at h
  · rename_i q z hq hz
    split at h
    · rename_i e; exact ⟨q.2, z.2, by rw [hq, ← e.1], by rw [hz, ← e.2.1], fun z => z.elim e.2.2.1 (Nat.not_le.mpr e.2.2.2), (Option.some.inj h).symm⟩
    · cases h
  · cases h
theorem tw_len_sp {σ : tw_St} {t a : Nat} {v : Int32} (h : tw_len σ t a = some v) : ∃ n, σ.2.1 a = some (t, n) ∧ Int32.ofNat n = v := by
  unfold tw_len at h
  split at h
  · rename_i q hq
    split at h
    · rename_i e; exact ⟨q.2, by rw [hq, ← e], Option.some.inj h⟩
    · cases h
  · cases h
theorem tw_bz_sp {x v : Int32} (h : tw_bz x = some v) : v = x ∧ narrow .boolean (.int x) = .int x ∧ fits .boolean (.int x) = true := by
  unfold tw_bz at h
  split at h
  · rename_i e
    exact ⟨(Option.some.inj h).symm, by rcases e with rfl | rfl <;> exact ⟨rfl, rfl⟩⟩
  · cases h
theorem tw_bc_sp {x v : Int32} (h : tw_bc x = some v) : v = x ∧ narrow .char (.int x) = .int x ∧ fits .char (.int x) = true := by
  unfold tw_bc at h
  split at h
  · rename_i e
    obtain ⟨j, hj, rfl⟩ := nI_of e.1
    refine ⟨(Option.some.inj h).symm, pk_charN ?_⟩
    have h2 := e.2
    rw [show (65536 : Int32) = nI 65536 from rfl, nI_ltI hj (by decide)] at h2
    exact h2
  · cases h
end
section
theorem tw_cell_o {G : tw_G} {t n a : Nat} {V : Nat → Value} {H : Heap} {r : vw_C} (ht : vwCl[t]? = some r) : tw_cell G t n a V H = t_OB a (G.1.1 t) r.2.2 (G.1.2 t) H V := by unfold tw_cell; rw [ht]
theorem tw_cell_a {G : tw_G} {t n a : Nat} {V : Nat → Value} {H : Heap} (ht : 20 ≤ t) : tw_cell G t n a V H = (H[a]? = some (arrV (G.2.1 t) n V)) := by
  unfold tw_cell
  rw [List.getElem?_eq_none (by show vwCl.length ≤ t; exact Nat.le_trans (by decide) ht)]
theorem tw_cell.kept {G : tw_G} {t n a : Nat} {V : Nat → Value} {H H1 : Heap} (h : tw_cell G t n a V H) (hq : H1[a]? = H[a]?) : tw_cell G t n a V H1 := by
  unfold tw_cell at h ⊢
  split at h
  · exact h.kept hq
  · exact hq.trans h
theorem tw_cell.lt {G : tw_G} {t n a : Nat} {V : Nat → Value} {H : Heap} (h : tw_cell G t n a V H) : a < H.size := by
  unfold tw_cell at h
  split at h
  · obtain ⟨cell, h2, -⟩ := h
    exact (Array.getElem?_eq_some_iff.mp h2).1
  · exact (Array.getElem?_eq_some_iff.mp h).1
theorem tw_R.put {G : tw_G} {σ σ1 : tw_St} {H H1 : Heap} {a t n : Nat} (hR : tw_R G σ H) (ha : σ.2.1 a = some (t, n)) (h1 : σ1.1 = σ.1) (h2 : σ1.2.1 = σ.2.1) (hz : H1.size = H.size) (oq : ∀ q, q ≠ a → H1[q]? = H[q]?)
    (hv : ∀ b, b ≠ a → ∀ t, tw_v t σ1.2.2.1 σ1.2.2.2 b = tw_v t σ.2.2.1 σ.2.2.2 b) (hc : tw_cell G t n a (tw_v t σ1.2.2.1 σ1.2.2.2 a) H1) : tw_R G σ1 H1 := by
  refine ⟨by rw [hz, h1]; exact hR.1, by rw [h1]; exact hR.2.1, fun b t' n' hb => ?_⟩
  rw [h2] at hb
  by_cases e : b = a
  · subst e
    rw [ha] at hb
    cases hb
    exact ⟨(hR.2.2 b t n ha).1, hc⟩
  · refine ⟨(hR.2.2 b t' n' hb).1, ?_⟩
    rw [hv b e]
    exact (hR.2.2 b t' n' hb).2.kept (oq b e)
theorem tw_vI_ne {P : Nat → Nat → Option Nat} {I : Nat → Nat → Int32} {a k : Nat} {x : Int32} (b : Nat) (e : b ≠ a) (t : Nat) : tw_v t P (tw_up I a k x) b = tw_v t P I b := by
  funext j; simp [tw_v, tw_up, e]
theorem tw_vP_ne {P : Nat → Nat → Option Nat} {I : Nat → Nat → Int32} {a k : Nat} {x : Option Nat} (b : Nat) (e : b ≠ a) (t : Nat) : tw_v t (tw_up P a k x) I b = tw_v t P I b := by
  funext j; simp [tw_v, tw_up, e]
theorem tw_vI_eq {P : Nat → Nat → Option Nat} {I : Nat → Nat → Int32} {a k t : Nat} {x : Int32} (h : tw_isR t k = false) : tw_v t P (tw_up I a k x) a = updV (tw_v t P I a) k (.int x) := by
  funext j
  by_cases e : j = k
  · subst e; simp [tw_v, tw_up, updV, h]
  · simp [tw_v, tw_up, updV, e]
theorem tw_vP_eq {P : Nat → Nat → Option Nat} {I : Nat → Nat → Int32} {a k t x : Nat} (h : tw_isR t k = true) : tw_v t (tw_up P a k (some x)) I a = updV (tw_v t P I a) k (.ref x) := by
  funext j
  by_cases e : j = k
  · subst e; simp [tw_v, tw_up, updV, h, va_rf]
  · simp [tw_v, tw_up, updV, e]
theorem tw_lay0 : ∀ r ∈ vwCl, (∀ w ∈ u_ws r.1 r.2.1 r.2.2, w ∈ lw_tbl) ∧ (u_ws r.1 r.2.1 r.2.2).all goodWord = true := by
  intro r hr
  simp only [vwCl, List.mem_cons, List.not_mem_nil, or_false] at hr
  rcases hr with rfl | rfl | rfl | rfl | rfl | rfl | rfl | rfl | rfl <;> exact ⟨by decide +kernel, by decide +kernel⟩
theorem tw_lay {t : Nat} {r : vw_C} (h : vwCl[t]? = some r) : ∀ w ∈ u_ws r.1 r.2.1 r.2.2, w ∈ tw_W := fun w hw =>
  List.mem_filter.mpr ⟨(tw_lay0 r (List.mem_of_getElem? h)).1 w hw, List.all_eq_true.mp (tw_lay0 r (List.mem_of_getElem? h)).2 w hw⟩
theorem tw_nm0 : ∀ r ∈ vwCl, ∀ a, a < r.2.2 → ∀ b, b < r.2.2 → a ≠ b → (r.2.1 a).2.1 ≠ (r.2.1 b).2.1 := by
  intro r hr
  simp only [vwCl, List.mem_cons, List.not_mem_nil, or_false] at hr
  rcases hr with rfl | rfl | rfl | rfl | rfl | rfl | rfl | rfl | rfl
  · exact nmX0
  · exact nmX1
  · exact nmX2
  · exact nmX3
  · exact nmX4
  · exact nmX5
  · exact nmX6
  · exact nmX7
  · exact nmX8
def tw_fty (t : Nat) : Nat → FieldType := match t with
  | 0 => tyX0
  | 1 => tyX1
  | 2 => tyX2
  | 3 => tyX3
  | 4 => tyX4
  | 5 => tyX5
  | 6 => tyX6
  | 7 => tyX7
  | _ => tyX8
theorem tw_fty_ok {t : Nat} {r : vw_C} (h : vwCl[t]? = some r) : ∀ k, k < r.2.2 → parseFieldDescriptor (r.2.1 k).2.2.1 = some (tw_fty t k) := by
  match t, h with
  | 0, h => cases h; exact tyX0_ok
  | 1, h => cases h; exact tyX1_ok
  | 2, h => cases h; exact tyX2_ok
  | 3, h => cases h; exact tyX3_ok
  | 4, h => cases h; exact tyX4_ok
  | 5, h => cases h; exact tyX5_ok
  | 6, h => cases h; exact tyX6_ok
  | 7, h => cases h; exact tyX7_ok
  | 8, h => cases h; exact tyX8_ok
  | t + 9, h => simp at h
theorem tw_fty_df {t : Nat} {r : vw_C} (h : vwCl[t]? = some r) : ∀ k, k < r.2.2 → defaultValue (tw_fty t k) = if tw_isR t k = true then .null else .int 0 := by
  match t, h with
  | 0, h => cases h; decide +kernel
  | 1, h => cases h; decide +kernel
  | 2, h => cases h; decide +kernel
  | 3, h => cases h; decide +kernel
  | 4, h => cases h; decide +kernel
  | 5, h => cases h; decide +kernel
  | 6, h => cases h; decide +kernel
  | 7, h => cases h; decide +kernel
  | 8, h => cases h; decide +kernel
  | t + 9, h => simp at h
def tw_O (p : Program) (s : State) (m : MethodId) (args : Array Value) (meth : Method) (c : Code) (cc : ByteArray) (own : String) (nL : Nat) (ret : Option FieldType) (G : tw_G) : Prop :=
  p.tables.exec = Jvm.exec ∧ c.code = cc ∧ c.maxLocals = nL ∧ s.vm.findClass own = some m.cls ∧ (∀ w ∈ tw_W, w.before args s = true) ∧ meth.locks = false ∧ meth.sig.returnType = ret ∧ tw_K G s s.heap
def tw_X (p : Program) (l : Launch) (e : Env) (R : Room) (s : State) (m : MethodId) (args : Array Value) (below : List Frame) (meth : Method) (c : Code) (nL : Nat) (G : tw_G) (σ : tw_St) (cells slots : Nat) (Q : State → Prop) (pc : Nat) (lv : List (Nat × Value)) (st : List Value) : Prop :=
  ∀ (H : Heap) (locs : List Loc) (ls : Array Slot), tw_R G σ H → va_S (tw_A G) s.heap H locs → lv_has ls nL lv → W p l e R s m args below meth c H locs cells slots Q (F0 m pc ls st)
def tw_Qc (G : tw_G) (rv : Option Value) (σ' : tw_St) : Array Value → State → Outcome → State → Prop := fun _ st o t => (o = .returned rv ∧ tw_R G σ' t.heap) ∧ va_F (tw_A G) st t
def tw_Q (below : List Frame) (args : Array Value) (s : State) (G : tw_G) (mc ms : Nat) (rv : Option Value) (σ' : tw_St) : State → Prop := MQ below (tw_Qc G rv σ') args s mc ms (tw_A G)
def tw_M (l : Launch) (G : tw_G) (y : MethodName) (cc : ByteArray) (maxL : Nat) (ret : Option FieldType) (rm : Room) (mc ms : Nat) (σ : tw_St) (av : List Value) (rv : Option Value) (σ' : tw_St) : Prop :=
  Met l y (Cond.code y cc maxL ret :: tw_W) rm (va_Pc av (fun U => tw_R G σ U.heap ∧ tw_K G U U.heap)) (tw_Qc G rv σ') mc ms (tw_A G)
section TWR
variable {p : Program} {l : Launch} {e : Env} {R : Room} {s : State} {m : MethodId} {args : Array Value} {below : List Frame} {meth : Method} {c : Code} {cells slots : Nat} {Q : State → Prop}
variable {cc : ByteArray} {own : String} {nL : Nat} {ret : Option FieldType} {G : tw_G} {σ σ1 : tw_St} {pc : Nat} {lv lv' : List (Nat × Value)} {st : List Value}
theorem tw_M.of {y : MethodName} {maxL : Nat} {rm : Room} {mc ms : Nat} {av : List Value} {rv : Option Value} (hy : plainName y.cls = true) (hp : (lg_sl av).length ≤ maxL)
    (body : ∀ p e s m args below meth c, meth.name = y.name → tw_O p s m args meth c cc y.cls maxL ret G → tw_X p l e rm s m args below meth c maxL G σ 0 0 (tw_Q below args s G mc ms rv σ1) 0 (lv_args 0 av) []) : tw_M l G y cc maxL ret rm mc ms σ av rv σ1 := by
  refine Met.ofW (cc := cc) (maxL := maxL) (ret := ret) hy rfl ?_
  intro p e s m args below meth c s₁ B hml hv
  obtain ⟨rfl, hR, hK⟩ := hv
  have hts := atoms_spec (ws := Cond.code y cc maxL ret :: tw_W) B.pre
  have hl := lv_entry av (n := maxL) hp
  rw [lg_entry_eq]
  exact body p e s m _ below meth c (name_of_methodNamed B.named B.method).1 ⟨B.exec, B.bytes, hml, findClass_of_methodNamed B.named, fun w hw => hts w (List.mem_cons_of_mem _ hw), B.notSynchronized, B.returns, hK⟩ s.heap [] _ hR va_S.rf hl
theorem tw_M.ofF {y : MethodName} {maxL : Nat} {rm : Room} {mc ms : Nat} {av : List Value} {rv : Option Value} (hy : plainFor y = true) (hp : (lg_sl av).length ≤ maxL)
    (body : ∀ p e s m args below meth c, meth.name = y.name → tw_O p s m args meth c cc y.cls maxL ret G → tw_X p l e rm s m args below meth c maxL G σ 0 0 (tw_Q below args s G mc ms rv σ1) 0 (lv_args 0 av) []) : tw_M l G y cc maxL ret rm mc ms σ av rv σ1 := by
  refine va_MetF (cc := cc) (maxL := maxL) (ret := ret) hy rfl ?_
  intro p e s m args below meth c s₁ B hml hv
  obtain ⟨rfl, hR, hK⟩ := hv
  have hts := atoms_spec (ws := Cond.code y cc maxL ret :: tw_W) B.pre
  have hl := lv_entry av (n := maxL) hp
  rw [lg_entry_eq]
  exact body p e s m _ below meth c (name_of_methodNamed B.named B.method).1 ⟨B.exec, B.bytes, hml, findClass_of_methodNamed B.named, fun w hw => hts w (List.mem_cons_of_mem _ hw), B.notSynchronized, B.returns, hK⟩ s.heap [] _ hR va_S.rf hl
theorem tw_sub (ks : List Nat) (hl : lv_pick lv ks = lv') (k : tw_X p l e R s m args below meth c nL G σ cells slots Q pc lv' st) : tw_X p l e R s m args below meth c nL G σ cells slots Q pc lv st :=
  fun H locs ls hR hS h => k H locs ls hR hS (lv_sub h ks hl)
theorem tw_wide {k n : Nat} (h1 : cells ≤ k) (h2 : slots ≤ n) (kk : tw_X p l e R s m args below meth c nL G σ k n Q pc lv st) : tw_X p l e R s m args below meth c nL G σ cells slots Q pc lv st :=
  fun H locs ls hR hS h => W.widen h1 h2 (kk H locs ls hR hS h)
theorem tw_iconst {n : Int} {v : Int32} (h : tw_O p s m args meth c cc own nL ret G) (hd : decode cc pc = .ok (.iconst n, 1)) (hv : Int32.ofInt n = v) (k : tw_X p l e R s m args below meth c nL G σ cells slots Q (pc + 1) lv (.int v :: st)) : tw_X p l e R s m args below meth c nL G σ cells slots Q pc lv st :=
  fun H locs ls hR hS hl => lv_iconst h.1 h.2.1 hd hv (k H locs ls hR hS hl)
theorem tw_bipush {n : Int} {v : Int32} (h : tw_O p s m args meth c cc own nL ret G) (hd : decode cc pc = .ok (.bipush n, 2)) (hv : (Int8.ofInt n).toInt32 = v) (k : tw_X p l e R s m args below meth c nL G σ cells slots Q (pc + 2) lv (.int v :: st)) : tw_X p l e R s m args below meth c nL G σ cells slots Q pc lv st :=
  fun H locs ls hR hS hl => lv_bipush h.1 h.2.1 hd hv (k H locs ls hR hS hl)
theorem tw_sipush {n : Int} {v : Int32} (h : tw_O p s m args meth c cc own nL ret G) (hd : decode cc pc = .ok (.sipush n, 3)) (hv : (Int16.ofInt n).toInt32 = v) (k : tw_X p l e R s m args below meth c nL G σ cells slots Q (pc + 3) lv (.int v :: st)) : tw_X p l e R s m args below meth c nL G σ cells slots Q pc lv st :=
  fun H locs ls hR hS hl => lv_sipush h.1 h.2.1 hd hv (k H locs ls hR hS hl)
theorem tw_lconst {n : Fin 2} {v : Int64} (h : tw_O p s m args meth c cc own nL ret G) (hd : decode cc pc = .ok (.lconst n, 1)) (hv : Int64.ofNat (n : Nat) = v) (k : tw_X p l e R s m args below meth c nL G σ cells slots Q (pc + 1) lv (.long v :: st)) : tw_X p l e R s m args below meth c nL G σ cells slots Q pc lv st :=
  fun H locs ls hR hS hl => lv_lconst h.1 h.2.1 hd hv (k H locs ls hR hS hl)
theorem tw_ldc2 {index : Nat} {v : Int64} (h : tw_O p s m args meth c cc own nL ret G) (hc : Jvm.Cond.constantLong own index v ∈ tw_W) (hd : decode cc pc = .ok (.ldc2_w index, 3)) (k : tw_X p l e R s m args below meth c nL G σ cells slots Q (pc + 3) lv (.long v :: st)) : tw_X p l e R s m args below meth c nL G σ cells slots Q pc lv st :=
  fun H locs ls hR hS hl => lv_ldc2 h.1 h.2.1 h.2.2.2.1 (h.2.2.2.2.1 _ hc) hd (k H locs ls hR hS hl)
theorem tw_iload_n {k : Fin 4} {i : Nat} {x : Int32} (q : Nat) (h : tw_O p s m args meth c cc own nL ret G) (hd : decode cc pc = .ok (.iload_n k, 1)) (hi : (k : Nat) = i) (hq : lv[q]? = some (i, .int x)) (kk : tw_X p l e R s m args below meth c nL G σ cells slots Q (pc + 1) lv (.int x :: st)) : tw_X p l e R s m args below meth c nL G σ cells slots Q pc lv st :=
  fun H locs ls hR hS hl => lv_iload_n h.1 h.2.1 hd hi (lv_at hl q hq) (kk H locs ls hR hS hl)
theorem tw_iload {i : Nat} {x : Int32} (q : Nat) (h : tw_O p s m args meth c cc own nL ret G) (hd : decode cc pc = .ok (.iload i, 2)) (hq : lv[q]? = some (i, .int x)) (kk : tw_X p l e R s m args below meth c nL G σ cells slots Q (pc + 2) lv (.int x :: st)) : tw_X p l e R s m args below meth c nL G σ cells slots Q pc lv st :=
  fun H locs ls hR hS hl => lv_iload h.1 h.2.1 hd (lv_at hl q hq) (kk H locs ls hR hS hl)
theorem tw_lload_n {k : Fin 4} {i : Nat} {x : Int64} (q : Nat) (h : tw_O p s m args meth c cc own nL ret G) (hd : decode cc pc = .ok (.lload_n k, 1)) (hi : (k : Nat) = i) (hq : lv[q]? = some (i, .long x)) (kk : tw_X p l e R s m args below meth c nL G σ cells slots Q (pc + 1) lv (.long x :: st)) : tw_X p l e R s m args below meth c nL G σ cells slots Q pc lv st :=
  fun H locs ls hR hS hl => lv_lload_n h.1 h.2.1 hd hi (lv_at hl q hq) (kk H locs ls hR hS hl)
theorem tw_lload {i : Nat} {x : Int64} (q : Nat) (h : tw_O p s m args meth c cc own nL ret G) (hd : decode cc pc = .ok (.lload i, 2)) (hq : lv[q]? = some (i, .long x)) (kk : tw_X p l e R s m args below meth c nL G σ cells slots Q (pc + 2) lv (.long x :: st)) : tw_X p l e R s m args below meth c nL G σ cells slots Q pc lv st :=
  fun H locs ls hR hS hl => lv_lload h.1 h.2.1 hd (lv_at hl q hq) (kk H locs ls hR hS hl)
theorem tw_aload_n {k : Fin 4} {i : Nat} {x : Nat} (q : Nat) (h : tw_O p s m args meth c cc own nL ret G) (hd : decode cc pc = .ok (.aload_n k, 1)) (hi : (k : Nat) = i) (hq : lv[q]? = some (i, .ref x)) (kk : tw_X p l e R s m args below meth c nL G σ cells slots Q (pc + 1) lv (.ref x :: st)) : tw_X p l e R s m args below meth c nL G σ cells slots Q pc lv st :=
  fun H locs ls hR hS hl => lv_aload_n h.1 h.2.1 hd hi (lv_at hl q hq) (kk H locs ls hR hS hl)
theorem tw_aload {i : Nat} {x : Nat} (q : Nat) (h : tw_O p s m args meth c cc own nL ret G) (hd : decode cc pc = .ok (.aload i, 2)) (hq : lv[q]? = some (i, .ref x)) (kk : tw_X p l e R s m args below meth c nL G σ cells slots Q (pc + 2) lv (.ref x :: st)) : tw_X p l e R s m args below meth c nL G σ cells slots Q pc lv st :=
  fun H locs ls hR hS hl => lv_aload h.1 h.2.1 hd (lv_at hl q hq) (kk H locs ls hR hS hl)
theorem tw_istore_n {k : Fin 4} {i : Nat} {x : Int32} (h : tw_O p s m args meth c cc own nL ret G) (hd : decode cc pc = .ok (.istore_n k, 1)) (hi : (k : Nat) = i) (hn : i < nL) (hl' : (i, Value.int x) :: lv.filter (fun q => !(q.1 == i) && !(q.1 + 1 == i && q.2.category == 2)) = lv') (kk : tw_X p l e R s m args below meth c nL G σ cells slots Q (pc + 1) lv' st) : tw_X p l e R s m args below meth c nL G σ cells slots Q pc lv (.int x :: st) :=
  fun H locs ls hR hS hl => lv_istore_n h.1 h.2.1 hd hi hl hn hl' (fun ls' h' => kk H locs ls' hR hS h')
theorem tw_istore {i : Nat} {x : Int32} (h : tw_O p s m args meth c cc own nL ret G) (hd : decode cc pc = .ok (.istore i, 2)) (hn : i < nL) (hl' : (i, Value.int x) :: lv.filter (fun q => !(q.1 == i) && !(q.1 + 1 == i && q.2.category == 2)) = lv') (kk : tw_X p l e R s m args below meth c nL G σ cells slots Q (pc + 2) lv' st) : tw_X p l e R s m args below meth c nL G σ cells slots Q pc lv (.int x :: st) :=
  fun H locs ls hR hS hl => lv_istore h.1 h.2.1 hd hl hn hl' (fun ls' h' => kk H locs ls' hR hS h')
theorem tw_lstore_n {k : Fin 4} {i : Nat} {x : Int64} (h : tw_O p s m args meth c cc own nL ret G) (hd : decode cc pc = .ok (.lstore_n k, 1)) (hi : (k : Nat) = i) (hn : i + 1 < nL) (hl' : (i, Value.long x) :: lv.filter (fun q => !(q.1 == i) && (!(q.1 == i + 1) && !(q.1 + 1 == i && q.2.category == 2))) = lv') (kk : tw_X p l e R s m args below meth c nL G σ cells slots Q (pc + 1) lv' st) : tw_X p l e R s m args below meth c nL G σ cells slots Q pc lv (.long x :: st) :=
  fun H locs ls hR hS hl => lv_lstore_n h.1 h.2.1 hd hi hl hn hl' (fun ls' h' => kk H locs ls' hR hS h')
theorem tw_lstore {i : Nat} {x : Int64} (h : tw_O p s m args meth c cc own nL ret G) (hd : decode cc pc = .ok (.lstore i, 2)) (hn : i + 1 < nL) (hl' : (i, Value.long x) :: lv.filter (fun q => !(q.1 == i) && (!(q.1 == i + 1) && !(q.1 + 1 == i && q.2.category == 2))) = lv') (kk : tw_X p l e R s m args below meth c nL G σ cells slots Q (pc + 2) lv' st) : tw_X p l e R s m args below meth c nL G σ cells slots Q pc lv (.long x :: st) :=
  fun H locs ls hR hS hl => lv_lstore h.1 h.2.1 hd hl hn hl' (fun ls' h' => kk H locs ls' hR hS h')
theorem tw_astore_n {k : Fin 4} {i : Nat} {x : Nat} (h : tw_O p s m args meth c cc own nL ret G) (hd : decode cc pc = .ok (.astore_n k, 1)) (hi : (k : Nat) = i) (hn : i < nL) (hl' : (i, Value.ref x) :: lv.filter (fun q => !(q.1 == i) && !(q.1 + 1 == i && q.2.category == 2)) = lv') (kk : tw_X p l e R s m args below meth c nL G σ cells slots Q (pc + 1) lv' st) : tw_X p l e R s m args below meth c nL G σ cells slots Q pc lv (.ref x :: st) :=
  fun H locs ls hR hS hl => lv_astore_n h.1 h.2.1 hd hi hl hn hl' (fun ls' h' => kk H locs ls' hR hS h')
theorem tw_astore {i : Nat} {x : Nat} (h : tw_O p s m args meth c cc own nL ret G) (hd : decode cc pc = .ok (.astore i, 2)) (hn : i < nL) (hl' : (i, Value.ref x) :: lv.filter (fun q => !(q.1 == i) && !(q.1 + 1 == i && q.2.category == 2)) = lv') (kk : tw_X p l e R s m args below meth c nL G σ cells slots Q (pc + 2) lv' st) : tw_X p l e R s m args below meth c nL G σ cells slots Q pc lv (.ref x :: st) :=
  fun H locs ls hR hS hl => lv_astore h.1 h.2.1 hd hl hn hl' (fun ls' h' => kk H locs ls' hR hS h')
theorem tw_iinc {i q : Nat} {n : Int} {x v : Int32} (h : tw_O p s m args meth c cc own nL ret G) (hd : decode cc pc = .ok (.iinc i n, 3)) (hq : lv[q]? = some (i, .int x)) (hv : x + Int32.ofInt n = v) (hn : i < nL) (hl' : (i, Value.int v) :: lv.filter (fun q => !(q.1 == i) && !(q.1 + 1 == i && q.2.category == 2)) = lv') (kk : tw_X p l e R s m args below meth c nL G σ cells slots Q (pc + 3) lv' st) : tw_X p l e R s m args below meth c nL G σ cells slots Q pc lv st :=
  fun H locs ls hR hS hl => lv_iinc h.1 h.2.1 hd hl hq hv hn hl' (fun ls' h' => kk H locs ls' hR hS h')
theorem tw_iadd {x y : Int32} (h : tw_O p s m args meth c cc own nL ret G) (hd : decode cc pc = .ok (.iadd, 1)) (k : tw_X p l e R s m args below meth c nL G σ cells slots Q (pc + 1) lv (.int (x + y) :: st)) : tw_X p l e R s m args below meth c nL G σ cells slots Q pc lv (.int y :: .int x :: st) :=
  fun H locs ls hR hS hl => lv_iadd h.1 h.2.1 hd (k H locs ls hR hS hl)
theorem tw_isub {x y : Int32} (h : tw_O p s m args meth c cc own nL ret G) (hd : decode cc pc = .ok (.isub, 1)) (k : tw_X p l e R s m args below meth c nL G σ cells slots Q (pc + 1) lv (.int (x - y) :: st)) : tw_X p l e R s m args below meth c nL G σ cells slots Q pc lv (.int y :: .int x :: st) :=
  fun H locs ls hR hS hl => lv_isub h.1 h.2.1 hd (k H locs ls hR hS hl)
theorem tw_imul {x y : Int32} (h : tw_O p s m args meth c cc own nL ret G) (hd : decode cc pc = .ok (.imul, 1)) (k : tw_X p l e R s m args below meth c nL G σ cells slots Q (pc + 1) lv (.int (x * y) :: st)) : tw_X p l e R s m args below meth c nL G σ cells slots Q pc lv (.int y :: .int x :: st) :=
  fun H locs ls hR hS hl => lv_imul h.1 h.2.1 hd (k H locs ls hR hS hl)
theorem tw_iand {x y : Int32} (h : tw_O p s m args meth c cc own nL ret G) (hd : decode cc pc = .ok (.iand, 1)) (k : tw_X p l e R s m args below meth c nL G σ cells slots Q (pc + 1) lv (.int (x &&& y) :: st)) : tw_X p l e R s m args below meth c nL G σ cells slots Q pc lv (.int y :: .int x :: st) :=
  fun H locs ls hR hS hl => lv_iand h.1 h.2.1 hd (k H locs ls hR hS hl)
theorem tw_ixor {x y : Int32} (h : tw_O p s m args meth c cc own nL ret G) (hd : decode cc pc = .ok (.ixor, 1)) (k : tw_X p l e R s m args below meth c nL G σ cells slots Q (pc + 1) lv (.int (x ^^^ y) :: st)) : tw_X p l e R s m args below meth c nL G σ cells slots Q pc lv (.int y :: .int x :: st) :=
  fun H locs ls hR hS hl => lv_ixor h.1 h.2.1 hd (k H locs ls hR hS hl)
theorem tw_land {x y : Int64} (h : tw_O p s m args meth c cc own nL ret G) (hd : decode cc pc = .ok (.land, 1)) (k : tw_X p l e R s m args below meth c nL G σ cells slots Q (pc + 1) lv (.long (x &&& y) :: st)) : tw_X p l e R s m args below meth c nL G σ cells slots Q pc lv (.long y :: .long x :: st) :=
  fun H locs ls hR hS hl => lv_land h.1 h.2.1 hd (k H locs ls hR hS hl)
theorem tw_lor {x y : Int64} (h : tw_O p s m args meth c cc own nL ret G) (hd : decode cc pc = .ok (.lor, 1)) (k : tw_X p l e R s m args below meth c nL G σ cells slots Q (pc + 1) lv (.long (x ||| y) :: st)) : tw_X p l e R s m args below meth c nL G σ cells slots Q pc lv (.long y :: .long x :: st) :=
  fun H locs ls hR hS hl => lv_lor h.1 h.2.1 hd (k H locs ls hR hS hl)
theorem tw_irem {x y : Int32} (h : tw_O p s m args meth c cc own nL ret G) (hd : decode cc pc = .ok (.irem, 1)) (hne : ¬ y = 0) (k : tw_X p l e R s m args below meth c nL G σ cells slots Q (pc + 1) lv (.int (x - x / y * y) :: st)) : tw_X p l e R s m args below meth c nL G σ cells slots Q pc lv (.int y :: .int x :: st) :=
  fun H locs ls hR hS hl => lv_irem h.1 h.2.1 hd hne (k H locs ls hR hS hl)
theorem tw_i2l {x : Int32} (h : tw_O p s m args meth c cc own nL ret G) (hd : decode cc pc = .ok (.i2l, 1)) (k : tw_X p l e R s m args below meth c nL G σ cells slots Q (pc + 1) lv (.long (x.toInt64) :: st)) : tw_X p l e R s m args below meth c nL G σ cells slots Q pc lv (.int x :: st) :=
  fun H locs ls hR hS hl => lv_i2l h.1 h.2.1 hd rfl (k H locs ls hR hS hl)
theorem tw_l2i {x : Int64} (h : tw_O p s m args meth c cc own nL ret G) (hd : decode cc pc = .ok (.l2i, 1)) (k : tw_X p l e R s m args below meth c nL G σ cells slots Q (pc + 1) lv (.int (x.toInt32) :: st)) : tw_X p l e R s m args below meth c nL G σ cells slots Q pc lv (.long x :: st) :=
  fun H locs ls hR hS hl => lv_l2i h.1 h.2.1 hd rfl (k H locs ls hR hS hl)
theorem tw_i2c {x : Int32} (h : tw_O p s m args meth c cc own nL ret G) (hd : decode cc pc = .ok (.i2c, 1)) (k : tw_X p l e R s m args below meth c nL G σ cells slots Q (pc + 1) lv (.int ((x.toUInt32 % 65536).toInt32) :: st)) : tw_X p l e R s m args below meth c nL G σ cells slots Q pc lv (.int x :: st) :=
  fun H locs ls hR hS hl => lv_i2c h.1 h.2.1 hd rfl (k H locs ls hR hS hl)
theorem tw_lushr {x : Int64} {y : Int32} (h : tw_O p s m args meth c cc own nL ret G) (hd : decode cc pc = .ok (.lushr, 1)) (k : tw_X p l e R s m args below meth c nL G σ cells slots Q (pc + 1) lv (.long ((x.toUInt64 >>> (y.toInt64.toUInt64 &&& Int64.toUInt64 63)).toInt64) :: st)) : tw_X p l e R s m args below meth c nL G σ cells slots Q pc lv (.int y :: .long x :: st) :=
  fun H locs ls hR hS hl => lv_lushr h.1 h.2.1 hd rfl (k H locs ls hR hS hl)
theorem tw_lshl {x : Int64} {y : Int32} (h : tw_O p s m args meth c cc own nL ret G) (hd : decode cc pc = .ok (.lshl, 1)) (k : tw_X p l e R s m args below meth c nL G σ cells slots Q (pc + 1) lv (.long (x <<< (y.toInt64 &&& 63)) :: st)) : tw_X p l e R s m args below meth c nL G σ cells slots Q pc lv (.int y :: .long x :: st) :=
  fun H locs ls hR hS hl => lv_lshl h.1 h.2.1 hd rfl (k H locs ls hR hS hl)
theorem tw_lcmp {x y : Int64} (h : tw_O p s m args meth c cc own nL ret G) (hd : decode cc pc = .ok (.lcmp, 1)) (k : tw_X p l e R s m args below meth c nL G σ cells slots Q (pc + 1) lv (.int (lg_cmp x y) :: st)) : tw_X p l e R s m args below meth c nL G σ cells slots Q pc lv (.long y :: .long x :: st) :=
  fun H locs ls hR hS hl => W.lcmp h.1 h.2.1 hd (k H locs ls hR hS hl)
theorem tw_dup {v : Value} (h : tw_O p s m args meth c cc own nL ret G) (hd : decode cc pc = .ok (.dup, 1)) (hv : v.category = 1) (k : tw_X p l e R s m args below meth c nL G σ cells slots Q (pc + 1) lv (v :: v :: st)) : tw_X p l e R s m args below meth c nL G σ cells slots Q pc lv (v :: st) :=
  fun H locs ls hR hS hl => lv_dup h.1 h.2.1 hd hv (k H locs ls hR hS hl)
theorem tw_dup2 {v w : Value} (h : tw_O p s m args meth c cc own nL ret G) (hd : decode cc pc = .ok (.dup2, 1)) (hv : v.category = 1) (hw : w.category = 1) (k : tw_X p l e R s m args below meth c nL G σ cells slots Q (pc + 1) lv (v :: w :: v :: w :: st)) : tw_X p l e R s m args below meth c nL G σ cells slots Q pc lv (v :: w :: st) :=
  fun H locs ls hR hS hl => lv_dup2_11 h.1 h.2.1 hd hv hw (k H locs ls hR hS hl)
theorem tw_pop {v : Value} (h : tw_O p s m args meth c cc own nL ret G) (hd : decode cc pc = .ok (.pop, 1)) (hv : v.category = 1) (k : tw_X p l e R s m args below meth c nL G σ cells slots Q (pc + 1) lv st) : tw_X p l e R s m args below meth c nL G σ cells slots Q pc lv (v :: st) :=
  fun H locs ls hR hS hl => lv_pop h.1 h.2.1 hd hv (k H locs ls hR hS hl)
theorem tw_goto {off : Int} {tgt : Nat} (h : tw_O p s m args meth c cc own nL ret G) (hd : decode cc pc = .ok (.goto off, 3)) (ht : (pc : Int) + off = (tgt : Int)) (k : tw_X p l e R s m args below meth c nL G σ cells slots Q tgt lv st) : tw_X p l e R s m args below meth c nL G σ cells slots Q pc lv st :=
  fun H locs ls hR hS hl => lv_goto h.1 h.2.1 hd ht (k H locs ls hR hS hl)
theorem tw_if_eq {x : Int32} {off : Int} {tgt : Nat} (h : tw_O p s m args meth c cc own nL ret G) (hd : decode cc pc = .ok (.ifCond .eq off, 3)) (ht : (pc : Int) + off = (tgt : Int)) (kt : x = 0 → tw_X p l e R s m args below meth c nL G σ cells slots Q tgt lv st) (kf : ¬ x = 0 → tw_X p l e R s m args below meth c nL G σ cells slots Q (pc + 3) lv st) : tw_X p l e R s m args below meth c nL G σ cells slots Q pc lv (.int x :: st) :=
  fun H locs ls hR hS hl => lv_if_eq h.1 h.2.1 hd ht (fun z => kt z H locs ls hR hS hl) (fun z => kf z H locs ls hR hS hl)
theorem tw_if_ne {x : Int32} {off : Int} {tgt : Nat} (h : tw_O p s m args meth c cc own nL ret G) (hd : decode cc pc = .ok (.ifCond .ne off, 3)) (ht : (pc : Int) + off = (tgt : Int)) (kt : ¬ x = 0 → tw_X p l e R s m args below meth c nL G σ cells slots Q tgt lv st) (kf : x = 0 → tw_X p l e R s m args below meth c nL G σ cells slots Q (pc + 3) lv st) : tw_X p l e R s m args below meth c nL G σ cells slots Q pc lv (.int x :: st) :=
  fun H locs ls hR hS hl => lv_if_ne h.1 h.2.1 hd ht (fun z => kt z H locs ls hR hS hl) (fun z => kf z H locs ls hR hS hl)
theorem tw_if_lt {x : Int32} {off : Int} {tgt : Nat} (h : tw_O p s m args meth c cc own nL ret G) (hd : decode cc pc = .ok (.ifCond .lt off, 3)) (ht : (pc : Int) + off = (tgt : Int)) (kt : x < 0 → tw_X p l e R s m args below meth c nL G σ cells slots Q tgt lv st) (kf : ¬ x < 0 → tw_X p l e R s m args below meth c nL G σ cells slots Q (pc + 3) lv st) : tw_X p l e R s m args below meth c nL G σ cells slots Q pc lv (.int x :: st) :=
  fun H locs ls hR hS hl => lv_if_lt h.1 h.2.1 hd ht (fun z => kt z H locs ls hR hS hl) (fun z => kf z H locs ls hR hS hl)
theorem tw_if_ge {x : Int32} {off : Int} {tgt : Nat} (h : tw_O p s m args meth c cc own nL ret G) (hd : decode cc pc = .ok (.ifCond .ge off, 3)) (ht : (pc : Int) + off = (tgt : Int)) (kt : 0 ≤ x → tw_X p l e R s m args below meth c nL G σ cells slots Q tgt lv st) (kf : ¬ 0 ≤ x → tw_X p l e R s m args below meth c nL G σ cells slots Q (pc + 3) lv st) : tw_X p l e R s m args below meth c nL G σ cells slots Q pc lv (.int x :: st) :=
  fun H locs ls hR hS hl => lv_if_ge h.1 h.2.1 hd ht (fun z => kt z H locs ls hR hS hl) (fun z => kf z H locs ls hR hS hl)
theorem tw_if_gt {x : Int32} {off : Int} {tgt : Nat} (h : tw_O p s m args meth c cc own nL ret G) (hd : decode cc pc = .ok (.ifCond .gt off, 3)) (ht : (pc : Int) + off = (tgt : Int)) (kt : 0 < x → tw_X p l e R s m args below meth c nL G σ cells slots Q tgt lv st) (kf : ¬ 0 < x → tw_X p l e R s m args below meth c nL G σ cells slots Q (pc + 3) lv st) : tw_X p l e R s m args below meth c nL G σ cells slots Q pc lv (.int x :: st) :=
  fun H locs ls hR hS hl => lv_if_gt h.1 h.2.1 hd ht (fun z => kt z H locs ls hR hS hl) (fun z => kf z H locs ls hR hS hl)
theorem tw_if_le {x : Int32} {off : Int} {tgt : Nat} (h : tw_O p s m args meth c cc own nL ret G) (hd : decode cc pc = .ok (.ifCond .le off, 3)) (ht : (pc : Int) + off = (tgt : Int)) (kt : x ≤ 0 → tw_X p l e R s m args below meth c nL G σ cells slots Q tgt lv st) (kf : ¬ x ≤ 0 → tw_X p l e R s m args below meth c nL G σ cells slots Q (pc + 3) lv st) : tw_X p l e R s m args below meth c nL G σ cells slots Q pc lv (.int x :: st) :=
  fun H locs ls hR hS hl => lv_if_le h.1 h.2.1 hd ht (fun z => kt z H locs ls hR hS hl) (fun z => kf z H locs ls hR hS hl)
theorem tw_icmp_eq {x y : Int32} {off : Int} {tgt : Nat} (h : tw_O p s m args meth c cc own nL ret G) (hd : decode cc pc = .ok (.if_icmp .eq off, 3)) (ht : (pc : Int) + off = (tgt : Int)) (kt : x = y → tw_X p l e R s m args below meth c nL G σ cells slots Q tgt lv st) (kf : ¬ x = y → tw_X p l e R s m args below meth c nL G σ cells slots Q (pc + 3) lv st) : tw_X p l e R s m args below meth c nL G σ cells slots Q pc lv (.int y :: .int x :: st) :=
  fun H locs ls hR hS hl => lv_icmp_eq h.1 h.2.1 hd ht (fun z => kt z H locs ls hR hS hl) (fun z => kf z H locs ls hR hS hl)
theorem tw_icmp_ne {x y : Int32} {off : Int} {tgt : Nat} (h : tw_O p s m args meth c cc own nL ret G) (hd : decode cc pc = .ok (.if_icmp .ne off, 3)) (ht : (pc : Int) + off = (tgt : Int)) (kt : ¬ x = y → tw_X p l e R s m args below meth c nL G σ cells slots Q tgt lv st) (kf : x = y → tw_X p l e R s m args below meth c nL G σ cells slots Q (pc + 3) lv st) : tw_X p l e R s m args below meth c nL G σ cells slots Q pc lv (.int y :: .int x :: st) :=
  fun H locs ls hR hS hl => lv_icmp_ne h.1 h.2.1 hd ht (fun z => kt z H locs ls hR hS hl) (fun z => kf z H locs ls hR hS hl)
theorem tw_icmp_lt {x y : Int32} {off : Int} {tgt : Nat} (h : tw_O p s m args meth c cc own nL ret G) (hd : decode cc pc = .ok (.if_icmp .lt off, 3)) (ht : (pc : Int) + off = (tgt : Int)) (kt : x < y → tw_X p l e R s m args below meth c nL G σ cells slots Q tgt lv st) (kf : ¬ x < y → tw_X p l e R s m args below meth c nL G σ cells slots Q (pc + 3) lv st) : tw_X p l e R s m args below meth c nL G σ cells slots Q pc lv (.int y :: .int x :: st) :=
  fun H locs ls hR hS hl => lv_icmp_lt h.1 h.2.1 hd ht (fun z => kt z H locs ls hR hS hl) (fun z => kf z H locs ls hR hS hl)
theorem tw_icmp_ge {x y : Int32} {off : Int} {tgt : Nat} (h : tw_O p s m args meth c cc own nL ret G) (hd : decode cc pc = .ok (.if_icmp .ge off, 3)) (ht : (pc : Int) + off = (tgt : Int)) (kt : y ≤ x → tw_X p l e R s m args below meth c nL G σ cells slots Q tgt lv st) (kf : ¬ y ≤ x → tw_X p l e R s m args below meth c nL G σ cells slots Q (pc + 3) lv st) : tw_X p l e R s m args below meth c nL G σ cells slots Q pc lv (.int y :: .int x :: st) :=
  fun H locs ls hR hS hl => lv_icmp_ge h.1 h.2.1 hd ht (fun z => kt z H locs ls hR hS hl) (fun z => kf z H locs ls hR hS hl)
theorem tw_icmp_gt {x y : Int32} {off : Int} {tgt : Nat} (h : tw_O p s m args meth c cc own nL ret G) (hd : decode cc pc = .ok (.if_icmp .gt off, 3)) (ht : (pc : Int) + off = (tgt : Int)) (kt : y < x → tw_X p l e R s m args below meth c nL G σ cells slots Q tgt lv st) (kf : ¬ y < x → tw_X p l e R s m args below meth c nL G σ cells slots Q (pc + 3) lv st) : tw_X p l e R s m args below meth c nL G σ cells slots Q pc lv (.int y :: .int x :: st) :=
  fun H locs ls hR hS hl => lv_icmp_gt h.1 h.2.1 hd ht (fun z => kt z H locs ls hR hS hl) (fun z => kf z H locs ls hR hS hl)
theorem tw_icmp_le {x y : Int32} {off : Int} {tgt : Nat} (h : tw_O p s m args meth c cc own nL ret G) (hd : decode cc pc = .ok (.if_icmp .le off, 3)) (ht : (pc : Int) + off = (tgt : Int)) (kt : x ≤ y → tw_X p l e R s m args below meth c nL G σ cells slots Q tgt lv st) (kf : ¬ x ≤ y → tw_X p l e R s m args below meth c nL G σ cells slots Q (pc + 3) lv st) : tw_X p l e R s m args below meth c nL G σ cells slots Q pc lv (.int y :: .int x :: st) :=
  fun H locs ls hR hS hl => lv_icmp_le h.1 h.2.1 hd ht (fun z => kt z H locs ls hR hS hl) (fun z => kf z H locs ls hR hS hl)
theorem tw_tableOut {dflt lo hi : Int} {offs : Array Int} {len : Nat} {x : Int32} {tgt : Nat} (h : tw_O p s m args meth c cc own nL ret G) (hd : decode cc pc = .ok (.tableswitch dflt lo hi offs, len)) (hx : x.toInt < lo ∨ hi < x.toInt) (ht : (pc : Int) + dflt = (tgt : Int)) (k : tw_X p l e R s m args below meth c nL G σ cells slots Q tgt lv st) : tw_X p l e R s m args below meth c nL G σ cells slots Q pc lv (.int x :: st) :=
  fun H locs ls hR hS hl => lv_tableOut h.1 h.2.1 hd hx ht (k H locs ls hR hS hl)
theorem tw_tableIn {dflt lo hi : Int} {offs : Array Int} {len : Nat} {x : Int32} {off : Int} {tgt : Nat} (h : tw_O p s m args meth c cc own nL ret G) (hd : decode cc pc = .ok (.tableswitch dflt lo hi offs, len)) (h1 : ¬ x.toInt < lo) (h2 : ¬ hi < x.toInt) (ho : offs[(x.toInt - lo).toNat]? = some off) (ht : (pc : Int) + off = (tgt : Int)) (k : tw_X p l e R s m args below meth c nL G σ cells slots Q tgt lv st) : tw_X p l e R s m args below meth c nL G σ cells slots Q pc lv (.int x :: st) :=
  fun H locs ls hR hS hl => lv_tableIn h.1 h.2.1 hd h1 h2 ho ht (k H locs ls hR hS hl)
end TWR
end
section
section TWM
variable {p : Program} {l : Launch} {e : Env} {R : Room} {s : State} {m : MethodId} {args : Array Value} {below : List Frame} {meth : Method} {c : Code} {cells slots : Nat} {Q : State → Prop}
variable {cc : ByteArray} {own : String} {nL : Nat} {ret : Option FieldType} {G : tw_G} {σ σ1 : tw_St} {pc : Nat} {lv lv' : List (Nat × Value)} {st : List Value}
theorem tw_getf {t a idx n : Nat} {r : vw_C} {v : Value} (h : tw_O p s m args meth c cc own nL ret G) (hd : decode cc pc = .ok (.getfield idx, 3)) (ht : vwCl[t]? = some r) (k : Nat) (hk : k < r.2.2) (ho : (r.2.1 k).1 = r.1) (hl : Cond.fieldLink own idx r.1 (r.2.1 k).2.1 (r.2.1 k).2.2.1 ∈ tw_W) (ha : σ.2.1 a = some (t, n)) (hv : tw_v t σ.2.2.1 σ.2.2.2 a k = v)
    (kk : tw_X p l e R s m args below meth c nL G σ cells slots Q (pc + 3) lv (v :: st)) : tw_X p l e R s m args below meth c nL G σ cells slots Q pc lv (.ref a :: st) := by
  intro H locs ls hR hS hl'
  obtain ⟨hx, hb, -, hown, hts, -, -, hK⟩ := h
  have hc := (hR.2.2 a t n ha).2
  rw [tw_cell_o ht] at hc
  obtain ⟨cell, q1, q2, q3, q4⟩ := hc
  obtain ⟨hSl, hfc, kC, hkC, hkind⟩ := hK.1 t r ht
  obtain ⟨cf, kf, fi, f, hi, hsl⟩ := hSl k hk
  rw [ho] at hi
  refine W.getf hx hb hown (hts _ hl) hi (u_facts hfc hkC (by have := u_lays hts (tw_lay ht) hk; rwa [ho] at this) hi).1 q1 (by rw [q3]; exact fun h => by cases h) (v := v) ?_ rfl rfl hd (kk H locs ls hR hS hl')
  rw [hsl, q4 k hk, hv]
theorem tw_getI {t a idx : Nat} {r : vw_C} {v : Int32} (h : tw_O p s m args meth c cc own nL ret G) (hd : decode cc pc = .ok (.getfield idx, 3)) (ht : vwCl[t]? = some r) (k : Nat) (hk : k < r.2.2) (ho : (r.2.1 k).1 = r.1) (hl : Cond.fieldLink own idx r.1 (r.2.1 k).2.1 (r.2.1 k).2.2.1 ∈ tw_W) (hi : tw_isR t k = false) (ea : tw_gI σ t a k = some v)
    (kk : tw_X p l e R s m args below meth c nL G σ cells slots Q (pc + 3) lv (.int v :: st)) : tw_X p l e R s m args below meth c nL G σ cells slots Q pc lv (.ref a :: st) := by
  obtain ⟨n, h1, h2⟩ := tw_gI_sp ea
  exact tw_getf h hd ht k hk ho hl h1 (by simp [tw_v, hi, h2]) kk
theorem tw_getP {t a idx v : Nat} {r : vw_C} (h : tw_O p s m args meth c cc own nL ret G) (hd : decode cc pc = .ok (.getfield idx, 3)) (ht : vwCl[t]? = some r) (k : Nat) (hk : k < r.2.2) (ho : (r.2.1 k).1 = r.1) (hl : Cond.fieldLink own idx r.1 (r.2.1 k).2.1 (r.2.1 k).2.2.1 ∈ tw_W) (hi : tw_isR t k = true) (ea : tw_gP σ t a k = some v)
    (kk : tw_X p l e R s m args below meth c nL G σ cells slots Q (pc + 3) lv (.ref v :: st)) : tw_X p l e R s m args below meth c nL G σ cells slots Q pc lv (.ref a :: st) := by
  obtain ⟨n, h1, h2⟩ := tw_gP_sp ea
  exact tw_getf h hd ht k hk ho hl h1 (by simp [tw_v, hi, h2, va_rf]) kk
theorem tw_S.put {H0 H H1 : Heap} {locs : List Loc} {a k : Nat} (h : va_S (tw_A G) H0 H locs) (z : H1.size = H.size) (oq : ∀ q : Nat, q ≠ a → H1[q]? = H[q]?) (ha : G.2.2.2.2 ≤ a) : va_S (tw_A G) H0 H1 (locs ++ [⟨a, k⟩]) := h.put z oq ha
theorem tw_apart {t : Nat} {r : vw_C} (h : tw_O p s m args meth c cc own nL ret G) (ht : vwCl[t]? = some r) : ∀ x y, x < r.2.2 → y < r.2.2 → x ≠ y → (G.1.2 t) x ≠ (G.1.2 t) y := by
  obtain ⟨hx, hb, -, hown, hts, -, -, hK⟩ := h
  intro x y hx hy hne
  obtain ⟨hS, -⟩ := hK.1 t r ht
  obtain ⟨_, _, _, fa, hia, ea⟩ := hS x hx
  obtain ⟨_, _, _, fb, hib, eb⟩ := hS y hy
  rw [← ea, ← eb]
  refine u_apart (u_lays hts (tw_lay ht) hx) (u_lays hts (tw_lay ht) hy) hia hib ?_
  rw [(State.fieldFound?_type hia (tw_fty_ok ht x hx)).1, (State.fieldFound?_type hib (tw_fty_ok ht y hy)).1]
  exact tw_nm0 r (List.mem_of_getElem? ht) x hx y hy hne
theorem tw_putI {t a idx : Nat} {r : vw_C} {x : Int32} (h : tw_O p s m args meth c cc own nL ret G) (hd : decode cc pc = .ok (.putfield idx, 3)) (ht : vwCl[t]? = some r) (k : Nat) (hk : k < r.2.2) (ho : (r.2.1 k).1 = r.1) (hl : Cond.fieldLink own idx r.1 (r.2.1 k).2.1 (r.2.1 k).2.2.1 ∈ tw_W) (hf : (r.2.1 k).2.2.2 = false) (hi : tw_isR t k = false) (hn : narrow (tw_fty t k) (.int x) = .int x ∧ fits (tw_fty t k) (.int x) = true) (ea : tw_pI σ t a k x = some σ1)
    (kk : tw_X p l e R s m args below meth c nL G σ1 cells slots Q (pc + 3) lv st) : tw_X p l e R s m args below meth c nL G σ cells slots Q pc lv (.int x :: .ref a :: st) := by
  obtain ⟨⟨n, ha⟩, rfl⟩ := tw_pI_sp ea
  intro H locs ls hR hS hl'
  have hap := tw_apart h ht
  obtain ⟨hx, hb, -, hown, hts, -, -, hK⟩ := h
  have hc := (hR.2.2 a t n ha).2
  rw [tw_cell_o ht] at hc
  obtain ⟨cell, q1, q2, q3, q4⟩ := hc
  obtain ⟨hSl, hfc, kC, hkC, hkind⟩ := hK.1 t r ht
  obtain ⟨cf, kf, fi, f, hi', hsl⟩ := hSl k hk
  rw [ho] at hi'
  have hlay := hts _ (tw_lay ht _ (u_in_lay hk))
  unfold u_lay at hlay
  rw [if_neg (by rw [hf]; decide), ho] at hlay
  have hst := (u_facts hfc hkC (Or.inl hlay) hi').1
  have h6 := u_store hfc hkC hkind hlay hi' (tw_fty_ok ht k hk) hn.1 hn.2
  refine W.putK hx hb (f := f) ⟨hown, hts _ hl, ⟨_, _, _, hi'⟩, hst⟩ (by rw [q2]; exact h6) q1 q3 (by rw [hsl]; exact k2_hasslot (q4 k hk)) rfl rfl hd fun H' e1 e2 e3 => ?_
  rw [hsl] at e1 ⊢
  refine kk H' _ ls (hR.put ha rfl rfl e2 e3 (fun b hb t => tw_vI_ne b hb t) ?_) (tw_S.put hS e2 e3 (hR.2.2 a t n ha).1) hl'
  rw [tw_cell_o ht]
  exact ⟨_, e1, q2, q3, fun j hj => by rw [show tw_v t (tw_sI σ a k x).2.2.1 (tw_sI σ a k x).2.2.2 a = updV (tw_v t σ.2.2.1 σ.2.2.2 a) k (.int x) from tw_vI_eq hi]; exact t_set q4 hap hk _ j hj⟩
theorem tw_putP {t a idx x : Nat} {r : vw_C} (h : tw_O p s m args meth c cc own nL ret G) (hnm : meth.name = "<init>") (hd : decode cc pc = .ok (.putfield idx, 3)) (ht : vwCl[t]? = some r) (k : Nat) (hk : k < r.2.2) (ho : (r.2.1 k).1 = r.1) (hw : r.1 = own) (hl : Cond.fieldLink own idx r.1 (r.2.1 k).2.1 (r.2.1 k).2.2.1 ∈ tw_W) (hf : (r.2.1 k).2.2.2 = true) (hi : tw_isR t k = true) (hn : narrow (tw_fty t k) (.ref x) = .ref x ∧ fits (tw_fty t k) (.ref x) = true) (ea : tw_pP σ t a k x = some σ1)
    (kk : tw_X p l e R s m args below meth c nL G σ1 cells slots Q (pc + 3) lv st) : tw_X p l e R s m args below meth c nL G σ cells slots Q pc lv (.ref x :: .ref a :: st) := by
  obtain ⟨⟨n, ha⟩, rfl⟩ := tw_pP_sp ea
  intro H locs ls hR hS hl'
  have hap := tw_apart h ht
  obtain ⟨hx, hb, -, hown, hts, -, -, hK⟩ := h
  have hc := (hR.2.2 a t n ha).2
  rw [tw_cell_o ht] at hc
  obtain ⟨cell, q1, q2, q3, q4⟩ := hc
  obtain ⟨hSl, hfc, kC, hkC, hkind⟩ := hK.1 t r ht
  obtain ⟨cf, kf, fi, f, hi', hsl⟩ := hSl k hk
  rw [ho] at hi'
  have hlay := hts _ (tw_lay ht _ (u_in_lay hk))
  unfold u_lay at hlay
  rw [if_pos hf, ho] at hlay
  have hst := (u_facts hfc hkC (Or.inr hlay) hi').1
  have hcf : m.cls = cf := by
    obtain ⟨_, _, c', _, _, _, -, -, hf', -, -, -, hown2, -⟩ := Cond.laysFinal_spec hlay
    have e1 : c' = cf := by have := hi'.symm.trans hf'; simp at this; exact this.1.symm
    rw [hw] at hown2
    rw [← e1]; exact Option.some.inj (hown.symm.trans hown2)
  have h6 := u_fits hfc hkC hkind (Or.inr hlay) hi' (tw_fty_ok ht k hk) hn.1 hn.2
  refine W.putFinK hx hb hown (hts _ hl) hi' hst hcf hnm (by rw [q2]; exact h6) q1 q3 (by rw [hsl]; exact k2_hasslot (q4 k hk)) rfl rfl hd fun H' e1 e2 e3 => ?_
  rw [hsl] at e1 ⊢
  refine kk H' _ ls (hR.put ha rfl rfl e2 e3 (fun b hb t => tw_vP_ne b hb t) ?_) (tw_S.put hS e2 e3 (hR.2.2 a t n ha).1) hl'
  rw [tw_cell_o ht]
  exact ⟨_, e1, q2, q3, fun j hj => by rw [show tw_v t (tw_sP σ a k (some x)).2.2.1 (tw_sP σ a k (some x)).2.2.2 a = updV (tw_v t σ.2.2.1 σ.2.2.2 a) k (.ref x) from tw_vP_eq hi]; exact t_set q4 hap hk _ j hj⟩
/-- arrays -/
theorem tw_arr {H : Heap} {t n a : Nat} (h : tw_O p s m args meth c cc own nL ret G) (hR : tw_R G σ H) (ht : 20 ≤ t) (ht2 : t < 27) (ha : σ.2.1 a = some (t, n)) : H[a]? = some (arrV (G.2.1 t) n (tw_v t σ.2.2.1 σ.2.2.2 a)) ∧ s.isArrayOf (arrV (G.2.1 t) n (tw_v t σ.2.2.1 σ.2.2.2 a)) (tw_ty t) := by
  have hc := (hR.2.2 a t n ha).2
  rw [tw_cell_a ht] at hc
  exact ⟨hc, (h.2.2.2.2.2.2.2.2.1 t ht ht2).1 n _⟩
theorem tw_arr_in {t n a : Nat} {i : Int32} (hin : vp_in i n) : ¬ (i < 0 ∨ (arrV (G.2.1 t) n (tw_v t σ.2.2.1 σ.2.2.2 a)).slots.size ≤ i.toNatClampNeg) := by rw [arrV_size]; exact hin
theorem tw_arr_at {t n a : Nat} {i : Int32} (hin : vp_in i n) : (arrV (G.2.1 t) n (tw_v t σ.2.2.1 σ.2.2.2 a)).slots[i.toNatClampNeg]? = some (tw_v t σ.2.2.1 σ.2.2.2 a i.toNatClampNeg) := arrV_read _ _ (Nat.not_le.mp fun q => hin (Or.inr q))
theorem tw_iald {a : Nat} {i v : Int32} (h : tw_O p s m args meth c cc own nL ret G) (hd : decode cc pc = .ok (.iaload, 1)) (ea : tw_aI σ 20 a i = some v) (kk : tw_X p l e R s m args below meth c nL G σ cells slots Q (pc + 1) lv (.int v :: st)) : tw_X p l e R s m args below meth c nL G σ cells slots Q pc lv (.int i :: .ref a :: st) := by
  obtain ⟨n, h1, h2, h3⟩ := tw_aI_sp ea
  intro H locs ls hR hS hl
  obtain ⟨g1, g2⟩ := tw_arr h hR (by decide) (by decide) h1
  exact W.iald (v := .int v) h.1 h.2.1 g1 g2 (fun q => by cases q) (tw_arr_in h2) (by rw [tw_arr_at h2]; simp [tw_v, tw_isR, h3]) rfl rfl hd (kk H locs ls hR hS hl)
theorem tw_cald {a : Nat} {i v : Int32} (h : tw_O p s m args meth c cc own nL ret G) (hd : decode cc pc = .ok (.caload, 1)) (ea : tw_aI σ 21 a i = some v) (kk : tw_X p l e R s m args below meth c nL G σ cells slots Q (pc + 1) lv (.int v :: st)) : tw_X p l e R s m args below meth c nL G σ cells slots Q pc lv (.int i :: .ref a :: st) := by
  obtain ⟨n, h1, h2, h3⟩ := tw_aI_sp ea
  intro H locs ls hR hS hl
  obtain ⟨g1, g2⟩ := tw_arr h hR (by decide) (by decide) h1
  exact W.cald (v := .int v) h.1 h.2.1 g1 g2 (fun q => by cases q) (tw_arr_in h2) (by rw [tw_arr_at h2]; simp [tw_v, tw_isR, h3]) rfl rfl hd (kk H locs ls hR hS hl)
theorem tw_zald {a : Nat} {i v : Int32} (h : tw_O p s m args meth c cc own nL ret G) (hd : decode cc pc = .ok (.baload, 1)) (ea : tw_aI σ 22 a i = some v) (kk : tw_X p l e R s m args below meth c nL G σ cells slots Q (pc + 1) lv (.int v :: st)) : tw_X p l e R s m args below meth c nL G σ cells slots Q pc lv (.int i :: .ref a :: st) := by
  obtain ⟨n, h1, h2, h3⟩ := tw_aI_sp ea
  intro H locs ls hR hS hl
  obtain ⟨g1, g2⟩ := tw_arr h hR (by decide) (by decide) h1
  exact W.zald (v := .int v) h.1 h.2.1 g1 g2 (fun q => by cases q) (tw_arr_in h2) (by rw [tw_arr_at h2]; simp [tw_v, tw_isR, h3]) rfl rfl hd (kk H locs ls hR hS hl)
theorem tw_aald {t a v : Nat} {i : Int32} (h : tw_O p s m args meth c cc own nL ret G) (hd : decode cc pc = .ok (.aaload, 1)) (ht : 23 ≤ t) (ht2 : t < 27) (ea : tw_aP σ t a i = some v) (kk : tw_X p l e R s m args below meth c nL G σ cells slots Q (pc + 1) lv (.ref v :: st)) : tw_X p l e R s m args below meth c nL G σ cells slots Q pc lv (.int i :: .ref a :: st) := by
  obtain ⟨n, h1, h2, h3⟩ := tw_aP_sp ea
  intro H locs ls hR hS hl
  obtain ⟨g1, g2⟩ := tw_arr h hR (by omega) ht2 h1
  have hr : (tw_ty t).isReference = true ∧ ∀ j, tw_isR t j = true := by
    rcases (show t = 23 ∨ t = 24 ∨ t = 25 ∨ t = 26 by omega) with rfl | rfl | rfl | rfl <;> exact ⟨rfl, fun _ => rfl⟩
  exact W.aald (v := .ref v) h.1 h.2.1 g1 g2 hr.1 (fun q => by cases q) (tw_arr_in h2) (by rw [tw_arr_at h2]; simp [tw_v, hr.2, h3, va_rf]) rfl rfl hd (kk H locs ls hR hS hl)
theorem tw_alen {t a : Nat} {v : Int32} (h : tw_O p s m args meth c cc own nL ret G) (hd : decode cc pc = .ok (.arraylength, 1)) (ht : 20 ≤ t) (ht2 : t < 27) (ea : tw_len σ t a = some v) (kk : tw_X p l e R s m args below meth c nL G σ cells slots Q (pc + 1) lv (.int v :: st)) : tw_X p l e R s m args below meth c nL G σ cells slots Q pc lv (.ref a :: st) := by
  obtain ⟨n, h1, h2⟩ := tw_len_sp ea
  intro H locs ls hR hS hl
  obtain ⟨g1, g2⟩ := tw_arr h hR ht ht2 h1
  exact W.alen (n := v) h.1 h.2.1 g1 g2 (by rw [arrV_size, ← h2] <;> rfl) rfl rfl hd (kk H locs ls hR hS hl)
theorem tw_stored {H H1 : Heap} {t n a k : Nat} {x : Int32} (hR : tw_R G σ H) (ht : 20 ≤ t) (hi : tw_isR t k = false) (ha : σ.2.1 a = some (t, n)) (e1 : H1[a]? = some ((arrV (G.2.1 t) n (tw_v t σ.2.2.1 σ.2.2.2 a)).setSlot k (.int x))) (e2 : H1.size = H.size) (e3 : ∀ q, q ≠ a → H1[q]? = H[q]?) : tw_R G (tw_sI σ a k x) H1 := by
  refine hR.put ha rfl rfl e2 e3 (fun b hb t => tw_vI_ne b hb t) ?_
  rw [tw_cell_a ht, e1, arrV_store]
  rw [show tw_v t (tw_sI σ a k x).2.2.1 (tw_sI σ a k x).2.2.2 a = updV (tw_v t σ.2.2.1 σ.2.2.2 a) k (.int x) from tw_vI_eq hi]
theorem tw_iast {a : Nat} {i x : Int32} (h : tw_O p s m args meth c cc own nL ret G) (hd : decode cc pc = .ok (.iastore, 1)) (ea : tw_wI σ 20 a i x = some σ1) (kk : tw_X p l e R s m args below meth c nL G σ1 cells slots Q (pc + 1) lv st) : tw_X p l e R s m args below meth c nL G σ cells slots Q pc lv (.int x :: .int i :: .ref a :: st) := by
  obtain ⟨n, h1, h2, rfl⟩ := tw_wI_sp ea
  intro H locs ls hR hS hl
  obtain ⟨g1, g2⟩ := tw_arr h hR (by decide) (by decide) h1
  exact W.iast h.1 h.2.1 g1 g2 (fun q => by cases q) (tw_arr_in h2) rfl rfl hd fun H' e1 e2 e3 => kk H' _ ls (tw_stored hR (by decide) rfl h1 e1 e2 e3) (tw_S.put hS e2 e3 (hR.2.2 a _ n h1).1) hl
theorem tw_zast {a : Nat} {i x : Int32} (h : tw_O p s m args meth c cc own nL ret G) (hd : decode cc pc = .ok (.bastore, 1)) {y : Int32} (hn : tw_bz x = some y) (ea : tw_wI σ 22 a i x = some σ1) (kk : tw_X p l e R s m args below meth c nL G σ1 cells slots Q (pc + 1) lv st) : tw_X p l e R s m args below meth c nL G σ cells slots Q pc lv (.int x :: .int i :: .ref a :: st) := by
  obtain ⟨n, h1, h2, rfl⟩ := tw_wI_sp ea
  have hn2 := (tw_bz_sp hn).2.1
  intro H locs ls hR hS hl
  obtain ⟨g1, g2⟩ := tw_arr h hR (by decide) (by decide) h1
  exact W.zast h.1 h.2.1 g1 g2 (fun q => by cases q) (tw_arr_in h2) rfl rfl hd fun H' e1 e2 e3 => kk H' _ ls (tw_stored hR (by decide) rfl h1 (by rw [hn2] at e1; exact e1) e2 e3) (tw_S.put hS e2 e3 (hR.2.2 a _ n h1).1) hl
theorem tw_cast {a : Nat} {i x : Int32} (h : tw_O p s m args meth c cc own nL ret G) (hd : decode cc pc = .ok (.castore, 1)) {y : Int32} (hn : tw_bc x = some y) (ea : tw_wI σ 21 a i x = some σ1) (kk : tw_X p l e R s m args below meth c nL G σ1 cells slots Q (pc + 1) lv st) : tw_X p l e R s m args below meth c nL G σ cells slots Q pc lv (.int x :: .int i :: .ref a :: st) := by
  obtain ⟨n, h1, h2, rfl⟩ := tw_wI_sp ea
  have hn2 := (tw_bc_sp hn).2.1
  intro H locs ls hR hS hl
  obtain ⟨g1, g2⟩ := tw_arr h hR (by decide) (by decide) h1
  exact W.cast h.1 h.2.1 g1 g2 (fun q => by cases q) (tw_arr_in h2) rfl rfl hd fun H' e1 e2 e3 => kk H' _ ls (tw_stored hR (by decide) rfl h1 (by rw [hn2] at e1; exact e1) e2 e3) (tw_S.put hS e2 e3 (hR.2.2 a _ n h1).1) hl
theorem tw_storedP {H H1 : Heap} {t n a k x : Nat} (hR : tw_R G σ H) (ht : 20 ≤ t) (hi : tw_isR t k = true) (ha : σ.2.1 a = some (t, n)) (e1 : H1[a]? = some ((arrV (G.2.1 t) n (tw_v t σ.2.2.1 σ.2.2.2 a)).setSlot k (.ref x))) (e2 : H1.size = H.size) (e3 : ∀ q, q ≠ a → H1[q]? = H[q]?) : tw_R G (tw_sP σ a k (some x)) H1 := by
  refine hR.put ha rfl rfl e2 e3 (fun b hb t => tw_vP_ne b hb t) ?_
  rw [tw_cell_a ht, e1, arrV_store]
  rw [show tw_v t (tw_sP σ a k (some x)).2.2.1 (tw_sP σ a k (some x)).2.2.2 a = updV (tw_v t σ.2.2.1 σ.2.2.2 a) k (.ref x) from tw_vP_eq hi]
/-- aastore of an object of class tv into a row of that class (t: 24, 25, 26) -/
theorem tw_aast {t tv a x : Nat} {i : Int32} {r : vw_C} (h : tw_O p s m args meth c cc own nL ret G) (hd : decode cc pc = .ok (.aastore, 1)) (ht : 24 ≤ t) (ht2 : t < 27) (hr : vwCl[tv]? = some r) (hty : tw_ty t = .object r.1) (ea : tw_wP σ t tv a i x = some σ1) (kk : tw_X p l e R s m args below meth c nL G σ1 cells slots Q (pc + 1) lv st) : tw_X p l e R s m args below meth c nL G σ cells slots Q pc lv (.ref x :: .int i :: .ref a :: st) := by
  obtain ⟨n, m', h1, h1x, h2, rfl⟩ := tw_wP_sp ea
  intro H locs ls hR hS hl
  obtain ⟨g1, g2⟩ := tw_arr h hR (by omega) ht2 h1
  have hir : tw_isR t i.toNatClampNeg = true := by
    rcases (show t = 24 ∨ t = 25 ∨ t = 26 by omega) with rfl | rfl | rfl <;> rfl
  have hcx := (hR.2.2 x tv m' h1x).2
  rw [tw_cell_o hr] at hcx
  obtain ⟨cellV, v1, v2, v3, -⟩ := hcx
  have hK := h.2.2.2.2.2.2.2
  have hcls := (hK.1 tv r hr).2
  have hra := (hK.2.1 t (by omega) ht2).2
  rw [hty] at hra
  obtain ⟨kA, comp, k1, k2, k3, -⟩ := hra
  have hcomp : comp = G.1.1 tv := Option.some.inj (k3.symm.trans hcls.1)
  subst hcomp
  obtain ⟨kC, hkC, -⟩ := hcls.2
  exact W.aast h.1 h.2.1 g1 (fun q h => by cases h) (fun h => by cases h) k1 k2 rfl hkC ⟨fun q => h2 (Or.inl q), by rw [arrV_size]; exact Nat.not_le.mp fun q => h2 (Or.inr q)⟩ v1 (fun q h => by rw [v3] at h; cases h) (by rw [v2]; exact hkC) (by rw [v2]; exact va_assign hcls) rfl rfl hd fun H1 e1 e2 e3 =>
    kk H1 _ ls (tw_storedP hR (by omega) hir h1 e1 e2 e3) (tw_S.put hS e2 e3 (hR.2.2 a _ n h1).1) hl
/-- aastore of a row of numbers into a row of such rows -/
theorem tw_aastI {a x : Nat} {i : Int32} (h : tw_O p s m args meth c cc own nL ret G) (hd : decode cc pc = .ok (.aastore, 1)) (ea : tw_wP σ 23 20 a i x = some σ1) (kk : tw_X p l e R s m args below meth c nL G σ1 cells slots Q (pc + 1) lv st) : tw_X p l e R s m args below meth c nL G σ cells slots Q pc lv (.ref x :: .int i :: .ref a :: st) := by
  obtain ⟨n, m', h1, h1x, h2, rfl⟩ := tw_wP_sp ea
  intro H locs ls hR hS hl
  obtain ⟨g1, g2⟩ := tw_arr h hR (by omega) (by omega) h1
  obtain ⟨x1, x2⟩ := tw_arr h hR (by omega) (by omega) h1x
  obtain ⟨-, kI, hkI, -⟩ := x2
  have hK := h.2.2.2.2.2.2.2
  obtain ⟨kA, k1, k2⟩ := hK.2.2.2.2.2.2.2
  exact W.aast h.1 h.2.1 g1 (fun q h => by cases h) (fun h => by cases h) k1 k2 rfl hkI ⟨fun q => h2 (Or.inl q), by rw [arrV_size]; exact Nat.not_le.mp fun q => h2 (Or.inr q)⟩ x1 (fun q h => by cases h) hkI (va_asg _ _) rfl rfl hd fun H1 e1 e2 e3 =>
    kk H1 _ ls (tw_storedP hR (by omega) rfl h1 e1 e2 e3) (tw_S.put hS e2 e3 (hR.2.2 a _ n h1).1) hl
/-- statics -/
theorem tw_gsL {idx : Nat} (h : tw_O p s m args meth c cc own nL ret G) (hd : decode cc pc = .ok (.getstatic idx, 3)) (hl : Cond.fieldLink own idx RX7 "LOWEST" "[I" ∈ tw_W) (kk : tw_X p l e R s m args below meth c nL G σ cells slots Q (pc + 3) lv (.ref G.2.2.1 :: st)) : tw_X p l e R s m args below meth c nL G σ cells slots Q pc lv st :=
  fun H locs ls hR hS hl' => va_gets h.1 h.2.1 h.2.2.2.2.2.2.2.2.2.2.1 hS h.2.2.2.1 (h.2.2.2.2.1 _ hl) (fun _ q => q) hd (kk H locs ls hR hS hl')
theorem tw_gsH {idx : Nat} (h : tw_O p s m args meth c cc own nL ret G) (hd : decode cc pc = .ok (.getstatic idx, 3)) (hl : Cond.fieldLink own idx RX7 "HIGHEST" "[I" ∈ tw_W) (kk : tw_X p l e R s m args below meth c nL G σ cells slots Q (pc + 3) lv (.ref G.2.2.2.1 :: st)) : tw_X p l e R s m args below meth c nL G σ cells slots Q pc lv st :=
  fun H locs ls hR hS hl' => va_gets h.1 h.2.1 h.2.2.2.2.2.2.2.2.2.2.2.1 hS h.2.2.2.1 (h.2.2.2.2.1 _ hl) (fun _ q => q) hd (kk H locs ls hR hS hl')
theorem tw_ldL {i v : Int32} (h : tw_O p s m args meth c cc own nL ret G) (hd : decode cc pc = .ok (.iaload, 1)) (ea : tw_lo i = some v) (kk : tw_X p l e R s m args below meth c nL G σ cells slots Q (pc + 1) lv (.int v :: st)) : tw_X p l e R s m args below meth c nL G σ cells slots Q pc lv (.int i :: .ref G.2.2.1 :: st) := by
  unfold tw_lo at ea
  split at ea
  · rename_i q
    exact fun H locs ls hR hS hl' => va_ti h.1 h.2.1 h.2.2.2.2.2.2.2.2.2.2.2.2.1 hS (fun z => z.elim q.1 (Nat.not_le.mpr q.2)) (by rw [Option.some.inj ea]) hd (kk H locs ls hR hS hl')
  · cases ea
theorem tw_ldH {i v : Int32} (h : tw_O p s m args meth c cc own nL ret G) (hd : decode cc pc = .ok (.iaload, 1)) (ea : tw_hi i = some v) (kk : tw_X p l e R s m args below meth c nL G σ cells slots Q (pc + 1) lv (.int v :: st)) : tw_X p l e R s m args below meth c nL G σ cells slots Q pc lv (.int i :: .ref G.2.2.2.1 :: st) := by
  unfold tw_hi at ea
  split at ea
  · rename_i q
    exact fun H locs ls hR hS hl' => va_ti h.1 h.2.1 h.2.2.2.2.2.2.2.2.2.2.2.2.2.1 hS (fun z => z.elim q.1 (Nat.not_le.mpr q.2)) (by rw [Option.some.inj ea]) hd (kk H locs ls hR hS hl')
  · cases ea
/-- ends -/
theorem tw_iret {v : Int32} {q : Int32 × tw_St} (h : tw_O p s m args meth c cc own nL (some .int) G) (hd : decode cc pc = .ok (.ireturn, 1)) (ee : some (v, σ) = some q) : tw_X p l e R s m args below meth c nL G σ cells slots (tw_Q below args s G cells slots (some (.int q.1)) q.2) pc lv [.int v] := by
  obtain rfl := Option.some.inj ee
  exact fun H locs ls hR hS hl => W.iret h.1 h.2.1 h.2.2.2.2.2.2.1 (fun t ht hW => ⟨⟨rfl, by rw [ht]; exact hR⟩, hS.F ht⟩) hS.2.2 hd h.2.2.2.2.2.1
theorem tw_iretR {v q : Int32} (h : tw_O p s m args meth c cc own nL (some .int) G) (hd : decode cc pc = .ok (.ireturn, 1)) (ee : some v = some q) : tw_X p l e R s m args below meth c nL G σ cells slots (tw_Q below args s G cells slots (some (.int q)) σ) pc lv [.int v] := by
  obtain rfl := Option.some.inj ee
  exact fun H locs ls hR hS hl => W.iret h.1 h.2.1 h.2.2.2.2.2.2.1 (fun t ht hW => ⟨⟨rfl, by rw [ht]; exact hR⟩, hS.F ht⟩) hS.2.2 hd h.2.2.2.2.2.1
theorem tw_zret {v : Int32} {ty : FieldType} {q : Int32 × tw_St} (h : tw_O p s m args meth c cc own nL (some ty) G) (hn : narrow ty (.int v) = .int v) (hd : decode cc pc = .ok (.ireturn, 1)) (ee : some (v, σ) = some q) : tw_X p l e R s m args below meth c nL G σ cells slots (tw_Q below args s G cells slots (some (.int q.1)) q.2) pc lv [.int v] := by
  obtain rfl := Option.some.inj ee
  exact fun H locs ls hR hS hl => W.zret h.1 h.2.1 h.2.2.2.2.2.2.1 hn (fun t ht hW => ⟨⟨rfl, by rw [ht]; exact hR⟩, hS.F ht⟩) hS.2.2 hd h.2.2.2.2.2.1
theorem tw_zretR {v q : Int32} {ty : FieldType} (h : tw_O p s m args meth c cc own nL (some ty) G) (hn : narrow ty (.int v) = .int v) (hd : decode cc pc = .ok (.ireturn, 1)) (ee : some v = some q) : tw_X p l e R s m args below meth c nL G σ cells slots (tw_Q below args s G cells slots (some (.int q)) σ) pc lv [.int v] := by
  obtain rfl := Option.some.inj ee
  exact fun H locs ls hR hS hl => W.zret h.1 h.2.1 h.2.2.2.2.2.2.1 hn (fun t ht hW => ⟨⟨rfl, by rw [ht]; exact hR⟩, hS.F ht⟩) hS.2.2 hd h.2.2.2.2.2.1
theorem tw_vret {q : tw_St} (h : tw_O p s m args meth c cc own nL none G) (hd : decode cc pc = .ok (.return_, 1)) (ee : some σ = some q) : tw_X p l e R s m args below meth c nL G σ cells slots (tw_Q below args s G cells slots none q) pc lv [] := by
  obtain rfl := Option.some.inj ee
  exact fun H locs ls hR hS hl => W.vret h.1 h.2.1 h.2.2.2.2.2.2.1 (fun t ht hW => ⟨⟨rfl, by rw [ht]; exact hR⟩, hS.F ht⟩) hS.2.2 hd h.2.2.2.2.2.1
end TWM
end
section
theorem tw_v_new {σ : tw_St} {t n : Nat} : tw_v t (tw_new σ t n).2.2.1 (tw_new σ t n).2.2.2 σ.1 = fun j => if tw_isR t j = true then .null else .int 0 := by
  funext j; simp [tw_v, tw_new, va_rf]
theorem tw_v_old {σ : tw_St} {t n b t' : Nat} (h : b ≠ σ.1) : tw_v t' (tw_new σ t n).2.2.1 (tw_new σ t n).2.2.2 b = tw_v t' σ.2.2.1 σ.2.2.2 b := by
  funext j; simp [tw_v, tw_new, h]
theorem tw_R.add {G : tw_G} {σ : tw_St} {H H1 : Heap} {t n : Nat} (hR : tw_R G σ H) (hz : H1.size = H.size + 1) (ho : ∀ q, q < H.size → H1[q]? = H[q]?) (hc : tw_cell G t n σ.1 (fun j => if tw_isR t j = true then .null else .int 0) H1) : tw_R G (tw_new σ t n) H1 := by
  refine ⟨by rw [hz, hR.1]; rfl, Nat.le_succ_of_le hR.2.1, fun b t' n' hb => ?_⟩
  by_cases e : b = σ.1
  · subst e
    simp only [tw_new, if_true] at hb
    cases hb
    refine ⟨hR.2.1, ?_⟩
    rw [tw_v_new]
    exact hc
  · simp only [tw_new, e, if_false] at hb
    obtain ⟨h1, h2⟩ := hR.2.2 b t' n' hb
    refine ⟨h1, ?_⟩
    rw [tw_v_old e]
    exact h2.kept (ho b h2.lt)
theorem tw_S.push {G : tw_G} {H0 H H1 : Heap} {locs : List Loc} (hS : va_S (tw_A G) H0 H locs) (hz : H.size ≤ H1.size) (ho : ∀ q : Nat, q < H.size → H1[q]? = H[q]?) : va_S (tw_A G) H0 H1 locs :=
  ⟨Nat.le_trans hS.1 hz, fun x h1 h2 => (ho x (Nat.lt_of_lt_of_le h1 hS.1)).trans (hS.2.1 x h1 h2), hS.2.2⟩
section TWN
variable {p : Program} {l : Launch} {e : Env} {R : Room} {s : State} {m : MethodId} {args : Array Value} {below : List Frame} {meth : Method} {c : Code} {cells slots : Nat} {Q : State → Prop}
variable {cc : ByteArray} {own : String} {nL : Nat} {ret : Option FieldType} {G : tw_G} {σ σ1 : tw_St} {pc : Nat} {lv lv' : List (Nat × Value)} {st : List Value}
theorem tw_newO {t idx : Nat} {r : vw_C} (h : tw_O p s m args meth c cc own nL ret G) (hd : decode cc pc = .ok (.new idx, 3)) (ht : vwCl[t]? = some r) (hcl : Cond.classLink own idx r.1 ∈ tw_W) (hins : Cond.instantiable r.1 r.2.2 ∈ tw_W) (hini : Cond.initialized r.1 ∈ tw_W) (hc : cells + 1 ≤ R.cells) (hs : slots + r.2.2 ≤ R.slots)
    (kk : tw_X p l e R s m args below meth c nL G (tw_new σ t r.2.2) (cells + 1) (slots + r.2.2) Q (pc + 3) lv (.ref σ.1 :: st)) : tw_X p l e R s m args below meth c nL G σ cells slots Q pc lv st := by
  intro H locs ls hR hS hl
  obtain ⟨hx, hb, -, hown, hts, -, -, hK⟩ := h
  have hKn := hK.1 t r ht
  refine W.newcK hx hb hown (hts _ hcl) (hts _ hins) (hts _ hini) rfl hd hc hs hKn.2.1 rfl fun H1 kC hkC e1 z1 o1 => ?_
  have hc1 : tw_cell G t r.2.2 σ.1 (fun j => if tw_isR t j = true then .null else .int 0) H1 := by
    rw [tw_cell_o ht, ← hR.1]
    exact (u_born (tw_fty t) hts (tw_lay ht) hKn hkC e1 (tw_fty_ok ht)).to (tw_fty_df ht)
  have := kk H1 locs ls (hR.add z1 o1 hc1) (tw_S.push hS (by omega) o1) hl
  rw [← hR.1] at this
  exact this
theorem tw_newA {t : Nat} {atype : ArrayType} {n : Int32} {N : Nat} (h : tw_O p s m args meth c cc own nL ret G) (hd : decode cc pc = .ok (.newarray atype, 2)) (ht : 20 ≤ t ∧ t < 23) (hty : newarray.typeOf atype = tw_ty t) (hw : Cond.arrayClass (newarray.typeOf atype) ∈ tw_W) (hn : ¬ n < 0) (hN : n.toNatClampNeg = N) (hb2 : N * componentBytes (newarray.typeOf atype) ≤ 536870912) (hc : cells + 1 ≤ R.cells) (hs : slots + N ≤ R.slots)
    (kk : tw_X p l e R s m args below meth c nL G (tw_new σ t N) (cells + 1) (slots + N) Q (pc + 2) lv (.ref σ.1 :: st)) : tw_X p l e R s m args below meth c nL G σ cells slots Q pc lv (.int n :: st) := by
  intro H locs ls hR hS hl
  obtain ⟨hx, hb, -, hown, hts, -, -, hK⟩ := h
  have hra := (hK.2.1 t ht.1 (by omega)).2
  refine va_newaK hx hb (hts _ hw) rfl hd rfl hn hN hb2 hc hs rfl fun H1 cA e1 z1 o1 hAr hNm => ?_
  have hcA : cA = G.2.1 t := by
    rw [hty] at hNm
    rcases (show t = 20 ∨ t = 21 ∨ t = 22 by omega) with rfl | rfl | rfl <;> exact Option.some.inj (hNm.symm.trans hra)
  have hc1 : tw_cell G t N σ.1 (fun j => if tw_isR t j = true then .null else .int 0) H1 := by
    rw [tw_cell_a ht.1, ← hR.1, e1, hcA, hty]
    rcases (show t = 20 ∨ t = 21 ∨ t = 22 by omega) with rfl | rfl | rfl <;> rfl
  have := kk H1 locs ls (hR.add z1 o1 hc1) (tw_S.push hS (by omega) o1) hl
  rw [← hR.1] at this
  exact this
theorem tw_newR {t idx : Nat} {C : String} {n : Int32} {N : Nat} (h : tw_O p s m args meth c cc own nL ret G) (hd : decode cc pc = .ok (.anewarray idx, 3)) (ht : 24 ≤ t ∧ t < 27) (hty : tw_ty t = .object C) (hcl : Cond.classLink own idx C ∈ tw_W) (hover : va_AO C s) (hn : ¬ n < 0) (hN : n.toNatClampNeg = N) (hb2 : N * 4 ≤ 536870912) (hc : cells + 1 ≤ R.cells) (hs : slots + N ≤ R.slots)
    (kk : tw_X p l e R s m args below meth c nL G (tw_new σ t N) (cells + 1) (slots + N) Q (pc + 3) lv (.ref σ.1 :: st)) : tw_X p l e R s m args below meth c nL G σ cells slots Q pc lv (.int n :: st) := by
  subst hN
  intro H locs ls hR hS hl
  obtain ⟨hx, hb, -, hown, hts, -, -, hK⟩ := h
  have hra := (hK.2.1 t (by omega) ht.2).2
  rw [hty] at hra
  obtain ⟨-, -, -, -, -, hra4⟩ := hra
  refine W.anew hx hb hown (hts _ hcl) (va_AO.use hover) rfl hd rfl hn hb2 hc hs fun cA kA comp f1 f2 f3 f4 => ?_
  have hcA : cA = G.2.1 t := Option.some.inj (f1.symm.trans hra4)
  subst hcA
  generalize hH1 : H.push ({ cls := G.2.1 t, slots := Array.replicate n.toNatClampNeg .null, vm := .none } : Cell) = H1
  have z1 : H1.size = H.size + 1 := by rw [← hH1, Array.size_push]
  have e1 : H1[H.size]? = some (arrV (G.2.1 t) n.toNatClampNeg (fun _ => .null)) := by rw [← hH1, Array.getElem?_push_size, ← arrV_new]
  have o1 : ∀ q : Nat, q < H.size → H1[q]? = H[q]? := fun q hq => by rw [← hH1, Array.getElem?_push, if_neg (Nat.ne_of_lt hq)]
  have hc1 : tw_cell G t n.toNatClampNeg σ.1 (fun j => if tw_isR t j = true then .null else .int 0) H1 := by
    rw [tw_cell_a (by omega), ← hR.1, e1]
    rcases (show t = 24 ∨ t = 25 ∨ t = 26 by omega) with rfl | rfl | rfl <;> rfl
  have := kk H1 locs ls (hR.add z1 o1 hc1) (tw_S.push hS (by omega) o1) hl
  rw [← hR.1] at this
  exact this
theorem tw_outer (c : ClassId) (N h0 : Nat) : ∀ i : Nat, Jvm.Free.Multi.outerC c N h0 i = arrV c N (fun j => va_rf (if j < i then some (h0 + 1 + j) else none))
  | 0 => by
    show ({ cls := c, slots := Array.replicate N .null, vm := .none } : Cell) = _
    rw [arrV_new]
    refine congrArg (arrV c N) (funext fun j => ?_)
    simp [va_rf]
  | i + 1 => by
    show (Jvm.Free.Multi.outerC c N h0 i).setSlot i (.ref (h0 + 1 + i)) = _
    rw [tw_outer c N h0 i, arrV_store]
    refine congrArg (arrV c N) (funext fun j => ?_)
    by_cases e : j = i
    · subst e
      simp [updV, va_rf]
    · by_cases h : j < i
      · simp [updV, e, h, Nat.lt_succ_of_lt h]
      · simp [updV, e, h, show ¬ j < i + 1 by omega]
theorem tw_mna {idx : Nat} {n k : Int32} {N K : Nat} (h : tw_O p s m args meth c cc own nL ret G) (hd : decode cc pc = .ok (.multianewarray idx 2, 4)) (hcl : Cond.classLink own idx ("[" ++ (FieldType.array .int).toString) ∈ tw_W) (harr : Cond.arrayClass .int ∈ tw_W) (hn : ¬ n < 0) (hk : ¬ k < 0) (hN : n.toNatClampNeg = N) (hM : k.toNatClampNeg = K)
    (hb1 : N * 4 ≤ 536870912) (hb2 : K * 4 ≤ 536870912) (hb3 : K ≤ 536870912) (hc : cells + (1 + N) ≤ R.cells) (hs : slots + (N + N * K) ≤ R.slots)
    (kk : tw_X p l e R s m args below meth c nL G (tw_grid σ N K) (cells + 1 + N) (slots + N + N * K) Q (pc + 4) lv (.ref σ.1 :: st)) : tw_X p l e R s m args below meth c nL G σ cells slots Q pc lv (.int k :: .int n :: st) := by
  subst hN
  subst hM
  intro H locs ls hR hS hl
  intro T hT Xs
  obtain ⟨hx, hb, -, hown, hts, -, -, hK⟩ := h
  have hover := hK.2.2.1.2.2.2.2.2.2.2.2.2
  obtain ⟨vm₁, cA, comp, -, fA, fC, hO, -, X', step⟩ := Xs.multianewarray2F hx hown (hts _ hcl) (va_AOA.use hover) (hts _ harr) (g := F0 m pc ls (.int k :: .int n :: st)) rfl (by rw [hb]; exact hd) rfl hn hk hb1 hb2 hb3 rfl rfl hc hs
  have ecA : cA = G.2.1 23 := Option.some.inj (fA.symm.trans (hK.2.1 23 (by decide) (by decide)).2)
  have ecI : comp = G.2.1 20 := Option.some.inj (fC.symm.trans (hK.2.1 20 (by decide) (by decide)).2)
  subst ecA
  subst ecI
  generalize hF : Jvm.Free.Multi.fill (T.setVm vm₁) (G.2.1 23) (G.2.1 20) n.toNatClampNeg k.toNatClampNeg (defaultValue .int) n.toNatClampNeg = F at X' step
  have hTh : (T.setVm vm₁).heap = H := hT
  obtain ⟨f1, f2, -, -⟩ := Jvm.Free.Multi.fill_facts (T.setVm vm₁) (G.2.1 23) (G.2.1 20) n.toNatClampNeg k.toNatClampNeg (defaultValue .int) n.toNatClampNeg
  rw [hF, hTh] at f1 f2
  have hold : ∀ x : Nat, x < H.size → F.heap[x]? = H[x]? := fun x hx => by
    have := Jvm.Free.Multi.fill_old (T.setVm vm₁) (G.2.1 23) (G.2.1 20) n.toNatClampNeg k.toNatClampNeg (defaultValue .int) (a := x) (by rw [hTh]; exact hx) n.toNatClampNeg
    rw [hF, hTh] at this
    exact this
  have hrow : ∀ j : Nat, j < n.toNatClampNeg → F.heap[H.size + 1 + j]? = some (arrV (G.2.1 20) k.toNatClampNeg (fun _ => .int 0)) := fun j hj => by
    have := Jvm.Free.Multi.fill_inner (T.setVm vm₁) (G.2.1 23) (G.2.1 20) n.toNatClampNeg k.toNatClampNeg (defaultValue .int) n.toNatClampNeg j hj
    rw [hF, hTh] at this
    rw [this, ← arrV_new]
    rfl
  rw [tw_outer] at f2
  have hsz := hR.1
  have hR1 : tw_R G (tw_grid σ n.toNatClampNeg k.toNatClampNeg) F.heap := by
    refine ⟨by rw [f1, hsz]; rfl, by have := hR.2.1; show G.2.2.2.2 ≤ σ.1 + 1 + n.toNatClampNeg; omega, fun b t' n' hb' => ?_⟩
    have hbase := hR.2.1
    by_cases e : b = σ.1
    · subst e
      simp only [tw_grid, if_true] at hb'
      cases hb'
      refine ⟨hR.2.1, ?_⟩
      rw [tw_cell_a (by decide), ← hsz, f2]
      refine congrArg (fun z => some (arrV (G.2.1 23) n.toNatClampNeg z)) (funext fun j => ?_)
      simp [tw_v, tw_isR, tw_grid, hsz]
    · by_cases e2 : σ.1 < b ∧ b < σ.1 + 1 + n.toNatClampNeg
      · simp only [tw_grid, if_neg e, if_pos e2] at hb'
        cases hb'
        refine ⟨by omega, ?_⟩
        have hr := hrow (b - (σ.1 + 1)) (by omega)
        rw [show H.size + 1 + (b - (σ.1 + 1)) = b by omega] at hr
        rw [tw_cell_a (by decide), hr]
        refine congrArg (fun z => some (arrV (G.2.1 20) k.toNatClampNeg z)) (funext fun j => ?_)
        simp [tw_v, tw_isR, tw_grid, show σ.1 ≤ b ∧ b < σ.1 + 1 + n.toNatClampNeg from ⟨by omega, e2.2⟩]
      · simp only [tw_grid, if_neg e, if_neg e2] at hb'
        obtain ⟨h1, h2⟩ := hR.2.2 b t' n' hb'
        have hlt := h2.lt
        refine ⟨h1, ?_⟩
        have e3 : ¬ (σ.1 ≤ b ∧ b < σ.1 + 1 + n.toNatClampNeg) := fun z => by omega
        have : tw_v t' (tw_grid σ n.toNatClampNeg k.toNatClampNeg).2.2.1 (tw_grid σ n.toNatClampNeg k.toNatClampNeg).2.2.2 b = tw_v t' σ.2.2.1 σ.2.2.2 b := by
          funext j; simp only [tw_v, tw_grid, if_neg e, if_neg e2, if_neg e3]
        rw [this]
        exact h2.kept (hold b hlt)
  obtain ⟨t, a1, b1⟩ := kk F.heap locs ls hR1 (tw_S.push hS (by omega) hold) hl F rfl X'
  refine ⟨t, step t ?_, b1⟩
  have e : T.heap.size = σ.1 := by rw [hT]; exact hsz
  rw [e]
  exact a1
theorem tw_cp_sp {b a : Nat} {sp dp n : Int32} (h : tw_cp σ b sp a dp n = some σ1) : ∃ n0 n1, σ.2.1 b = some (20, n0) ∧ σ.2.1 a = some (20, n1) ∧ ¬ sp < 0 ∧ ¬ dp < 0 ∧ ¬ n < 0 ∧ sp.toNatClampNeg + n.toNatClampNeg ≤ n0 ∧ dp.toNatClampNeg + n.toNatClampNeg ≤ n1 ∧ σ1 = (σ.1, σ.2.1, σ.2.2.1, fun c => if c = a then tw_cpI (σ.2.2.2 b) (σ.2.2.2 a) sp.toNatClampNeg dp.toNatClampNeg n.toNatClampNeg else σ.2.2.2 c) := by
  unfold tw_cp at h
  split at h
  · rename_i q z hq hz
    split at h
    · rename_i e
      exact ⟨q.2, z.2, by rw [hq, ← e.1], by rw [hz, ← e.2.1], e.2.2.1, e.2.2.2.1, e.2.2.2.2.1, e.2.2.2.2.2.1, e.2.2.2.2.2.2, (Option.some.inj h).symm⟩
    · cases h
  · cases h
theorem tw_copy {a b idx : Nat} {sp dp n : Int32} (h : tw_O p s m args meth c cc own nL ret G) (hd : decode cc pc = .ok (.invokestatic idx, 3)) (hlink : Cond.methodLink own idx arraycopyName ∈ tw_W) (hnat : Cond.native arraycopyName ∈ tw_W) (hstat : Cond.static arraycopyName ∈ tw_W) (hini : Cond.initialized "java/lang/System" ∈ tw_W)
    (hf : 1 ≤ R.frames) (hlo : (st.map fun v => v.category).sum + 18 ≤ R.locals) (ea : tw_cp σ b sp a dp n = some σ1) (kk : tw_X p l e R s m args below meth c nL G σ1 cells slots Q (pc + 3) lv st) : tw_X p l e R s m args below meth c nL G σ cells slots Q pc lv (.int n :: .int dp :: .ref a :: .int sp :: .ref b :: st) := by
  obtain ⟨n0, n1, hb0, ha0, h1, h2, h3, h4, h5, rfl⟩ := tw_cp_sp ea
  have nn : ∀ z : Int32, ¬ z < 0 → z.toInt = (z.toNatClampNeg : Int) := by
    intro z hz
    have hz0 : (0 : Int) ≤ z.toInt := by
      have := Int32.not_lt.mp hz
      simpa using Int32.le_iff_toInt_le.mp this
    show z.toInt = ((z.toInt.toNat : Nat) : Int)
    omega
  intro H locs ls hR hS hl
  obtain ⟨hc0, q0⟩ := tw_arr h hR (by decide) (by decide) hb0
  obtain ⟨hc1, q1⟩ := tw_arr h hR (by decide) (by decide) ha0
  obtain ⟨hx, hb, hml, hown, hts, -, -, hK⟩ := h
  have ev : ∀ x, tw_v 20 σ.2.2.1 σ.2.2.2 x = fun j => .int (σ.2.2.2 x j) := fun x => by funext j; simp [tw_v, tw_isR]
  rw [ev] at hc0 hc1 q0 q1
  obtain ⟨-, k0, hk0, cm0, hkk0⟩ := q0
  obtain ⟨-, k1, hk1, cm1, hkk1⟩ := q1
  intro T hT X
  obtain ⟨vm', X', step⟩ := X.arraycopy hx hown (hts _ hlink) (hts _ hnat) (hts _ hstat) (hts _ hini) (src := b) (dst := a) (cs := arrV (G.2.1 20) n0 (fun j => .int (σ.2.2.2 b j))) (cd := arrV (G.2.1 20) n1 (fun j => .int (σ.2.2.2 a j))) (srcPos := sp) (destPos := dp) (n := n) (by rw [hT]; exact hc0) (by rw [hT]; exact hc1)
    (fun _ h => by cases h) (fun _ h => by cases h) (fun h => by cases h) (fun h => by cases h) hk0 hk1 hkk0 hkk1 (by simp [refKind, tw_ty]) h1 h2 h3
    (by rw [nn sp h1, nn n h3, arrV_size]; omega)
    (by rw [nn dp h2, nn n h3, arrV_size]; omega)
    (fun vm₁ _ i hi => by
      have e : (arrV (G.2.1 20) n0 (fun j => .int (σ.2.2.2 b j))).slots.getD (sp.toNatClampNeg + i) .null = .int (σ.2.2.2 b (sp.toNatClampNeg + i)) := by
        rw [Array.getD_eq_getD_getElem?, arrV_read _ _ (by omega)]
        rfl
      refine ⟨?_, ?_⟩
      · rw [e]
        rfl
      · rw [e]
        exact trivial)
    (g := F0 m pc ls (.int n :: .int dp :: .ref a :: .int sp :: .ref b :: st)) rfl (by rw [hml]; exact hl.1) (rest := st) rfl (by rw [hb]; exact hd) hf (by show 2 * 0 + _ + (7 + 11) ≤ _; omega)
  have e1 : copied (arrV (G.2.1 20) n0 (fun j => .int (σ.2.2.2 b j))) (arrV (G.2.1 20) n1 (fun j => .int (σ.2.2.2 a j))) sp dp n = arrV (G.2.1 20) n1 (fun j => .int (va_cpy (σ.2.2.2 b) (σ.2.2.2 a) sp.toNatClampNeg dp.toNatClampNeg n.toNatClampNeg j)) := va_copied (fun z => .int z) (G.2.1 20) (G.2.1 20) (σ.2.2.2 b) (σ.2.2.2 a) h4
  rw [e1] at X' step
  have hla : a < H.size := (Array.getElem?_eq_some_iff.mp hc1).1
  generalize hcv : arrV (G.2.1 20) n1 (fun j => .int (va_cpy (σ.2.2.2 b) (σ.2.2.2 a) sp.toNatClampNeg dp.toNatClampNeg n.toNatClampNeg j)) = cv at X' step
  have hheap : ((T.setVm vm').setCell a cv).heap = H.setIfInBounds a cv := by rw [← hT]; rfl
  have oq : ∀ q : Nat, q ≠ a → (H.setIfInBounds a cv)[q]? = H[q]? := fun q hq => by simp [Array.getElem?_setIfInBounds, Ne.symm hq]
  have hbase := (hR.2.2 a _ _ ha0).1
  have hR1 : tw_R G (σ.1, σ.2.1, σ.2.2.1, fun c => if c = a then tw_cpI (σ.2.2.2 b) (σ.2.2.2 a) sp.toNatClampNeg dp.toNatClampNeg n.toNatClampNeg else σ.2.2.2 c) (H.setIfInBounds a cv) := by
    refine hR.put ha0 rfl rfl (by simp) oq (fun b' hb' t => by funext j; simp [tw_v, hb']) ?_
    rw [tw_cell_a (by decide), show (H.setIfInBounds a cv)[a]? = some cv by simp [Array.getElem?_setIfInBounds, hla], ← hcv]
    refine congrArg (fun z => some (arrV (G.2.1 20) n1 z)) (funext fun j => ?_)
    simp [tw_v, tw_isR, tw_cpI, va_cpy]
  obtain ⟨t, a1, b1⟩ := kk _ _ ls hR1 (⟨by simp; exact hS.1, fun q g1 g2 => by
      rw [oq q (fun e => g2 (by rw [e]; exact hbase))]
      exact hS.2.1 q g1 g2, fun q hq => by
      rcases List.mem_append.mp hq with h | h
      · exact hS.2.2 q h
      · obtain ⟨z, -, hz⟩ := List.mem_map.mp h
        rw [← hz]
        exact hbase⟩) hl _ hheap X'
  exact ⟨t, step t a1, b1⟩
/-- calls -/
def tw_CF (y : MethodName) (cc : ByteArray) (maxL : Nat) (ret : Option FieldType) (n : Nat) : Prop := Cond.code y cc maxL ret ∈ tw_W ∧ Cond.initialized y.cls ∈ tw_W ∧ y.cls ≠ "java/lang/invoke/MethodHandle" ∧ y.cls ≠ "java/lang/invoke/VarHandle" ∧ (parseMethodDescriptor y.desc).map (fun d => d.parameters.length) = some n
theorem tw_blind {av : List Value} : FrameBlind (va_Pc av (fun U => tw_R G σ U.heap ∧ tw_K G U U.heap)) := fun a U g mk q => by
  obtain ⟨q0, q1, q2⟩ := q
  exact ⟨q0, q1, tw_K.same (U := U.calling g mk a) rfl q2⟩
theorem tw_after {H : Heap} {locs : List Loc} {ls : Array Slot} {st0 : List Value} {a : Array Value} {mc ms : Nat} {rv : Option Value} (hr : va_Run p l e R s m args below meth c H locs cells slots mc ms (F0 m pc ls st0) st (tw_Qc G rv σ1 a) (tw_A G)) (hS : va_S (tw_A G) s.heap H locs) (hl : lv_has ls nL lv)
    (kk : tw_X p l e R s m args below meth c nL G σ1 (cells + mc) (slots + ms) Q (pc + 3) lv (rv.toList ++ st)) : W p l e R s m args below meth c H locs cells slots Q (F0 m pc ls st0) := by
  intro T hT X
  obtain ⟨v, st₀, t, T', L, h0, X', hL, e1, e2, ⟨⟨hv, hR⟩, hz, hk⟩, stp⟩ := hr T hT X
  obtain rfl := Outcome.returned.inj hv
  rw [h0] at hz hk
  obtain ⟨t2, a1, b1⟩ := kk T'.heap (locs ++ L) ls (by rw [e1]; exact hR) ⟨Nat.le_trans hS.1 (by rw [e1]; exact hz), fun q h1 h2 => by rw [e1, hk q (Nat.lt_of_lt_of_le h1 hS.1) h2]; exact hS.2.1 q h1 h2, fun q hq => by
      rcases List.mem_append.mp hq with h | h
      · exact hS.2.2 q h
      · exact hL q h⟩ hl T' rfl X'
  exact ⟨t2, stp t2 a1, b1⟩
theorem tw_pre {H : Heap} {locs : List Loc} (h : tw_O p s m args meth c cc own nL ret G) (hR : tw_R G σ H) (hS : va_S (tw_A G) s.heap H locs) (av : List Value) : ∀ U : State, U.heap = H → s.WarmedH U.vm → va_Pc av (fun U => tw_R G σ U.heap ∧ tw_K G U U.heap) av.toArray U :=
  fun U hU hW => ⟨rfl, by rw [hU]; exact hR, by rw [hU]; exact h.2.2.2.2.2.2.2.moved hW hS.2.1⟩
theorem tw_callV {y : MethodName} {cc' : ByteArray} {maxL n t b idx mc ms : Nat} {ret' : Option FieldType} {rm : Room} {As st0 : List Value} {rv : Option Value} {r : vw_C} {u : Unit} (h : tw_O p s m args meth c cc own nL ret G) (hM : tw_M l G y cc' maxL ret' rm mc ms σ (.ref b :: As) rv σ1) (hC : tw_CF y cc' maxL ret' n) (ht : vwCl[t]? = some r) (hb : tw_is σ t b = some u)
    (hl : Cond.methodLink own idx y ∈ tw_W) (hi : Cond.instanceMethod y ∈ tw_W) (hse : Cond.selects r.1 y y ∈ tw_W) (hst : st0 = As.reverse ++ .ref b :: st) (hn : As.length = n) (hrc : rm.cells = mc) (hrs : rm.slots = ms) (hR : rm.frames + 1 ≤ R.frames ∧ 8 + (maxL + 11) + rm.locals ≤ R.locals) (hW : (st.map fun v => v.category).sum ≤ 8) (hcs : cells + mc ≤ R.cells ∧ slots + ms ≤ R.slots) (hd : decode cc pc = .ok (.invokevirtual idx, 3))
    (kk : tw_X p l e R s m args below meth c nL G σ1 (cells + mc) (slots + ms) Q (pc + 3) lv (rv.toList ++ st)) : tw_X p l e R s m args below meth c nL G σ cells slots Q pc lv st0 := by
  intro H locs ls hRR hS hlv
  obtain ⟨n0, hb0⟩ := tw_is_sp hb
  have hcb := (hRR.2.2 b t n0 hb0).2
  rw [tw_cell_o ht] at hcb
  obtain ⟨cellB, v1, v2, v3, -⟩ := hcb
  have hts := h.2.2.2.2.1
  have hfc := (h.2.2.2.2.2.2.2.1 t r ht).2.1
  exact tw_after (va_runV ⟨h.1, h.2.1, h.2.2.1, h.2.2.2.1, hts⟩ hM ⟨⟨hrc, hrs, hR.1, hR.2, tw_pay hts (fun w hw => (List.mem_cons.mp hw).elim (fun e => by rw [e]; exact hC.1) id), List.mem_cons_self, hts _ hC.1, hts _ hC.2.1, ⟨hC.2.2.1, hC.2.2.2.1⟩, fun sig hsig => by have := hC.2.2.2.2; rw [hsig] at this; exact (Option.some.inj this).symm, hts _ hl⟩, hts _ hi, hts _ hse⟩
    ⟨tw_blind, ⟨cellB, v1, by rw [v3]; rfl, by rw [v2]; exact hfc⟩, tw_pre h hRR hS _⟩ rfl hn hlv.1 hst (lv_room hW) hd hcs) hS hlv kk
theorem tw_callS {y : MethodName} {cc' : ByteArray} {maxL n idx mc ms : Nat} {ret' : Option FieldType} {rm : Room} {As st0 : List Value} {rv : Option Value} (h : tw_O p s m args meth c cc own nL ret G) (hM : tw_M l G y cc' maxL ret' rm mc ms σ As rv σ1) (hC : tw_CF y cc' maxL ret' n)
    (hl : Cond.methodLink own idx y ∈ tw_W) (hi : Cond.static y ∈ tw_W) (hst : st0 = As.reverse ++ st) (hn : As.length = n) (hrc : rm.cells = mc) (hrs : rm.slots = ms) (hR : rm.frames + 1 ≤ R.frames ∧ 8 + (maxL + 11) + rm.locals ≤ R.locals) (hW : (st.map fun v => v.category).sum ≤ 8) (hcs : cells + mc ≤ R.cells ∧ slots + ms ≤ R.slots) (hd : decode cc pc = .ok (.invokestatic idx, 3))
    (kk : tw_X p l e R s m args below meth c nL G σ1 (cells + mc) (slots + ms) Q (pc + 3) lv (rv.toList ++ st)) : tw_X p l e R s m args below meth c nL G σ cells slots Q pc lv st0 := by
  intro H locs ls hRR hS hlv
  have hts := h.2.2.2.2.1
  exact tw_after (va_runS ⟨h.1, h.2.1, h.2.2.1, h.2.2.2.1, hts⟩ hM ⟨⟨hrc, hrs, hR.1, hR.2, tw_pay hts (fun w hw => (List.mem_cons.mp hw).elim (fun e => by rw [e]; exact hC.1) id), List.mem_cons_self, hts _ hC.1, hts _ hC.2.1, ⟨hC.2.2.1, hC.2.2.2.1⟩, fun sig hsig => by have := hC.2.2.2.2; rw [hsig] at this; exact (Option.some.inj this).symm, hts _ hl⟩, hts _ hi⟩
    ⟨tw_blind, tw_pre h hRR hS _⟩ rfl hn hlv.1 hst (lv_room hW) hd hcs) hS hlv kk
theorem tw_callI {y : MethodName} {cc' : ByteArray} {maxL n b idx mc ms : Nat} {rm : Room} {As st0 : List Value} {rv : Option Value} (h : tw_O p s m args meth c cc own nL ret G) (hM : tw_M l G y cc' maxL none rm mc ms σ (.ref b :: As) rv σ1) (hC : tw_CF y cc' maxL none n) (hy : y.name = "<init>")
    (hl : Cond.methodLink own idx y ∈ tw_W) (hi : Cond.instanceMethod y ∈ tw_W) (hst : st0 = As.reverse ++ .ref b :: st) (hn : As.length = n) (hrc : rm.cells = mc) (hrs : rm.slots = ms) (hR : rm.frames + 1 ≤ R.frames ∧ 8 + (maxL + 11) + rm.locals ≤ R.locals) (hW : (st.map fun v => v.category).sum ≤ 8) (hcs : cells + mc ≤ R.cells ∧ slots + ms ≤ R.slots) (hd : decode cc pc = .ok (.invokespecial idx, 3))
    (kk : tw_X p l e R s m args below meth c nL G σ1 (cells + mc) (slots + ms) Q (pc + 3) lv (rv.toList ++ st)) : tw_X p l e R s m args below meth c nL G σ cells slots Q pc lv st0 := by
  intro H locs ls hRR hS hlv
  have hts := h.2.2.2.2.1
  exact tw_after (va_runI ⟨h.1, h.2.1, h.2.2.1, h.2.2.2.1, hts⟩ hM ⟨⟨hrc, hrs, hR.1, hR.2, tw_pay hts (fun w hw => (List.mem_cons.mp hw).elim (fun e => by rw [e]; exact hC.1) id), List.mem_cons_self, hts _ hC.1, hts _ hC.2.1, ⟨hC.2.2.1, hC.2.2.2.1⟩, fun sig hsig => by have := hC.2.2.2.2; rw [hsig] at this; exact (Option.some.inj this).symm, hts _ hl⟩, hy, hts _ hi⟩
    ⟨tw_blind, tw_pre h hRR hS _⟩ rfl hn hlv.1 hst (lv_room hW) hd hcs) hS hlv kk
theorem tw_callIN {y : MethodName} {host : String} {cc' : ByteArray} {maxL n b idx mc ms : Nat} {rm : Room} {As st0 : List Value} {rv : Option Value} (h : tw_O p s m args meth c cc own nL ret G) (hM : tw_M l G y cc' maxL none rm mc ms σ (.ref b :: As) rv σ1) (hC : tw_CF y cc' maxL none n) (hy : y.name = "<init>")
    (hl : va_Nw (.methodLinkNest own idx y host) s) (hi : Cond.instanceMethod y ∈ tw_W) (hst : st0 = As.reverse ++ .ref b :: st) (hn : As.length = n) (hrc : rm.cells = mc) (hrs : rm.slots = ms) (hR : rm.frames + 1 ≤ R.frames ∧ 8 + (maxL + 11) + rm.locals ≤ R.locals) (hW : (st.map fun v => v.category).sum ≤ 8) (hcs : cells + mc ≤ R.cells ∧ slots + ms ≤ R.slots) (hd : decode cc pc = .ok (.invokespecial idx, 3))
    (kk : tw_X p l e R s m args below meth c nL G σ1 (cells + mc) (slots + ms) Q (pc + 3) lv (rv.toList ++ st)) : tw_X p l e R s m args below meth c nL G σ cells slots Q pc lv st0 := by
  intro H locs ls hRR hS hlv
  have hts := h.2.2.2.2.1
  exact tw_after (va_runIN (host := host) ⟨h.1, h.2.1, h.2.2.1, h.2.2.2.1, hts⟩ hM ⟨⟨⟨hrc, hrs, hR.1, hR.2, tw_pay hts (fun w hw => (List.mem_cons.mp hw).elim (fun e => by rw [e]; exact hC.1) id), List.mem_cons_self⟩, hts _ hC.1, hts _ hC.2.1, ⟨hC.2.2.1, hC.2.2.2.1⟩, fun sig hsig => by have := hC.2.2.2.2; rw [hsig] at this; exact (Option.some.inj this).symm, va_Nw.use rfl hl⟩, hy, hts _ hi⟩
    ⟨tw_blind, tw_pre h hRR hS _⟩ rfl hn hlv.1 hst (lv_room hW) hd hcs) hS hlv kk
theorem tw_objI {b idx : Nat} (h : tw_O p s m args meth c cc own nL ret G) (hd : decode cc pc = .ok (.invokespecial idx, 3)) (hl : Cond.methodLink own idx objectInit ∈ tw_W) (hi : Cond.instanceMethod objectInit ∈ tw_W) (hc : Cond.code objectInit ⟨#[0xb1]⟩ 1 none ∈ tw_W) (hf : 1 ≤ R.frames) (hlo : (st.map fun v => v.category).sum + 12 ≤ R.locals)
    (kk : tw_X p l e R s m args below meth c nL G σ cells slots Q (pc + 3) lv st) : tw_X p l e R s m args below meth c nL G σ cells slots Q pc lv (.ref b :: st) := by
  intro H locs ls hRR hS hlv
  have hts := h.2.2.2.2.1
  exact W.objInit h.1 h.2.1 h.2.2.2.1 (hts _ hl) (hts _ hi) (hts _ hc) rfl (by rw [h.2.2.1]; exact hlv.1) rfl hd hf (by show 2 * 0 + _ + 12 ≤ _; omega) (kk H locs ls hRR hS hlv)
end TWN
end
section
section TWC
variable {p : Program} {l : Launch} {e : Env} {R : Room} {s : State} {m : MethodId} {args : Array Value} {below : List Frame} {meth : Method} {c : Code} {cells slots : Nat} {Q : State → Prop}
variable {cc : ByteArray} {own : String} {nL : Nat} {ret : Option FieldType} {G : tw_G} {σ σ1 : tw_St} {pc : Nat} {lv lv' : List (Nat × Value)} {st : List Value}

theorem tw_cVi {y : MethodName} {cc' : ByteArray} {maxL n t b idx : Nat} {ret' : Option FieldType} {rm : Room} {As st0 : List Value} {v : Int32} {r : vw_C} {u : Unit} (h : tw_O p s m args meth c cc own nL ret G) (hM : tw_M l G y cc' maxL ret' rm 0 0 σ (.ref b :: As) (some (.int v)) σ1) (hC : tw_CF y cc' maxL ret' n) (ht : vwCl[t]? = some r) (hb : tw_is σ t b = some u)
    (hl : Cond.methodLink own idx y ∈ tw_W) (hi : Cond.instanceMethod y ∈ tw_W) (hse : Cond.selects r.1 y y ∈ tw_W) (hst : st0 = As.reverse ++ .ref b :: st) (hn : As.length = n) (hrc : rm.cells = 0) (hrs : rm.slots = 0) (hR : rm.frames + 1 ≤ R.frames ∧ 8 + (maxL + 11) + rm.locals ≤ R.locals) (hW : (st.map fun v => v.category).sum ≤ 8) (hcs : cells ≤ R.cells ∧ slots ≤ R.slots) (hd : decode cc pc = .ok (.invokevirtual idx, 3))
    (kk : tw_X p l e R s m args below meth c nL G σ1 cells slots Q (pc + 3) lv (.int v :: st)) : tw_X p l e R s m args below meth c nL G σ cells slots Q pc lv st0 := tw_callV h hM hC ht hb hl hi hse hst hn hrc hrs hR hW hcs hd kk
theorem tw_cSi {y : MethodName} {cc' : ByteArray} {maxL n idx : Nat} {ret' : Option FieldType} {rm : Room} {As st0 : List Value} {v : Int32} (h : tw_O p s m args meth c cc own nL ret G) (hM : tw_M l G y cc' maxL ret' rm 0 0 σ As (some (.int v)) σ1) (hC : tw_CF y cc' maxL ret' n)
    (hl : Cond.methodLink own idx y ∈ tw_W) (hi : Cond.static y ∈ tw_W) (hst : st0 = As.reverse ++ st) (hn : As.length = n) (hrc : rm.cells = 0) (hrs : rm.slots = 0) (hR : rm.frames + 1 ≤ R.frames ∧ 8 + (maxL + 11) + rm.locals ≤ R.locals) (hW : (st.map fun v => v.category).sum ≤ 8) (hcs : cells ≤ R.cells ∧ slots ≤ R.slots) (hd : decode cc pc = .ok (.invokestatic idx, 3))
    (kk : tw_X p l e R s m args below meth c nL G σ1 cells slots Q (pc + 3) lv (.int v :: st)) : tw_X p l e R s m args below meth c nL G σ cells slots Q pc lv st0 := tw_callS h hM hC hl hi hst hn hrc hrs hR hW hcs hd kk
theorem tw_cVv {y : MethodName} {cc' : ByteArray} {maxL n t b idx : Nat} {ret' : Option FieldType} {rm : Room} {As st0 : List Value} {r : vw_C} {u : Unit} (h : tw_O p s m args meth c cc own nL ret G) (hM : tw_M l G y cc' maxL ret' rm 0 0 σ (.ref b :: As) none σ1) (hC : tw_CF y cc' maxL ret' n) (ht : vwCl[t]? = some r) (hb : tw_is σ t b = some u)
    (hl : Cond.methodLink own idx y ∈ tw_W) (hi : Cond.instanceMethod y ∈ tw_W) (hse : Cond.selects r.1 y y ∈ tw_W) (hst : st0 = As.reverse ++ .ref b :: st) (hn : As.length = n) (hrc : rm.cells = 0) (hrs : rm.slots = 0) (hR : rm.frames + 1 ≤ R.frames ∧ 8 + (maxL + 11) + rm.locals ≤ R.locals) (hW : (st.map fun v => v.category).sum ≤ 8) (hcs : cells ≤ R.cells ∧ slots ≤ R.slots) (hd : decode cc pc = .ok (.invokevirtual idx, 3))
    (kk : tw_X p l e R s m args below meth c nL G σ1 cells slots Q (pc + 3) lv (st)) : tw_X p l e R s m args below meth c nL G σ cells slots Q pc lv st0 := tw_callV h hM hC ht hb hl hi hse hst hn hrc hrs hR hW hcs hd kk
theorem tw_cSv {y : MethodName} {cc' : ByteArray} {maxL n idx : Nat} {ret' : Option FieldType} {rm : Room} {As st0 : List Value} (h : tw_O p s m args meth c cc own nL ret G) (hM : tw_M l G y cc' maxL ret' rm 0 0 σ As none σ1) (hC : tw_CF y cc' maxL ret' n)
    (hl : Cond.methodLink own idx y ∈ tw_W) (hi : Cond.static y ∈ tw_W) (hst : st0 = As.reverse ++ st) (hn : As.length = n) (hrc : rm.cells = 0) (hrs : rm.slots = 0) (hR : rm.frames + 1 ≤ R.frames ∧ 8 + (maxL + 11) + rm.locals ≤ R.locals) (hW : (st.map fun v => v.category).sum ≤ 8) (hcs : cells ≤ R.cells ∧ slots ≤ R.slots) (hd : decode cc pc = .ok (.invokestatic idx, 3))
    (kk : tw_X p l e R s m args below meth c nL G σ1 cells slots Q (pc + 3) lv (st)) : tw_X p l e R s m args below meth c nL G σ cells slots Q pc lv st0 := tw_callS h hM hC hl hi hst hn hrc hrs hR hW hcs hd kk
theorem tw_knA24 (h : tw_O p s m args meth c cc own nL ret G) : va_AO RX6 s := h.2.2.2.2.2.2.2.2.2.1.2.2.2.2.2.2.2.2.1
theorem tw_knA25 (h : tw_O p s m args meth c cc own nL ret G) : va_AO RX3 s := h.2.2.2.2.2.2.2.2.2.1.2.2.2.2.2.2.1
theorem tw_knA26 (h : tw_O p s m args meth c cc own nL ret G) : va_AO RX2 s := h.2.2.2.2.2.2.2.2.2.1.2.2.2.2.2.2.2.1
theorem tw_knN0 (h : tw_O p s m args meth c cc own nL ret G) : va_Nw (.methodLinkNest RX7 9 yX6_init RX7) s := h.2.2.2.2.2.2.2.2.2.1.1
theorem tw_knN1 (h : tw_O p s m args meth c cc own nL ret G) : va_Nw (.methodLinkNest RX6 17 yX3_init RX7) s := h.2.2.2.2.2.2.2.2.2.1.2.1
theorem tw_knN2 (h : tw_O p s m args meth c cc own nL ret G) : va_Nw (.methodLinkNest RX5 11 yX2_init RX7) s := h.2.2.2.2.2.2.2.2.2.1.2.2.1
theorem tw_knN3 (h : tw_O p s m args meth c cc own nL ret G) : va_Nw (.methodLinkNest RX7 33 yX1_init RX7) s := h.2.2.2.2.2.2.2.2.2.1.2.2.2.1
theorem tw_knN4 (h : tw_O p s m args meth c cc own nL ret G) : va_Nw (.methodLinkNest RX4 11 yX3_init RX7) s := h.2.2.2.2.2.2.2.2.2.1.2.2.2.2.1
theorem tw_knN5 (h : tw_O p s m args meth c cc own nL ret G) : va_Nw (.methodLinkNest RX0 17 yX6_init RX7) s := h.2.2.2.2.2.2.2.2.2.1.2.2.2.2.2.1
end TWC
end
section
theorem tw_w0 : Cond.selects RX2 yX2_stepOver yX2_stepOver ∈ tw_W := tw_in 0 (by decide +kernel) rfl
theorem tw_w1 : Cond.selects RX2 yX2_valueOf yX2_valueOf ∈ tw_W := tw_in 1 (by decide +kernel) rfl
theorem tw_w2 : Cond.selects RX2 yX2_give yX2_give ∈ tw_W := tw_in 2 (by decide +kernel) rfl
theorem tw_w3 : Cond.selects RX5 yX5_clear yX5_clear ∈ tw_W := tw_in 3 (by decide +kernel) rfl
theorem tw_w4 : Cond.selects RX5 yX5_hasStep yX5_hasStep ∈ tw_W := tw_in 4 (by decide +kernel) rfl
theorem tw_w5 : Cond.selects RX5 yX5_playTick yX5_playTick ∈ tw_W := tw_in 5 (by decide +kernel) rfl
theorem tw_w6 : Cond.selects RX5 yX5_hindranceOf yX5_hindranceOf ∈ tw_W := tw_in 6 (by decide +kernel) rfl
theorem tw_w7 : Cond.selects RX5 yX5_isReady yX5_isReady ∈ tw_W := tw_in 7 (by decide +kernel) rfl
theorem tw_w8 : Cond.selects RX5 yX5_starterNow yX5_starterNow ∈ tw_W := tw_in 8 (by decide +kernel) rfl
theorem tw_w9 : Cond.selects RX5 yX5_start yX5_start ∈ tw_W := tw_in 9 (by decide +kernel) rfl
theorem tw_w10 : Cond.selects RX4 yX4_readOrder yX4_readOrder ∈ tw_W := tw_in 10 (by decide +kernel) rfl
theorem tw_w11 : Cond.selects RX4 yX4_take yX4_take ∈ tw_W := tw_in 11 (by decide +kernel) rfl
theorem tw_w12 : Cond.selects RX4 yX4_readStore yX4_readStore ∈ tw_W := tw_in 12 (by decide +kernel) rfl
theorem tw_w13 : Cond.selects RX4 yX4_takeRegister yX4_takeRegister ∈ tw_W := tw_in 13 (by decide +kernel) rfl
theorem tw_w14 : Cond.selects RX4 yX4_takeFrom yX4_takeFrom ∈ tw_W := tw_in 14 (by decide +kernel) rfl
theorem tw_w15 : Cond.selects RX4 yX4_readNumber yX4_readNumber ∈ tw_W := tw_in 15 (by decide +kernel) rfl
theorem tw_w16 : Cond.selects RX4 yX4_readGiven yX4_readGiven ∈ tw_W := tw_in 16 (by decide +kernel) rfl
theorem tw_w17 : Cond.selects RX4 yX4_readLoad yX4_readLoad ∈ tw_W := tw_in 17 (by decide +kernel) rfl
theorem tw_w18 : Cond.selects RX4 yX4_takeSign yX4_takeSign ∈ tw_W := tw_in 18 (by decide +kernel) rfl
theorem tw_w19 : Cond.selects RX7 yX7_lengthByTurns yX7_lengthByTurns ∈ tw_W := tw_in 19 (by decide +kernel) rfl
theorem tw_w20 : Cond.selects RX7 yX7_lengthExchanged yX7_lengthExchanged ∈ tw_W := tw_in 20 (by decide +kernel) rfl
theorem tw_w21 : Cond.selects RX8 yX8_record yX8_record ∈ tw_W := tw_in 21 (by decide +kernel) rfl
theorem tw_w22 : Cond.selects RX8 yX8_faultOf yX8_faultOf ∈ tw_W := tw_in 22 (by decide +kernel) rfl
theorem tw_w23 : Cond.selects RX8 yX8_readOne yX8_readOne ∈ tw_W := tw_in 23 (by decide +kernel) rfl
theorem tw_w24 : Cond.selects RX8 yX8_sign yX8_sign ∈ tw_W := tw_in 24 (by decide +kernel) rfl
theorem tw_w25 : Cond.selects RX8 yX8_register yX8_register ∈ tw_W := tw_in 25 (by decide +kernel) rfl
theorem tw_w26 : Cond.selects RX8 yX8_between yX8_between ∈ tw_W := tw_in 26 (by decide +kernel) rfl
theorem tw_w27 : Cond.selects RX8 yX8_lay yX8_lay ∈ tw_W := tw_in 27 (by decide +kernel) rfl
theorem tw_w28 : Cond.selects RX8 yX8_number yX8_number ∈ tw_W := tw_in 28 (by decide +kernel) rfl
theorem tw_w29 : Cond.selects RX8 yX8_readValue yX8_readValue ∈ tw_W := tw_in 29 (by decide +kernel) rfl
theorem tw_w30 : Cond.selects RX8 yX8_many yX8_many ∈ tw_W := tw_in 30 (by decide +kernel) rfl
theorem tw_w31 : Cond.selects RX8 yX8_run yX8_run ∈ tw_W := tw_in 31 (by decide +kernel) rfl
theorem tw_w32 : Cond.selects RX8 yX8_goThrough yX8_goThrough ∈ tw_W := tw_in 32 (by decide +kernel) rfl
theorem tw_w33 : Cond.selects RX8 yX8_isOpen yX8_isOpen ∈ tw_W := tw_in 33 (by decide +kernel) rfl
theorem tw_w34 : Cond.selects RX8 yX8_starter yX8_starter ∈ tw_W := tw_in 34 (by decide +kernel) rfl
theorem tw_w35 : Cond.selects RX8 yX8_whyNot yX8_whyNot ∈ tw_W := tw_in 35 (by decide +kernel) rfl
theorem tw_w36 : Cond.selects RX8 yX8_of yX8_of ∈ tw_W := tw_in 36 (by decide +kernel) rfl
theorem tw_w37 : Cond.selects RX8 yX8_isReady yX8_isReady ∈ tw_W := tw_in 37 (by decide +kernel) rfl
theorem tw_w38 : Cond.selects RX8 yX8_latest yX8_latest ∈ tw_W := tw_in 38 (by decide +kernel) rfl
theorem tw_w39 : Cond.selects RX8 yX8_begin yX8_begin ∈ tw_W := tw_in 39 (by decide +kernel) rfl
theorem tw_w40 : Cond.selects RX8 yX8_does yX8_does ∈ tw_W := tw_in 40 (by decide +kernel) rfl
theorem tw_w41 : Cond.selects RX8 yX8_value yX8_value ∈ tw_W := tw_in 41 (by decide +kernel) rfl
theorem tw_w42 : Cond.selects RX8 yX8_lengthOf yX8_lengthOf ∈ tw_W := tw_in 42 (by decide +kernel) rfl
theorem tw_w43 : Cond.selects RX8 yX8_stepsOf yX8_stepsOf ∈ tw_W := tw_in 43 (by decide +kernel) rfl
theorem tw_w44 : Cond.selects RX8 yX8_isFixed yX8_isFixed ∈ tw_W := tw_in 44 (by decide +kernel) rfl
theorem tw_w45 : Cond.selects RX8 yX8_swap yX8_swap ∈ tw_W := tw_in 45 (by decide +kernel) rfl
theorem tw_w46 : Cond.selects RX8 yX8_areValuesSame yX8_areValuesSame ∈ tw_W := tw_in 46 (by decide +kernel) rfl
theorem tw_w48 : Cond.initialized RX7 ∈ tw_W := tw_in 48 (by decide +kernel) rfl
theorem tw_w49 : Cond.initialized RX6 ∈ tw_W := tw_in 49 (by decide +kernel) rfl
theorem tw_w50 : Cond.initialized RX3 ∈ tw_W := tw_in 50 (by decide +kernel) rfl
theorem tw_w51 : Cond.initialized RX5 ∈ tw_W := tw_in 51 (by decide +kernel) rfl
theorem tw_w52 : Cond.initialized RX2 ∈ tw_W := tw_in 52 (by decide +kernel) rfl
theorem tw_w53 : Cond.initialized RX1 ∈ tw_W := tw_in 53 (by decide +kernel) rfl
theorem tw_w54 : Cond.initialized RX4 ∈ tw_W := tw_in 54 (by decide +kernel) rfl
theorem tw_w55 : Cond.initialized RX0 ∈ tw_W := tw_in 55 (by decide +kernel) rfl
theorem tw_w56 : Cond.initialized RX8 ∈ tw_W := tw_in 56 (by decide +kernel) rfl
theorem tw_w57 : Cond.initialized "java/lang/System" ∈ tw_W := tw_in 57 (by decide +kernel) rfl
theorem tw_w58 : Cond.initialized RJ9 ∈ tw_W := tw_in 58 (by decide +kernel) rfl
theorem tw_w59 : Cond.classLink RL 7 RX7 ∈ tw_W := tw_in 59 (by decide +kernel) rfl
theorem tw_w60 : Cond.instantiable RX7 9 ∈ tw_W := tw_in 60 (by decide +kernel) rfl
theorem tw_w61 : Cond.methodLink RL 9 yX7_init ∈ tw_W := tw_in 61 (by decide +kernel) rfl
theorem tw_w62 : Cond.instanceMethod yX7_init ∈ tw_W := tw_in 62 (by decide +kernel) rfl
theorem tw_w63 : Cond.code yX7_init cX7_init 2 none ∈ tw_W := tw_in 63 (by decide +kernel) rfl
theorem tw_w64 : Cond.methodLink RX7 1 objectInit ∈ tw_W := tw_in 64 (by decide +kernel) rfl
theorem tw_w65 : Cond.instanceMethod objectInit ∈ tw_W := tw_in 65 (by decide +kernel) rfl
theorem tw_w66 : Cond.code objectInit ⟨#[0xb1]⟩ 1 none ∈ tw_W := tw_in 66 (by decide +kernel) rfl
theorem tw_w67 : Cond.classLink RX7 7 RX6 ∈ tw_W := tw_in 67 (by decide +kernel) rfl
theorem tw_w68 : Cond.instantiable RX6 3 ∈ tw_W := tw_in 68 (by decide +kernel) rfl
theorem tw_w70 : Cond.instanceMethod yX6_init ∈ tw_W := tw_in 70 (by decide +kernel) rfl
theorem tw_w71 : Cond.code yX6_init cX6_init 1 none ∈ tw_W := tw_in 71 (by decide +kernel) rfl
theorem tw_w72 : Cond.methodLink RX6 3 objectInit ∈ tw_W := tw_in 72 (by decide +kernel) rfl
theorem tw_w73 : Cond.classLink RX6 15 RX3 ∈ tw_W := tw_in 73 (by decide +kernel) rfl
theorem tw_w75 : Cond.instantiable RX3 2 ∈ tw_W := tw_in 75 (by decide +kernel) rfl
theorem tw_w77 : Cond.instanceMethod yX3_init ∈ tw_W := tw_in 77 (by decide +kernel) rfl
theorem tw_w78 : Cond.code yX3_init cX3_init 1 none ∈ tw_W := tw_in 78 (by decide +kernel) rfl
theorem tw_w79 : Cond.methodLink RX3 3 objectInit ∈ tw_W := tw_in 79 (by decide +kernel) rfl
theorem tw_w80 : Cond.fieldLink RX4 22 RX3 "size" "I" ∈ tw_W := tw_in 80 (by decide +kernel) rfl
theorem tw_w81 : Cond.fieldLink RX3 15 RX3 "size" "I" ∈ tw_W := tw_in 81 (by decide +kernel) rfl
theorem tw_w82 : Cond.fieldLink RX2 28 RX3 "size" "I" ∈ tw_W := tw_in 82 (by decide +kernel) rfl
theorem tw_w83 : Cond.fieldLink RX7 116 RX3 "size" "I" ∈ tw_W := tw_in 83 (by decide +kernel) rfl
theorem tw_w84 : Cond.fieldLink RX3 9 RX3 "table" "[I" ∈ tw_W := tw_in 84 (by decide +kernel) rfl
theorem tw_w90 : Cond.arrayClass .int ∈ tw_W := tw_in 90 (by decide +kernel) rfl
theorem tw_w91 : Cond.classLink RX6 22 "[[I" ∈ tw_W := tw_in 91 (by decide +kernel) rfl
theorem tw_w93 : Cond.fieldLink RX6 9 RX6 "settings" "[I" ∈ tw_W := tw_in 93 (by decide +kernel) rfl
theorem tw_w94 : Cond.fieldLink RX7 69 RX6 "settings" "[I" ∈ tw_W := tw_in 94 (by decide +kernel) rfl
theorem tw_w95 : Cond.fieldLink RX5 120 RX6 "settings" "[I" ∈ tw_W := tw_in 95 (by decide +kernel) rfl
theorem tw_w96 : Cond.fieldLink RX6 18 RX6 "programs" "[LTwinThreads$Program;" ∈ tw_W := tw_in 96 (by decide +kernel) rfl
theorem tw_w97 : Cond.fieldLink RX5 59 RX6 "programs" "[LTwinThreads$Program;" ∈ tw_W := tw_in 97 (by decide +kernel) rfl
theorem tw_w98 : Cond.fieldLink RX7 102 RX6 "programs" "[LTwinThreads$Program;" ∈ tw_W := tw_in 98 (by decide +kernel) rfl
theorem tw_w99 : Cond.fieldLink RX6 24 RX6 "firstValues" "[[I" ∈ tw_W := tw_in 99 (by decide +kernel) rfl
theorem tw_w100 : Cond.fieldLink RX5 65 RX6 "firstValues" "[[I" ∈ tw_W := tw_in 100 (by decide +kernel) rfl
theorem tw_w101 : Cond.fieldLink RX7 119 RX6 "firstValues" "[[I" ∈ tw_W := tw_in 101 (by decide +kernel) rfl
theorem tw_w109 : Cond.classLink RX7 16 RX5 ∈ tw_W := tw_in 109 (by decide +kernel) rfl
theorem tw_w110 : Cond.instantiable RX5 12 ∈ tw_W := tw_in 110 (by decide +kernel) rfl
theorem tw_w111 : Cond.methodLink RX7 18 yX5_init ∈ tw_W := tw_in 111 (by decide +kernel) rfl
theorem tw_w112 : Cond.instanceMethod yX5_init ∈ tw_W := tw_in 112 (by decide +kernel) rfl
theorem tw_w113 : Cond.code yX5_init cX5_init 2 none ∈ tw_W := tw_in 113 (by decide +kernel) rfl
theorem tw_w114 : Cond.methodLink RX5 3 objectInit ∈ tw_W := tw_in 114 (by decide +kernel) rfl
theorem tw_w115 : Cond.classLink RX5 9 RX2 ∈ tw_W := tw_in 115 (by decide +kernel) rfl
theorem tw_w117 : Cond.instantiable RX2 4 ∈ tw_W := tw_in 117 (by decide +kernel) rfl
theorem tw_w119 : Cond.instanceMethod yX2_init ∈ tw_W := tw_in 119 (by decide +kernel) rfl
theorem tw_w120 : Cond.code yX2_init cX2_init 1 none ∈ tw_W := tw_in 120 (by decide +kernel) rfl
theorem tw_w121 : Cond.methodLink RX2 3 objectInit ∈ tw_W := tw_in 121 (by decide +kernel) rfl
theorem tw_w122 : Cond.fieldLink RX2 24 RX2 "steps" "I" ∈ tw_W := tw_in 122 (by decide +kernel) rfl
theorem tw_w123 : Cond.fieldLink RX5 85 RX2 "steps" "I" ∈ tw_W := tw_in 123 (by decide +kernel) rfl
theorem tw_w124 : Cond.fieldLink RX2 37 RX2 "stopped" "Z" ∈ tw_W := tw_in 124 (by decide +kernel) rfl
theorem tw_w125 : Cond.fieldLink RX7 142 RX2 "stopped" "Z" ∈ tw_W := tw_in 125 (by decide +kernel) rfl
theorem tw_w126 : Cond.fieldLink RX2 9 RX2 "orders" "[I" ∈ tw_W := tw_in 126 (by decide +kernel) rfl
theorem tw_w127 : Cond.fieldLink RX5 100 RX2 "orders" "[I" ∈ tw_W := tw_in 127 (by decide +kernel) rfl
theorem tw_w128 : Cond.fieldLink RX7 164 RX2 "orders" "[I" ∈ tw_W := tw_in 128 (by decide +kernel) rfl
theorem tw_w129 : Cond.fieldLink RX2 15 RX2 "values" "[I" ∈ tw_W := tw_in 129 (by decide +kernel) rfl
theorem tw_w130 : Cond.fieldLink RX7 158 RX2 "values" "[I" ∈ tw_W := tw_in 130 (by decide +kernel) rfl
theorem tw_w140 : Cond.classLink RX5 25 "[[I" ∈ tw_W := tw_in 140 (by decide +kernel) rfl
theorem tw_w141 : Cond.fieldLink RX5 12 RX5 "paths" "[LTwinThreads$Path;" ∈ tw_W := tw_in 141 (by decide +kernel) rfl
theorem tw_w142 : Cond.fieldLink RX7 138 RX5 "paths" "[LTwinThreads$Path;" ∈ tw_W := tw_in 142 (by decide +kernel) rfl
theorem tw_w143 : Cond.fieldLink RX5 18 RX5 "started" "[I" ∈ tw_W := tw_in 143 (by decide +kernel) rfl
theorem tw_w144 : Cond.fieldLink RX7 132 RX5 "started" "[I" ∈ tw_W := tw_in 144 (by decide +kernel) rfl
theorem tw_w145 : Cond.fieldLink RX5 22 RX5 "lengths" "[I" ∈ tw_W := tw_in 145 (by decide +kernel) rfl
theorem tw_w146 : Cond.fieldLink RX7 135 RX5 "lengths" "[I" ∈ tw_W := tw_in 146 (by decide +kernel) rfl
theorem tw_w147 : Cond.fieldLink RX5 27 RX5 "starts" "[[I" ∈ tw_W := tw_in 147 (by decide +kernel) rfl
theorem tw_w148 : Cond.fieldLink RX7 161 RX5 "starts" "[[I" ∈ tw_W := tw_in 148 (by decide +kernel) rfl
theorem tw_w149 : Cond.fieldLink RX5 30 RX5 "ends" "[[I" ∈ tw_W := tw_in 149 (by decide +kernel) rfl
theorem tw_w150 : Cond.fieldLink RX7 166 RX5 "ends" "[[I" ∈ tw_W := tw_in 150 (by decide +kernel) rfl
theorem tw_w151 : Cond.fieldLink RX5 33 RX5 "waits" "[[I" ∈ tw_W := tw_in 151 (by decide +kernel) rfl
theorem tw_w152 : Cond.fieldLink RX7 148 RX5 "waits" "[[I" ∈ tw_W := tw_in 152 (by decide +kernel) rfl
theorem tw_w153 : Cond.fieldLink RX5 48 RX5 "state" "LTwinThreads$State;" ∈ tw_W := tw_in 153 (by decide +kernel) rfl
theorem tw_w154 : Cond.fieldLink RX5 36 RX5 "hindrances" "[I" ∈ tw_W := tw_in 154 (by decide +kernel) rfl
theorem tw_w155 : Cond.fieldLink RX5 39 RX5 "readyAt" "[[I" ∈ tw_W := tw_in 155 (by decide +kernel) rfl
theorem tw_w156 : Cond.fieldLink RX5 42 RX5 "roomFreeAt" "[I" ∈ tw_W := tw_in 156 (by decide +kernel) rfl
theorem tw_w157 : Cond.fieldLink RX5 45 RX5 "roomUser" "[I" ∈ tw_W := tw_in 157 (by decide +kernel) rfl
theorem tw_w158 : Cond.fieldLink RX5 71 RX5 "openRoom" "I" ∈ tw_W := tw_in 158 (by decide +kernel) rfl
theorem tw_w184 : Cond.classLink RX7 31 RX1 ∈ tw_W := tw_in 184 (by decide +kernel) rfl
theorem tw_w185 : Cond.instantiable RX1 2 ∈ tw_W := tw_in 185 (by decide +kernel) rfl
theorem tw_w187 : Cond.instanceMethod yX1_init ∈ tw_W := tw_in 187 (by decide +kernel) rfl
theorem tw_w188 : Cond.code yX1_init cX1_init 1 none ∈ tw_W := tw_in 188 (by decide +kernel) rfl
theorem tw_w189 : Cond.methodLink RX1 3 objectInit ∈ tw_W := tw_in 189 (by decide +kernel) rfl
theorem tw_w190 : Cond.fieldLink RX4 36 RX1 "length" "I" ∈ tw_W := tw_in 190 (by decide +kernel) rfl
theorem tw_w191 : Cond.fieldLink RX1 21 RX1 "length" "I" ∈ tw_W := tw_in 191 (by decide +kernel) rfl
theorem tw_w192 : Cond.fieldLink RX7 83 RX1 "length" "I" ∈ tw_W := tw_in 192 (by decide +kernel) rfl
theorem tw_w193 : Cond.fieldLink RX1 9 RX1 "text" "[C" ∈ tw_W := tw_in 193 (by decide +kernel) rfl
theorem tw_w199 : Cond.arrayClass .char ∈ tw_W := tw_in 199 (by decide +kernel) rfl
theorem tw_w200 : Cond.classLink RX7 38 RX4 ∈ tw_W := tw_in 200 (by decide +kernel) rfl
theorem tw_w201 : Cond.instantiable RX4 4 ∈ tw_W := tw_in 201 (by decide +kernel) rfl
theorem tw_w202 : Cond.methodLink RX7 40 yX4_init ∈ tw_W := tw_in 202 (by decide +kernel) rfl
theorem tw_w203 : Cond.instanceMethod yX4_init ∈ tw_W := tw_in 203 (by decide +kernel) rfl
theorem tw_w204 : Cond.code yX4_init cX4_init 2 none ∈ tw_W := tw_in 204 (by decide +kernel) rfl
theorem tw_w205 : Cond.methodLink RX4 3 objectInit ∈ tw_W := tw_in 205 (by decide +kernel) rfl
theorem tw_w206 : Cond.classLink RX4 9 RX3 ∈ tw_W := tw_in 206 (by decide +kernel) rfl
theorem tw_w208 : Cond.fieldLink RX4 12 RX4 "program" "LTwinThreads$Program;" ∈ tw_W := tw_in 208 (by decide +kernel) rfl
theorem tw_w209 : Cond.fieldLink RX7 106 RX4 "program" "LTwinThreads$Program;" ∈ tw_W := tw_in 209 (by decide +kernel) rfl
theorem tw_w210 : Cond.fieldLink RX4 26 RX4 "orders" "I" ∈ tw_W := tw_in 210 (by decide +kernel) rfl
theorem tw_w211 : Cond.fieldLink RX7 99 RX4 "orders" "I" ∈ tw_W := tw_in 211 (by decide +kernel) rfl
theorem tw_w212 : Cond.fieldLink RX4 18 RX4 "pad" "LTwinThreads$Pad;" ∈ tw_W := tw_in 212 (by decide +kernel) rfl
theorem tw_w213 : Cond.fieldLink RX4 29 RX4 "index" "I" ∈ tw_W := tw_in 213 (by decide +kernel) rfl
theorem tw_w223 : Cond.classLink RX7 47 RX0 ∈ tw_W := tw_in 223 (by decide +kernel) rfl
theorem tw_w224 : Cond.instantiable RX0 3 ∈ tw_W := tw_in 224 (by decide +kernel) rfl
theorem tw_w225 : Cond.methodLink RX7 49 yX0_init ∈ tw_W := tw_in 225 (by decide +kernel) rfl
theorem tw_w226 : Cond.instanceMethod yX0_init ∈ tw_W := tw_in 226 (by decide +kernel) rfl
theorem tw_w227 : Cond.code yX0_init cX0_init 2 none ∈ tw_W := tw_in 227 (by decide +kernel) rfl
theorem tw_w228 : Cond.methodLink RX0 3 objectInit ∈ tw_W := tw_in 228 (by decide +kernel) rfl
theorem tw_w229 : Cond.classLink RX0 9 RX6 ∈ tw_W := tw_in 229 (by decide +kernel) rfl
theorem tw_w232 : Cond.fieldLink RX0 22 RX0 "size" "I" ∈ tw_W := tw_in 232 (by decide +kernel) rfl
theorem tw_w233 : Cond.fieldLink RX7 181 RX0 "size" "I" ∈ tw_W := tw_in 233 (by decide +kernel) rfl
theorem tw_w234 : Cond.fieldLink RX0 18 RX0 "oldest" "I" ∈ tw_W := tw_in 234 (by decide +kernel) rfl
theorem tw_w235 : Cond.fieldLink RX0 11 RX0 "states" "[LTwinThreads$State;" ∈ tw_W := tw_in 235 (by decide +kernel) rfl
theorem tw_w243 : Cond.fieldLink RX7 10 RX7 "now" "LTwinThreads$State;" ∈ tw_W := tw_in 243 (by decide +kernel) rfl
theorem tw_w244 : Cond.fieldLink RX7 21 RX7 "run" "LTwinThreads$Run;" ∈ tw_W := tw_in 244 (by decide +kernel) rfl
theorem tw_w245 : Cond.fieldLink RX7 25 RX7 "trial" "LTwinThreads$State;" ∈ tw_W := tw_in 245 (by decide +kernel) rfl
theorem tw_w246 : Cond.fieldLink RX7 28 RX7 "trialRun" "LTwinThreads$Run;" ∈ tw_W := tw_in 246 (by decide +kernel) rfl
theorem tw_w247 : Cond.fieldLink RX7 34 RX7 "pad" "LTwinThreads$Pad;" ∈ tw_W := tw_in 247 (by decide +kernel) rfl
theorem tw_w248 : Cond.fieldLink RX7 43 RX7 "reader" "LTwinThreads$Reader;" ∈ tw_W := tw_in 248 (by decide +kernel) rfl
theorem tw_w249 : Cond.fieldLink RX7 50 RX7 "history" "LTwinThreads$History;" ∈ tw_W := tw_in 249 (by decide +kernel) rfl
theorem tw_w250 : Cond.fieldLink RX7 54 RX7 "slots" "[LTwinThreads$State;" ∈ tw_W := tw_in 250 (by decide +kernel) rfl
theorem tw_w251 : Cond.fieldLink RX7 58 RX7 "saved" "[Z" ∈ tw_W := tw_in 251 (by decide +kernel) rfl
theorem tw_w271 : Cond.arrayClass .boolean ∈ tw_W := tw_in 271 (by decide +kernel) rfl
theorem tw_w272 : Cond.methodLink RL 13 yX7_set ∈ tw_W := tw_in 272 (by decide +kernel) rfl
theorem tw_w273 : Cond.instanceMethod yX7_set ∈ tw_W := tw_in 273 (by decide +kernel) rfl
theorem tw_w274 : Cond.selects RX7 yX7_set yX7_set ∈ tw_W := tw_in 274 (by decide +kernel) rfl
theorem tw_w275 : Cond.code yX7_set cX7_set 4 (some .int) ∈ tw_W := tw_in 275 (by decide +kernel) rfl
theorem tw_w276 : Cond.fieldLink RX7 62 RX7 "LOWEST" "[I" ∈ tw_W := tw_in 276 (by decide +kernel) rfl
theorem tw_w278 : Cond.fieldLink RX7 66 RX7 "HIGHEST" "[I" ∈ tw_W := tw_in 278 (by decide +kernel) rfl
theorem tw_w280 : Cond.methodLink RX7 72 yX0_record ∈ tw_W := tw_in 280 (by decide +kernel) rfl
theorem tw_w281 : Cond.instanceMethod yX0_record ∈ tw_W := tw_in 281 (by decide +kernel) rfl
theorem tw_w282 : Cond.selects RX0 yX0_record yX0_record ∈ tw_W := tw_in 282 (by decide +kernel) rfl
theorem tw_w283 : Cond.code yX0_record cX0_record 2 none ∈ tw_W := tw_in 283 (by decide +kernel) rfl
theorem tw_w284 : Cond.methodLink RX0 25 yX6_copyFrom ∈ tw_W := tw_in 284 (by decide +kernel) rfl
theorem tw_w285 : Cond.instanceMethod yX6_copyFrom ∈ tw_W := tw_in 285 (by decide +kernel) rfl
theorem tw_w286 : Cond.selects RX6 yX6_copyFrom yX6_copyFrom ∈ tw_W := tw_in 286 (by decide +kernel) rfl
theorem tw_w287 : Cond.code yX6_copyFrom cX6_copyFrom 3 none ∈ tw_W := tw_in 287 (by decide +kernel) rfl
theorem tw_w288 : Cond.methodLink RX6 27 arraycopyName ∈ tw_W := tw_in 288 (by decide +kernel) rfl
theorem tw_w289 : Cond.static arraycopyName ∈ tw_W := tw_in 289 (by decide +kernel) rfl
theorem tw_w290 : Cond.native arraycopyName ∈ tw_W := tw_in 290 (by decide +kernel) rfl
theorem tw_w291 : Cond.methodLink RX6 33 yX3_copyFrom ∈ tw_W := tw_in 291 (by decide +kernel) rfl
theorem tw_w292 : Cond.instanceMethod yX3_copyFrom ∈ tw_W := tw_in 292 (by decide +kernel) rfl
theorem tw_w293 : Cond.selects RX3 yX3_copyFrom yX3_copyFrom ∈ tw_W := tw_in 293 (by decide +kernel) rfl
theorem tw_w294 : Cond.code yX3_copyFrom cX3_copyFrom 2 none ∈ tw_W := tw_in 294 (by decide +kernel) rfl
theorem tw_w295 : Cond.methodLink RX3 19 arraycopyName ∈ tw_W := tw_in 295 (by decide +kernel) rfl
theorem tw_w296 : Cond.methodLink RX7 75 yX5_play ∈ tw_W := tw_in 296 (by decide +kernel) rfl
theorem tw_w297 : Cond.instanceMethod yX5_play ∈ tw_W := tw_in 297 (by decide +kernel) rfl
theorem tw_w298 : Cond.selects RX5 yX5_play yX5_play ∈ tw_W := tw_in 298 (by decide +kernel) rfl
theorem tw_w299 : Cond.code yX5_play cX5_play 2 none ∈ tw_W := tw_in 299 (by decide +kernel) rfl
theorem tw_w300 : Cond.methodLink RX5 52 yX5_follow ∈ tw_W := tw_in 300 (by decide +kernel) rfl
theorem tw_w301 : Cond.instanceMethod yX5_follow ∈ tw_W := tw_in 301 (by decide +kernel) rfl
theorem tw_w302 : Cond.selects RX5 yX5_follow yX5_follow ∈ tw_W := tw_in 302 (by decide +kernel) rfl
theorem tw_w303 : Cond.code yX5_follow cX5_follow 2 none ∈ tw_W := tw_in 303 (by decide +kernel) rfl
theorem tw_w304 : Cond.methodLink RX5 68 yX2_follow ∈ tw_W := tw_in 304 (by decide +kernel) rfl
theorem tw_w305 : Cond.instanceMethod yX2_follow ∈ tw_W := tw_in 305 (by decide +kernel) rfl
theorem tw_w306 : Cond.selects RX2 yX2_follow yX2_follow ∈ tw_W := tw_in 306 (by decide +kernel) rfl
theorem tw_w307 : Cond.code yX2_follow cX2_follow 4 none ∈ tw_W := tw_in 307 (by decide +kernel) rfl
theorem tw_w308 : Cond.methodLink RX2 18 arraycopyName ∈ tw_W := tw_in 308 (by decide +kernel) rfl
theorem tw_w309 : Cond.methodLink RX2 33 yX2_stepOver ∈ tw_W := tw_in 309 (by decide +kernel) rfl
theorem tw_w311 : Cond.instanceMethod yX2_stepOver ∈ tw_W := tw_in 311 (by decide +kernel) rfl
theorem tw_w312 : Cond.code yX2_stepOver cX2_stepOver 7 (some .int) ∈ tw_W := tw_in 312 (by decide +kernel) rfl
theorem tw_w313 : Cond.methodLink RX2 41 yX3_told ∈ tw_W := tw_in 313 (by decide +kernel) rfl
theorem tw_w314 : Cond.instanceMethod yX3_told ∈ tw_W := tw_in 314 (by decide +kernel) rfl
theorem tw_w315 : Cond.selects RX3 yX3_told yX3_told ∈ tw_W := tw_in 315 (by decide +kernel) rfl
theorem tw_w316 : Cond.code yX3_told cX3_told 3 (some .int) ∈ tw_W := tw_in 316 (by decide +kernel) rfl
theorem tw_w317 : Cond.methodLink RX2 45 yX2_valueOf ∈ tw_W := tw_in 317 (by decide +kernel) rfl
theorem tw_w319 : Cond.instanceMethod yX2_valueOf ∈ tw_W := tw_in 319 (by decide +kernel) rfl
theorem tw_w320 : Cond.code yX2_valueOf cX2_valueOf 2 (some .int) ∈ tw_W := tw_in 320 (by decide +kernel) rfl
theorem tw_w321 : Cond.methodLink RX2 49 yX2_give ∈ tw_W := tw_in 321 (by decide +kernel) rfl
theorem tw_w323 : Cond.instanceMethod yX2_give ∈ tw_W := tw_in 323 (by decide +kernel) rfl
theorem tw_w324 : Cond.code yX2_give cX2_give 3 none ∈ tw_W := tw_in 324 (by decide +kernel) rfl
theorem tw_w325 : Cond.methodLink RX2 56 yJ9_floorMod_7cf53 ∈ tw_W := tw_in 325 (by decide +kernel) rfl
theorem tw_w326 : Cond.static yJ9_floorMod_7cf53 ∈ tw_W := tw_in 326 (by decide +kernel) rfl
theorem tw_w327 : Cond.code yJ9_floorMod_7cf53 cJ9_floorMod_7cf53 3 (some .int) ∈ tw_W := tw_in 327 (by decide +kernel) rfl
theorem tw_w328 : Cond.methodLink RX2 53 yX2_placeOfCell ∈ tw_W := tw_in 328 (by decide +kernel) rfl
theorem tw_w329 : Cond.static yX2_placeOfCell ∈ tw_W := tw_in 329 (by decide +kernel) rfl
theorem tw_w330 : Cond.code yX2_placeOfCell cX2_placeOfCell 1 (some .int) ∈ tw_W := tw_in 330 (by decide +kernel) rfl
theorem tw_w331 : Cond.methodLink RX5 55 yX5_schedule ∈ tw_W := tw_in 331 (by decide +kernel) rfl
theorem tw_w332 : Cond.instanceMethod yX5_schedule ∈ tw_W := tw_in 332 (by decide +kernel) rfl
theorem tw_w333 : Cond.selects RX5 yX5_schedule yX5_schedule ∈ tw_W := tw_in 333 (by decide +kernel) rfl
theorem tw_w334 : Cond.code yX5_schedule cX5_schedule 3 none ∈ tw_W := tw_in 334 (by decide +kernel) rfl
theorem tw_w335 : Cond.methodLink RX5 75 yX5_clear ∈ tw_W := tw_in 335 (by decide +kernel) rfl
theorem tw_w337 : Cond.instanceMethod yX5_clear ∈ tw_W := tw_in 337 (by decide +kernel) rfl
theorem tw_w338 : Cond.code yX5_clear cX5_clear 3 none ∈ tw_W := tw_in 338 (by decide +kernel) rfl
theorem tw_w339 : Cond.methodLink RX5 78 yX5_hasStep ∈ tw_W := tw_in 339 (by decide +kernel) rfl
theorem tw_w341 : Cond.instanceMethod yX5_hasStep ∈ tw_W := tw_in 341 (by decide +kernel) rfl
theorem tw_w342 : Cond.code yX5_hasStep cX5_hasStep 2 (some .boolean) ∈ tw_W := tw_in 342 (by decide +kernel) rfl
theorem tw_w343 : Cond.methodLink RX5 82 yX5_playTick ∈ tw_W := tw_in 343 (by decide +kernel) rfl
theorem tw_w345 : Cond.instanceMethod yX5_playTick ∈ tw_W := tw_in 345 (by decide +kernel) rfl
theorem tw_w346 : Cond.code yX5_playTick cX5_playTick 5 none ∈ tw_W := tw_in 346 (by decide +kernel) rfl
theorem tw_w347 : Cond.methodLink RX5 88 yX5_hindranceOf ∈ tw_W := tw_in 347 (by decide +kernel) rfl
theorem tw_w349 : Cond.instanceMethod yX5_hindranceOf ∈ tw_W := tw_in 349 (by decide +kernel) rfl
theorem tw_w350 : Cond.code yX5_hindranceOf cX5_hindranceOf 6 (some .int) ∈ tw_W := tw_in 350 (by decide +kernel) rfl
theorem tw_w351 : Cond.methodLink RX5 103 yX3_told ∈ tw_W := tw_in 351 (by decide +kernel) rfl
theorem tw_w352 : Cond.methodLink RX5 108 yX5_isReady ∈ tw_W := tw_in 352 (by decide +kernel) rfl
theorem tw_w354 : Cond.instanceMethod yX5_isReady ∈ tw_W := tw_in 354 (by decide +kernel) rfl
theorem tw_w355 : Cond.code yX5_isReady cX5_isReady 4 (some .boolean) ∈ tw_W := tw_in 355 (by decide +kernel) rfl
theorem tw_w356 : Cond.methodLink RX5 112 yX3_roomOf ∈ tw_W := tw_in 356 (by decide +kernel) rfl
theorem tw_w357 : Cond.instanceMethod yX3_roomOf ∈ tw_W := tw_in 357 (by decide +kernel) rfl
theorem tw_w358 : Cond.selects RX3 yX3_roomOf yX3_roomOf ∈ tw_W := tw_in 358 (by decide +kernel) rfl
theorem tw_w359 : Cond.code yX3_roomOf cX3_roomOf 2 (some .int) ∈ tw_W := tw_in 359 (by decide +kernel) rfl
theorem tw_w360 : Cond.methodLink RX3 25 yX3_told ∈ tw_W := tw_in 360 (by decide +kernel) rfl
theorem tw_w361 : Cond.methodLink RX5 92 yX5_starterNow ∈ tw_W := tw_in 361 (by decide +kernel) rfl
theorem tw_w363 : Cond.instanceMethod yX5_starterNow ∈ tw_W := tw_in 363 (by decide +kernel) rfl
theorem tw_w364 : Cond.code yX5_starterNow cX5_starterNow 6 (some .int) ∈ tw_W := tw_in 364 (by decide +kernel) rfl
theorem tw_w365 : Cond.methodLink RX5 115 yJ9_floorMod_7cf53 ∈ tw_W := tw_in 365 (by decide +kernel) rfl
theorem tw_w366 : Cond.methodLink RX5 123 yX5_latestStart ∈ tw_W := tw_in 366 (by decide +kernel) rfl
theorem tw_w367 : Cond.instanceMethod yX5_latestStart ∈ tw_W := tw_in 367 (by decide +kernel) rfl
theorem tw_w368 : Cond.selects RX5 yX5_latestStart yX5_latestStart ∈ tw_W := tw_in 368 (by decide +kernel) rfl
theorem tw_w369 : Cond.code yX5_latestStart cX5_latestStart 3 (some .int) ∈ tw_W := tw_in 369 (by decide +kernel) rfl
theorem tw_w370 : Cond.methodLink RX5 96 yX5_start ∈ tw_W := tw_in 370 (by decide +kernel) rfl
theorem tw_w372 : Cond.instanceMethod yX5_start ∈ tw_W := tw_in 372 (by decide +kernel) rfl
theorem tw_w373 : Cond.code yX5_start cX5_start 8 none ∈ tw_W := tw_in 373 (by decide +kernel) rfl
theorem tw_w374 : Cond.methodLink RX5 126 yX6_ticksFor ∈ tw_W := tw_in 374 (by decide +kernel) rfl
theorem tw_w375 : Cond.instanceMethod yX6_ticksFor ∈ tw_W := tw_in 375 (by decide +kernel) rfl
theorem tw_w376 : Cond.selects RX6 yX6_ticksFor yX6_ticksFor ∈ tw_W := tw_in 376 (by decide +kernel) rfl
theorem tw_w377 : Cond.code yX6_ticksFor cX6_ticksFor 2 (some .int) ∈ tw_W := tw_in 377 (by decide +kernel) rfl
theorem tw_w378 : Cond.methodLink RX5 129 yJ9_max_7cf53 ∈ tw_W := tw_in 378 (by decide +kernel) rfl
theorem tw_w379 : Cond.static yJ9_max_7cf53 ∈ tw_W := tw_in 379 (by decide +kernel) rfl
theorem tw_w380 : Cond.code yJ9_max_7cf53 cJ9_max_7cf53 2 (some .int) ∈ tw_W := tw_in 380 (by decide +kernel) rfl
theorem tw_w381 : Cond.methodLink RX5 132 yX3_givenBy ∈ tw_W := tw_in 381 (by decide +kernel) rfl
theorem tw_w382 : Cond.instanceMethod yX3_givenBy ∈ tw_W := tw_in 382 (by decide +kernel) rfl
theorem tw_w383 : Cond.selects RX3 yX3_givenBy yX3_givenBy ∈ tw_W := tw_in 383 (by decide +kernel) rfl
theorem tw_w384 : Cond.code yX3_givenBy cX3_givenBy 3 (some .int) ∈ tw_W := tw_in 384 (by decide +kernel) rfl
theorem tw_w385 : Cond.methodLink RL 20 yX7_put ∈ tw_W := tw_in 385 (by decide +kernel) rfl
theorem tw_w386 : Cond.instanceMethod yX7_put ∈ tw_W := tw_in 386 (by decide +kernel) rfl
theorem tw_w387 : Cond.selects RX7 yX7_put yX7_put ∈ tw_W := tw_in 387 (by decide +kernel) rfl
theorem tw_w388 : Cond.code yX7_put cX7_put 4 (some .int) ∈ tw_W := tw_in 388 (by decide +kernel) rfl
theorem tw_w389 : Cond.methodLink RX7 79 yX1_charactersIn ∈ tw_W := tw_in 389 (by decide +kernel) rfl
theorem tw_w390 : Cond.static yX1_charactersIn ∈ tw_W := tw_in 390 (by decide +kernel) rfl
theorem tw_w391 : Cond.code yX1_charactersIn cX1_charactersIn 7 (some .int) ∈ tw_W := tw_in 391 (by decide +kernel) rfl
theorem tw_w392 : Cond.constantLong RX1 15 (255) ∈ tw_W := tw_in 392 (by decide +kernel) rfl
theorem tw_w393 : Cond.constantLong RX1 17 (33) ∈ tw_W := tw_in 393 (by decide +kernel) rfl
theorem tw_w394 : Cond.constantLong RX1 19 (126) ∈ tw_W := tw_in 394 (by decide +kernel) rfl
theorem tw_w395 : Cond.methodLink RX7 87 yX1_append ∈ tw_W := tw_in 395 (by decide +kernel) rfl
theorem tw_w396 : Cond.instanceMethod yX1_append ∈ tw_W := tw_in 396 (by decide +kernel) rfl
theorem tw_w397 : Cond.selects RX1 yX1_append yX1_append ∈ tw_W := tw_in 397 (by decide +kernel) rfl
theorem tw_w398 : Cond.code yX1_append cX1_append 5 none ∈ tw_W := tw_in 398 (by decide +kernel) rfl
theorem tw_w399 : Cond.methodLink RL 25 yX7_wipe ∈ tw_W := tw_in 399 (by decide +kernel) rfl
theorem tw_w400 : Cond.instanceMethod yX7_wipe ∈ tw_W := tw_in 400 (by decide +kernel) rfl
theorem tw_w401 : Cond.selects RX7 yX7_wipe yX7_wipe ∈ tw_W := tw_in 401 (by decide +kernel) rfl
theorem tw_w402 : Cond.code yX7_wipe cX7_wipe 2 (some .int) ∈ tw_W := tw_in 402 (by decide +kernel) rfl
theorem tw_w403 : Cond.methodLink RL 30 yX7_fault ∈ tw_W := tw_in 403 (by decide +kernel) rfl
theorem tw_w404 : Cond.instanceMethod yX7_fault ∈ tw_W := tw_in 404 (by decide +kernel) rfl
theorem tw_w405 : Cond.selects RX7 yX7_fault yX7_fault ∈ tw_W := tw_in 405 (by decide +kernel) rfl
theorem tw_w406 : Cond.code yX7_fault cX7_fault 1 (some .int) ∈ tw_W := tw_in 406 (by decide +kernel) rfl
theorem tw_w407 : Cond.methodLink RX7 91 yX4_read ∈ tw_W := tw_in 407 (by decide +kernel) rfl
theorem tw_w408 : Cond.instanceMethod yX4_read ∈ tw_W := tw_in 408 (by decide +kernel) rfl
theorem tw_w409 : Cond.selects RX4 yX4_read yX4_read ∈ tw_W := tw_in 409 (by decide +kernel) rfl
theorem tw_w410 : Cond.code yX4_read cX4_read 2 (some .int) ∈ tw_W := tw_in 410 (by decide +kernel) rfl
theorem tw_w411 : Cond.methodLink RX4 32 yX4_readOrder ∈ tw_W := tw_in 411 (by decide +kernel) rfl
theorem tw_w413 : Cond.instanceMethod yX4_readOrder ∈ tw_W := tw_in 413 (by decide +kernel) rfl
theorem tw_w414 : Cond.code yX4_readOrder cX4_readOrder 2 (some .boolean) ∈ tw_W := tw_in 414 (by decide +kernel) rfl
theorem tw_w415 : Cond.methodLink RX4 41 yX4_take ∈ tw_W := tw_in 415 (by decide +kernel) rfl
theorem tw_w417 : Cond.instanceMethod yX4_take ∈ tw_W := tw_in 417 (by decide +kernel) rfl
theorem tw_w418 : Cond.code yX4_take cX4_take 2 (some .boolean) ∈ tw_W := tw_in 418 (by decide +kernel) rfl
theorem tw_w419 : Cond.methodLink RX4 74 yX1_charAt ∈ tw_W := tw_in 419 (by decide +kernel) rfl
theorem tw_w420 : Cond.instanceMethod yX1_charAt ∈ tw_W := tw_in 420 (by decide +kernel) rfl
theorem tw_w421 : Cond.selects RX1 yX1_charAt yX1_charAt ∈ tw_W := tw_in 421 (by decide +kernel) rfl
theorem tw_w422 : Cond.code yX1_charAt cX1_charAt 2 (some .char) ∈ tw_W := tw_in 422 (by decide +kernel) rfl
theorem tw_w423 : Cond.methodLink RX4 45 yX4_readStore ∈ tw_W := tw_in 423 (by decide +kernel) rfl
theorem tw_w425 : Cond.instanceMethod yX4_readStore ∈ tw_W := tw_in 425 (by decide +kernel) rfl
theorem tw_w426 : Cond.code yX4_readStore cX4_readStore 3 (some .boolean) ∈ tw_W := tw_in 426 (by decide +kernel) rfl
theorem tw_w427 : Cond.methodLink RX4 48 yX4_takeRegister ∈ tw_W := tw_in 427 (by decide +kernel) rfl
theorem tw_w429 : Cond.instanceMethod yX4_takeRegister ∈ tw_W := tw_in 429 (by decide +kernel) rfl
theorem tw_w430 : Cond.code yX4_takeRegister cX4_takeRegister 1 (some .int) ∈ tw_W := tw_in 430 (by decide +kernel) rfl
theorem tw_w431 : Cond.methodLink RX4 70 yX4_takeFrom ∈ tw_W := tw_in 431 (by decide +kernel) rfl
theorem tw_w433 : Cond.instanceMethod yX4_takeFrom ∈ tw_W := tw_in 433 (by decide +kernel) rfl
theorem tw_w434 : Cond.code yX4_takeFrom cX4_takeFrom 4 (some .int) ∈ tw_W := tw_in 434 (by decide +kernel) rfl
theorem tw_w435 : Cond.methodLink RX4 60 yX3_add ∈ tw_W := tw_in 435 (by decide +kernel) rfl
theorem tw_w436 : Cond.instanceMethod yX3_add ∈ tw_W := tw_in 436 (by decide +kernel) rfl
theorem tw_w437 : Cond.selects RX3 yX3_add yX3_add ∈ tw_W := tw_in 437 (by decide +kernel) rfl
theorem tw_w438 : Cond.code yX3_add cX3_add 7 none ∈ tw_W := tw_in 438 (by decide +kernel) rfl
theorem tw_w439 : Cond.methodLink RX4 52 yX4_readNumber ∈ tw_W := tw_in 439 (by decide +kernel) rfl
theorem tw_w441 : Cond.instanceMethod yX4_readNumber ∈ tw_W := tw_in 441 (by decide +kernel) rfl
theorem tw_w442 : Cond.code yX4_readNumber cX4_readNumber 5 (some .boolean) ∈ tw_W := tw_in 442 (by decide +kernel) rfl
theorem tw_w443 : Cond.methodLink RX4 56 yX4_readGiven ∈ tw_W := tw_in 443 (by decide +kernel) rfl
theorem tw_w445 : Cond.instanceMethod yX4_readGiven ∈ tw_W := tw_in 445 (by decide +kernel) rfl
theorem tw_w446 : Cond.code yX4_readGiven cX4_readGiven 5 (some .boolean) ∈ tw_W := tw_in 446 (by decide +kernel) rfl
theorem tw_w447 : Cond.methodLink RX4 64 yX4_readLoad ∈ tw_W := tw_in 447 (by decide +kernel) rfl
theorem tw_w449 : Cond.instanceMethod yX4_readLoad ∈ tw_W := tw_in 449 (by decide +kernel) rfl
theorem tw_w450 : Cond.code yX4_readLoad cX4_readLoad 3 (some .boolean) ∈ tw_W := tw_in 450 (by decide +kernel) rfl
theorem tw_w451 : Cond.methodLink RX4 67 yX4_takeSign ∈ tw_W := tw_in 451 (by decide +kernel) rfl
theorem tw_w453 : Cond.instanceMethod yX4_takeSign ∈ tw_W := tw_in 453 (by decide +kernel) rfl
theorem tw_w454 : Cond.code yX4_takeSign cX4_takeSign 1 (some .int) ∈ tw_W := tw_in 454 (by decide +kernel) rfl
theorem tw_w455 : Cond.methodLink RL 34 yX7_program ∈ tw_W := tw_in 455 (by decide +kernel) rfl
theorem tw_w456 : Cond.instanceMethod yX7_program ∈ tw_W := tw_in 456 (by decide +kernel) rfl
theorem tw_w457 : Cond.selects RX7 yX7_program yX7_program ∈ tw_W := tw_in 457 (by decide +kernel) rfl
theorem tw_w458 : Cond.code yX7_program cX7_program 2 (some .int) ∈ tw_W := tw_in 458 (by decide +kernel) rfl
theorem tw_w459 : Cond.methodLink RX7 95 yX7_isThread ∈ tw_W := tw_in 459 (by decide +kernel) rfl
theorem tw_w460 : Cond.static yX7_isThread ∈ tw_W := tw_in 460 (by decide +kernel) rfl
theorem tw_w461 : Cond.code yX7_isThread cX7_isThread 1 (some .boolean) ∈ tw_W := tw_in 461 (by decide +kernel) rfl
theorem tw_w462 : Cond.methodLink RX7 110 yX3_copyFrom ∈ tw_W := tw_in 462 (by decide +kernel) rfl
theorem tw_w463 : Cond.methodLink RL 39 yX7_drop ∈ tw_W := tw_in 463 (by decide +kernel) rfl
theorem tw_w464 : Cond.instanceMethod yX7_drop ∈ tw_W := tw_in 464 (by decide +kernel) rfl
theorem tw_w465 : Cond.selects RX7 yX7_drop yX7_drop ∈ tw_W := tw_in 465 (by decide +kernel) rfl
theorem tw_w466 : Cond.code yX7_drop cX7_drop 3 (some .int) ∈ tw_W := tw_in 466 (by decide +kernel) rfl
theorem tw_w467 : Cond.methodLink RL 43 yX7_first ∈ tw_W := tw_in 467 (by decide +kernel) rfl
theorem tw_w468 : Cond.instanceMethod yX7_first ∈ tw_W := tw_in 468 (by decide +kernel) rfl
theorem tw_w469 : Cond.selects RX7 yX7_first yX7_first ∈ tw_W := tw_in 469 (by decide +kernel) rfl
theorem tw_w470 : Cond.code yX7_first cX7_first 5 (some .int) ∈ tw_W := tw_in 470 (by decide +kernel) rfl
theorem tw_w471 : Cond.methodLink RL 48 yX7_exchange ∈ tw_W := tw_in 471 (by decide +kernel) rfl
theorem tw_w472 : Cond.instanceMethod yX7_exchange ∈ tw_W := tw_in 472 (by decide +kernel) rfl
theorem tw_w473 : Cond.selects RX7 yX7_exchange yX7_exchange ∈ tw_W := tw_in 473 (by decide +kernel) rfl
theorem tw_w474 : Cond.code yX7_exchange cX7_exchange 1 (some .int) ∈ tw_W := tw_in 474 (by decide +kernel) rfl
theorem tw_w475 : Cond.methodLink RX7 123 yX6_exchangeThreads ∈ tw_W := tw_in 475 (by decide +kernel) rfl
theorem tw_w476 : Cond.instanceMethod yX6_exchangeThreads ∈ tw_W := tw_in 476 (by decide +kernel) rfl
theorem tw_w477 : Cond.selects RX6 yX6_exchangeThreads yX6_exchangeThreads ∈ tw_W := tw_in 477 (by decide +kernel) rfl
theorem tw_w478 : Cond.code yX6_exchangeThreads cX6_exchangeThreads 3 none ∈ tw_W := tw_in 478 (by decide +kernel) rfl
theorem tw_w479 : Cond.methodLink RX7 126 yX5_length ∈ tw_W := tw_in 479 (by decide +kernel) rfl
theorem tw_w480 : Cond.instanceMethod yX5_length ∈ tw_W := tw_in 480 (by decide +kernel) rfl
theorem tw_w481 : Cond.selects RX5 yX5_length yX5_length ∈ tw_W := tw_in 481 (by decide +kernel) rfl
theorem tw_w482 : Cond.code yX5_length cX5_length 1 (some .int) ∈ tw_W := tw_in 482 (by decide +kernel) rfl
theorem tw_w483 : Cond.methodLink RL 52 yX7_ofOrder ∈ tw_W := tw_in 483 (by decide +kernel) rfl
theorem tw_w484 : Cond.instanceMethod yX7_ofOrder ∈ tw_W := tw_in 484 (by decide +kernel) rfl
theorem tw_w485 : Cond.selects RX7 yX7_ofOrder yX7_ofOrder ∈ tw_W := tw_in 485 (by decide +kernel) rfl
theorem tw_w486 : Cond.code yX7_ofOrder cX7_ofOrder 4 (some .int) ∈ tw_W := tw_in 486 (by decide +kernel) rfl
theorem tw_w487 : Cond.methodLink RX7 128 yX3_told ∈ tw_W := tw_in 487 (by decide +kernel) rfl
theorem tw_w488 : Cond.methodLink RL 56 yX7_ofThread ∈ tw_W := tw_in 488 (by decide +kernel) rfl
theorem tw_w489 : Cond.instanceMethod yX7_ofThread ∈ tw_W := tw_in 489 (by decide +kernel) rfl
theorem tw_w490 : Cond.selects RX7 yX7_ofThread yX7_ofThread ∈ tw_W := tw_in 490 (by decide +kernel) rfl
theorem tw_w491 : Cond.code yX7_ofThread cX7_ofThread 3 (some .int) ∈ tw_W := tw_in 491 (by decide +kernel) rfl
theorem tw_w492 : Cond.methodLink RX7 151 yX5_latestStart ∈ tw_W := tw_in 492 (by decide +kernel) rfl
theorem tw_w493 : Cond.methodLink RX7 155 yX5_stepsIn ∈ tw_W := tw_in 493 (by decide +kernel) rfl
theorem tw_w494 : Cond.instanceMethod yX5_stepsIn ∈ tw_W := tw_in 494 (by decide +kernel) rfl
theorem tw_w495 : Cond.selects RX5 yX5_stepsIn yX5_stepsIn ∈ tw_W := tw_in 495 (by decide +kernel) rfl
theorem tw_w496 : Cond.code yX5_stepsIn cX5_stepsIn 5 (some .int) ∈ tw_W := tw_in 496 (by decide +kernel) rfl
theorem tw_w497 : Cond.methodLink RL 60 yX7_last ∈ tw_W := tw_in 497 (by decide +kernel) rfl
theorem tw_w498 : Cond.instanceMethod yX7_last ∈ tw_W := tw_in 498 (by decide +kernel) rfl
theorem tw_w499 : Cond.selects RX7 yX7_last yX7_last ∈ tw_W := tw_in 499 (by decide +kernel) rfl
theorem tw_w500 : Cond.code yX7_last cX7_last 3 (some .int) ∈ tw_W := tw_in 500 (by decide +kernel) rfl
theorem tw_w501 : Cond.methodLink RL 64 yX7_ofStep ∈ tw_W := tw_in 501 (by decide +kernel) rfl
theorem tw_w502 : Cond.instanceMethod yX7_ofStep ∈ tw_W := tw_in 502 (by decide +kernel) rfl
theorem tw_w503 : Cond.selects RX7 yX7_ofStep yX7_ofStep ∈ tw_W := tw_in 503 (by decide +kernel) rfl
theorem tw_w504 : Cond.code yX7_ofStep cX7_ofStep 4 (some .int) ∈ tw_W := tw_in 504 (by decide +kernel) rfl
theorem tw_w505 : Cond.methodLink RX7 169 yX5_waitAhead ∈ tw_W := tw_in 505 (by decide +kernel) rfl
theorem tw_w506 : Cond.instanceMethod yX5_waitAhead ∈ tw_W := tw_in 506 (by decide +kernel) rfl
theorem tw_w507 : Cond.selects RX5 yX5_waitAhead yX5_waitAhead ∈ tw_W := tw_in 507 (by decide +kernel) rfl
theorem tw_w508 : Cond.code yX5_waitAhead cX5_waitAhead 4 (some .int) ∈ tw_W := tw_in 508 (by decide +kernel) rfl
theorem tw_w509 : Cond.methodLink RL 68 yX7_at ∈ tw_W := tw_in 509 (by decide +kernel) rfl
theorem tw_w510 : Cond.instanceMethod yX7_at ∈ tw_W := tw_in 510 (by decide +kernel) rfl
theorem tw_w511 : Cond.selects RX7 yX7_at yX7_at ∈ tw_W := tw_in 511 (by decide +kernel) rfl
theorem tw_w512 : Cond.code yX7_at cX7_at 3 (some .int) ∈ tw_W := tw_in 512 (by decide +kernel) rfl
theorem tw_w513 : Cond.methodLink RX7 172 yX5_starterIn ∈ tw_W := tw_in 513 (by decide +kernel) rfl
theorem tw_w514 : Cond.instanceMethod yX5_starterIn ∈ tw_W := tw_in 514 (by decide +kernel) rfl
theorem tw_w515 : Cond.selects RX5 yX5_starterIn yX5_starterIn ∈ tw_W := tw_in 515 (by decide +kernel) rfl
theorem tw_w516 : Cond.code yX5_starterIn cX5_starterIn 4 (some .int) ∈ tw_W := tw_in 516 (by decide +kernel) rfl
theorem tw_w517 : Cond.methodLink RX7 175 yX5_userIn ∈ tw_W := tw_in 517 (by decide +kernel) rfl
theorem tw_w518 : Cond.instanceMethod yX5_userIn ∈ tw_W := tw_in 518 (by decide +kernel) rfl
theorem tw_w519 : Cond.selects RX5 yX5_userIn yX5_userIn ∈ tw_W := tw_in 519 (by decide +kernel) rfl
theorem tw_w520 : Cond.code yX5_userIn cX5_userIn 6 (some .int) ∈ tw_W := tw_in 520 (by decide +kernel) rfl
theorem tw_w521 : Cond.methodLink RL 72 yX7_count ∈ tw_W := tw_in 521 (by decide +kernel) rfl
theorem tw_w522 : Cond.instanceMethod yX7_count ∈ tw_W := tw_in 522 (by decide +kernel) rfl
theorem tw_w523 : Cond.selects RX7 yX7_count yX7_count ∈ tw_W := tw_in 523 (by decide +kernel) rfl
theorem tw_w524 : Cond.code yX7_count cX7_count 2 (some .int) ∈ tw_W := tw_in 524 (by decide +kernel) rfl
theorem tw_w525 : Cond.methodLink RX7 178 yX5_ticksIn ∈ tw_W := tw_in 525 (by decide +kernel) rfl
theorem tw_w526 : Cond.instanceMethod yX5_ticksIn ∈ tw_W := tw_in 526 (by decide +kernel) rfl
theorem tw_w527 : Cond.selects RX5 yX5_ticksIn yX5_ticksIn ∈ tw_W := tw_in 527 (by decide +kernel) rfl
theorem tw_w528 : Cond.code yX5_ticksIn cX5_ticksIn 2 (some .int) ∈ tw_W := tw_in 528 (by decide +kernel) rfl
theorem tw_w529 : Cond.methodLink RX5 135 yX5_stepsIn ∈ tw_W := tw_in 529 (by decide +kernel) rfl
theorem tw_w530 : Cond.methodLink RL 76 yX7_alone ∈ tw_W := tw_in 530 (by decide +kernel) rfl
theorem tw_w531 : Cond.instanceMethod yX7_alone ∈ tw_W := tw_in 531 (by decide +kernel) rfl
theorem tw_w532 : Cond.selects RX7 yX7_alone yX7_alone ∈ tw_W := tw_in 532 (by decide +kernel) rfl
theorem tw_w533 : Cond.code yX7_alone cX7_alone 2 (some .int) ∈ tw_W := tw_in 533 (by decide +kernel) rfl
theorem tw_w534 : Cond.methodLink RX7 182 yX6_copyFrom ∈ tw_W := tw_in 534 (by decide +kernel) rfl
theorem tw_w535 : Cond.methodLink RL 80 yX7_lengthWith ∈ tw_W := tw_in 535 (by decide +kernel) rfl
theorem tw_w536 : Cond.instanceMethod yX7_lengthWith ∈ tw_W := tw_in 536 (by decide +kernel) rfl
theorem tw_w537 : Cond.selects RX7 yX7_lengthWith yX7_lengthWith ∈ tw_W := tw_in 537 (by decide +kernel) rfl
theorem tw_w538 : Cond.code yX7_lengthWith cX7_lengthWith 2 (some .int) ∈ tw_W := tw_in 538 (by decide +kernel) rfl
theorem tw_w539 : Cond.methodLink RX7 184 yX7_lengthByTurns ∈ tw_W := tw_in 539 (by decide +kernel) rfl
theorem tw_w541 : Cond.instanceMethod yX7_lengthByTurns ∈ tw_W := tw_in 541 (by decide +kernel) rfl
theorem tw_w542 : Cond.code yX7_lengthByTurns cX7_lengthByTurns 2 (some .int) ∈ tw_W := tw_in 542 (by decide +kernel) rfl
theorem tw_w543 : Cond.methodLink RL 84 yX7_bestTurns ∈ tw_W := tw_in 543 (by decide +kernel) rfl
theorem tw_w544 : Cond.instanceMethod yX7_bestTurns ∈ tw_W := tw_in 544 (by decide +kernel) rfl
theorem tw_w545 : Cond.selects RX7 yX7_bestTurns yX7_bestTurns ∈ tw_W := tw_in 545 (by decide +kernel) rfl
theorem tw_w546 : Cond.code yX7_bestTurns cX7_bestTurns 5 (some .int) ∈ tw_W := tw_in 546 (by decide +kernel) rfl
theorem tw_w547 : Cond.methodLink RL 88 yX7_lengthWithout ∈ tw_W := tw_in 547 (by decide +kernel) rfl
theorem tw_w548 : Cond.instanceMethod yX7_lengthWithout ∈ tw_W := tw_in 548 (by decide +kernel) rfl
theorem tw_w549 : Cond.selects RX7 yX7_lengthWithout yX7_lengthWithout ∈ tw_W := tw_in 549 (by decide +kernel) rfl
theorem tw_w550 : Cond.code yX7_lengthWithout cX7_lengthWithout 2 (some .int) ∈ tw_W := tw_in 550 (by decide +kernel) rfl
theorem tw_w551 : Cond.methodLink RL 92 yX7_bestExchange ∈ tw_W := tw_in 551 (by decide +kernel) rfl
theorem tw_w552 : Cond.instanceMethod yX7_bestExchange ∈ tw_W := tw_in 552 (by decide +kernel) rfl
theorem tw_w553 : Cond.selects RX7 yX7_bestExchange yX7_bestExchange ∈ tw_W := tw_in 553 (by decide +kernel) rfl
theorem tw_w554 : Cond.code yX7_bestExchange cX7_bestExchange 8 (some .int) ∈ tw_W := tw_in 554 (by decide +kernel) rfl
theorem tw_w555 : Cond.methodLink RX7 187 yX3_mayMove ∈ tw_W := tw_in 555 (by decide +kernel) rfl
theorem tw_w556 : Cond.instanceMethod yX3_mayMove ∈ tw_W := tw_in 556 (by decide +kernel) rfl
theorem tw_w557 : Cond.selects RX3 yX3_mayMove yX3_mayMove ∈ tw_W := tw_in 557 (by decide +kernel) rfl
theorem tw_w558 : Cond.code yX3_mayMove cX3_mayMove 3 (some .boolean) ∈ tw_W := tw_in 558 (by decide +kernel) rfl
theorem tw_w559 : Cond.methodLink RX7 190 yX7_lengthExchanged ∈ tw_W := tw_in 559 (by decide +kernel) rfl
theorem tw_w561 : Cond.instanceMethod yX7_lengthExchanged ∈ tw_W := tw_in 561 (by decide +kernel) rfl
theorem tw_w562 : Cond.code yX7_lengthExchanged cX7_lengthExchanged 3 (some .int) ∈ tw_W := tw_in 562 (by decide +kernel) rfl
theorem tw_w563 : Cond.methodLink RX7 193 yX3_exchangeWithNext ∈ tw_W := tw_in 563 (by decide +kernel) rfl
theorem tw_w564 : Cond.instanceMethod yX3_exchangeWithNext ∈ tw_W := tw_in 564 (by decide +kernel) rfl
theorem tw_w565 : Cond.selects RX3 yX3_exchangeWithNext yX3_exchangeWithNext ∈ tw_W := tw_in 565 (by decide +kernel) rfl
theorem tw_w566 : Cond.code yX3_exchangeWithNext cX3_exchangeWithNext 5 none ∈ tw_W := tw_in 566 (by decide +kernel) rfl
theorem tw_w567 : Cond.methodLink RX7 196 yX5_follow ∈ tw_W := tw_in 567 (by decide +kernel) rfl
theorem tw_w568 : Cond.methodLink RX7 199 yX2_sameValues ∈ tw_W := tw_in 568 (by decide +kernel) rfl
theorem tw_w569 : Cond.instanceMethod yX2_sameValues ∈ tw_W := tw_in 569 (by decide +kernel) rfl
theorem tw_w570 : Cond.selects RX2 yX2_sameValues yX2_sameValues ∈ tw_W := tw_in 570 (by decide +kernel) rfl
theorem tw_w571 : Cond.code yX2_sameValues cX2_sameValues 3 (some .boolean) ∈ tw_W := tw_in 571 (by decide +kernel) rfl
theorem tw_w572 : Cond.methodLink RX7 203 yX5_schedule ∈ tw_W := tw_in 572 (by decide +kernel) rfl
theorem tw_w573 : Cond.methodLink RL 96 yX7_undo ∈ tw_W := tw_in 573 (by decide +kernel) rfl
theorem tw_w574 : Cond.instanceMethod yX7_undo ∈ tw_W := tw_in 574 (by decide +kernel) rfl
theorem tw_w575 : Cond.selects RX7 yX7_undo yX7_undo ∈ tw_W := tw_in 575 (by decide +kernel) rfl
theorem tw_w576 : Cond.code yX7_undo cX7_undo 1 (some .int) ∈ tw_W := tw_in 576 (by decide +kernel) rfl
theorem tw_w577 : Cond.methodLink RX7 206 yX0_takeBack ∈ tw_W := tw_in 577 (by decide +kernel) rfl
theorem tw_w578 : Cond.instanceMethod yX0_takeBack ∈ tw_W := tw_in 578 (by decide +kernel) rfl
theorem tw_w579 : Cond.selects RX0 yX0_takeBack yX0_takeBack ∈ tw_W := tw_in 579 (by decide +kernel) rfl
theorem tw_w580 : Cond.code yX0_takeBack cX0_takeBack 2 none ∈ tw_W := tw_in 580 (by decide +kernel) rfl
theorem tw_w581 : Cond.methodLink RL 100 yX7_save ∈ tw_W := tw_in 581 (by decide +kernel) rfl
theorem tw_w582 : Cond.instanceMethod yX7_save ∈ tw_W := tw_in 582 (by decide +kernel) rfl
theorem tw_w583 : Cond.selects RX7 yX7_save yX7_save ∈ tw_W := tw_in 583 (by decide +kernel) rfl
theorem tw_w584 : Cond.code yX7_save cX7_save 2 (some .int) ∈ tw_W := tw_in 584 (by decide +kernel) rfl
theorem tw_w585 : Cond.methodLink RL 104 yX7_restore ∈ tw_W := tw_in 585 (by decide +kernel) rfl
theorem tw_w586 : Cond.instanceMethod yX7_restore ∈ tw_W := tw_in 586 (by decide +kernel) rfl
theorem tw_w587 : Cond.selects RX7 yX7_restore yX7_restore ∈ tw_W := tw_in 587 (by decide +kernel) rfl
theorem tw_w588 : Cond.code yX7_restore cX7_restore 2 (some .int) ∈ tw_W := tw_in 588 (by decide +kernel) rfl
theorem tw_w589 : Cond.classLink RL 10 RX8 ∈ tw_W := tw_in 589 (by decide +kernel) rfl
theorem tw_w590 : Cond.instantiable RX8 24 ∈ tw_W := tw_in 590 (by decide +kernel) rfl
theorem tw_w591 : Cond.methodLink RL 12 yX8_init ∈ tw_W := tw_in 591 (by decide +kernel) rfl
theorem tw_w592 : Cond.instanceMethod yX8_init ∈ tw_W := tw_in 592 (by decide +kernel) rfl
theorem tw_w593 : Cond.code yX8_init cX8_init 1 none ∈ tw_W := tw_in 593 (by decide +kernel) rfl
theorem tw_w594 : Cond.methodLink RX8 1 objectInit ∈ tw_W := tw_in 594 (by decide +kernel) rfl
theorem tw_w595 : Cond.fieldLink RX8 7 RX8 "now" "[I" ∈ tw_W := tw_in 595 (by decide +kernel) rfl
theorem tw_w596 : Cond.fieldLink RX8 13 RX8 "history" "[I" ∈ tw_W := tw_in 596 (by decide +kernel) rfl
theorem tw_w597 : Cond.fieldLink RX8 68 RX8 "undos" "I" ∈ tw_W := tw_in 597 (by decide +kernel) rfl
theorem tw_w598 : Cond.fieldLink RX8 16 RX8 "saved" "[I" ∈ tw_W := tw_in 598 (by decide +kernel) rfl
theorem tw_w599 : Cond.fieldLink RX8 19 RX8 "isSaved" "[Z" ∈ tw_W := tw_in 599 (by decide +kernel) rfl
theorem tw_w600 : Cond.fieldLink RX8 23 RX8 "pad" "[I" ∈ tw_W := tw_in 600 (by decide +kernel) rfl
theorem tw_w601 : Cond.fieldLink RX8 86 RX8 "signs" "I" ∈ tw_W := tw_in 601 (by decide +kernel) rfl
theorem tw_w602 : Cond.fieldLink RX8 26 RX8 "orders" "[I" ∈ tw_W := tw_in 602 (by decide +kernel) rfl
theorem tw_w603 : Cond.fieldLink RX8 97 RX8 "read" "I" ∈ tw_W := tw_in 603 (by decide +kernel) rfl
theorem tw_w604 : Cond.fieldLink RX8 83 RX8 "place" "I" ∈ tw_W := tw_in 604 (by decide +kernel) rfl
theorem tw_w605 : Cond.fieldLink RX8 89 RX8 "isWrong" "Z" ∈ tw_W := tw_in 605 (by decide +kernel) rfl
theorem tw_w606 : Cond.fieldLink RX8 29 RX8 "values" "[I" ∈ tw_W := tw_in 606 (by decide +kernel) rfl
theorem tw_w607 : Cond.fieldLink RX8 32 RX8 "ready" "[I" ∈ tw_W := tw_in 607 (by decide +kernel) rfl
theorem tw_w608 : Cond.fieldLink RX8 35 RX8 "start" "[I" ∈ tw_W := tw_in 608 (by decide +kernel) rfl
theorem tw_w609 : Cond.fieldLink RX8 38 RX8 "order" "[I" ∈ tw_W := tw_in 609 (by decide +kernel) rfl
theorem tw_w610 : Cond.fieldLink RX8 41 RX8 "end" "[I" ∈ tw_W := tw_in 610 (by decide +kernel) rfl
theorem tw_w611 : Cond.fieldLink RX8 44 RX8 "waited" "[I" ∈ tw_W := tw_in 611 (by decide +kernel) rfl
theorem tw_w612 : Cond.fieldLink RX8 47 RX8 "steps" "[I" ∈ tw_W := tw_in 612 (by decide +kernel) rfl
theorem tw_w613 : Cond.fieldLink RX8 50 RX8 "next" "[I" ∈ tw_W := tw_in 613 (by decide +kernel) rfl
theorem tw_w614 : Cond.fieldLink RX8 53 RX8 "waits" "[I" ∈ tw_W := tw_in 614 (by decide +kernel) rfl
theorem tw_w615 : Cond.fieldLink RX8 56 RX8 "pending" "[I" ∈ tw_W := tw_in 615 (by decide +kernel) rfl
theorem tw_w616 : Cond.fieldLink RX8 59 RX8 "free" "[I" ∈ tw_W := tw_in 616 (by decide +kernel) rfl
theorem tw_w617 : Cond.fieldLink RX8 62 RX8 "owner" "[I" ∈ tw_W := tw_in 617 (by decide +kernel) rfl
theorem tw_w618 : Cond.fieldLink RX8 65 RX8 "valuesWere" "[I" ∈ tw_W := tw_in 618 (by decide +kernel) rfl
theorem tw_w668 : Cond.methodLink RL 17 yX8_set ∈ tw_W := tw_in 668 (by decide +kernel) rfl
theorem tw_w669 : Cond.instanceMethod yX8_set ∈ tw_W := tw_in 669 (by decide +kernel) rfl
theorem tw_w670 : Cond.selects RX8 yX8_set yX8_set ∈ tw_W := tw_in 670 (by decide +kernel) rfl
theorem tw_w671 : Cond.code yX8_set cX8_set 4 (some .int) ∈ tw_W := tw_in 671 (by decide +kernel) rfl
theorem tw_w672 : Cond.methodLink RX8 72 yX8_in ∈ tw_W := tw_in 672 (by decide +kernel) rfl
theorem tw_w673 : Cond.static yX8_in ∈ tw_W := tw_in 673 (by decide +kernel) rfl
theorem tw_w674 : Cond.code yX8_in cX8_in 3 (some .boolean) ∈ tw_W := tw_in 674 (by decide +kernel) rfl
theorem tw_w675 : Cond.methodLink RX8 76 yX8_record ∈ tw_W := tw_in 675 (by decide +kernel) rfl
theorem tw_w677 : Cond.instanceMethod yX8_record ∈ tw_W := tw_in 677 (by decide +kernel) rfl
theorem tw_w678 : Cond.code yX8_record cX8_record 2 none ∈ tw_W := tw_in 678 (by decide +kernel) rfl
theorem tw_w679 : Cond.methodLink RL 47 yX8_first ∈ tw_W := tw_in 679 (by decide +kernel) rfl
theorem tw_w680 : Cond.instanceMethod yX8_first ∈ tw_W := tw_in 680 (by decide +kernel) rfl
theorem tw_w681 : Cond.selects RX8 yX8_first yX8_first ∈ tw_W := tw_in 681 (by decide +kernel) rfl
theorem tw_w682 : Cond.code yX8_first cX8_first 6 (some .int) ∈ tw_W := tw_in 682 (by decide +kernel) rfl
theorem tw_w683 : Cond.methodLink RX8 79 yX8_isThread ∈ tw_W := tw_in 683 (by decide +kernel) rfl
theorem tw_w684 : Cond.static yX8_isThread ∈ tw_W := tw_in 684 (by decide +kernel) rfl
theorem tw_w685 : Cond.code yX8_isThread cX8_isThread 1 (some .boolean) ∈ tw_W := tw_in 685 (by decide +kernel) rfl
theorem tw_w686 : Cond.methodLink RL 24 yX8_put ∈ tw_W := tw_in 686 (by decide +kernel) rfl
theorem tw_w687 : Cond.instanceMethod yX8_put ∈ tw_W := tw_in 687 (by decide +kernel) rfl
theorem tw_w688 : Cond.selects RX8 yX8_put yX8_put ∈ tw_W := tw_in 688 (by decide +kernel) rfl
theorem tw_w689 : Cond.code yX8_put cX8_put 7 (some .int) ∈ tw_W := tw_in 689 (by decide +kernel) rfl
theorem tw_w690 : Cond.constantLong RX8 120 (255) ∈ tw_W := tw_in 690 (by decide +kernel) rfl
theorem tw_w691 : Cond.methodLink RL 29 yX8_wipe ∈ tw_W := tw_in 691 (by decide +kernel) rfl
theorem tw_w692 : Cond.instanceMethod yX8_wipe ∈ tw_W := tw_in 692 (by decide +kernel) rfl
theorem tw_w693 : Cond.selects RX8 yX8_wipe yX8_wipe ∈ tw_W := tw_in 693 (by decide +kernel) rfl
theorem tw_w694 : Cond.code yX8_wipe cX8_wipe 2 (some .int) ∈ tw_W := tw_in 694 (by decide +kernel) rfl
theorem tw_w695 : Cond.methodLink RL 33 yX8_fault ∈ tw_W := tw_in 695 (by decide +kernel) rfl
theorem tw_w696 : Cond.instanceMethod yX8_fault ∈ tw_W := tw_in 696 (by decide +kernel) rfl
theorem tw_w697 : Cond.selects RX8 yX8_fault yX8_fault ∈ tw_W := tw_in 697 (by decide +kernel) rfl
theorem tw_w698 : Cond.code yX8_fault cX8_fault 1 (some .int) ∈ tw_W := tw_in 698 (by decide +kernel) rfl
theorem tw_w699 : Cond.methodLink RX8 122 yX8_faultOf ∈ tw_W := tw_in 699 (by decide +kernel) rfl
theorem tw_w701 : Cond.instanceMethod yX8_faultOf ∈ tw_W := tw_in 701 (by decide +kernel) rfl
theorem tw_w702 : Cond.code yX8_faultOf cX8_faultOf 1 (some .int) ∈ tw_W := tw_in 702 (by decide +kernel) rfl
theorem tw_w703 : Cond.methodLink RX8 117 yX8_readOne ∈ tw_W := tw_in 703 (by decide +kernel) rfl
theorem tw_w705 : Cond.instanceMethod yX8_readOne ∈ tw_W := tw_in 705 (by decide +kernel) rfl
theorem tw_w706 : Cond.code yX8_readOne cX8_readOne 3 none ∈ tw_W := tw_in 706 (by decide +kernel) rfl
theorem tw_w707 : Cond.methodLink RX8 93 yX8_sign ∈ tw_W := tw_in 707 (by decide +kernel) rfl
theorem tw_w709 : Cond.instanceMethod yX8_sign ∈ tw_W := tw_in 709 (by decide +kernel) rfl
theorem tw_w710 : Cond.code yX8_sign cX8_sign 1 (some .int) ∈ tw_W := tw_in 710 (by decide +kernel) rfl
theorem tw_w711 : Cond.methodLink RX8 107 yX8_register ∈ tw_W := tw_in 711 (by decide +kernel) rfl
theorem tw_w713 : Cond.instanceMethod yX8_register ∈ tw_W := tw_in 713 (by decide +kernel) rfl
theorem tw_w714 : Cond.code yX8_register cX8_register 2 (some .int) ∈ tw_W := tw_in 714 (by decide +kernel) rfl
theorem tw_w715 : Cond.methodLink RX8 110 yX8_between ∈ tw_W := tw_in 715 (by decide +kernel) rfl
theorem tw_w717 : Cond.instanceMethod yX8_between ∈ tw_W := tw_in 717 (by decide +kernel) rfl
theorem tw_w718 : Cond.code yX8_between cX8_between 2 none ∈ tw_W := tw_in 718 (by decide +kernel) rfl
theorem tw_w719 : Cond.methodLink RX8 103 yX8_lay ∈ tw_W := tw_in 719 (by decide +kernel) rfl
theorem tw_w721 : Cond.instanceMethod yX8_lay ∈ tw_W := tw_in 721 (by decide +kernel) rfl
theorem tw_w722 : Cond.code yX8_lay cX8_lay 7 none ∈ tw_W := tw_in 722 (by decide +kernel) rfl
theorem tw_w723 : Cond.methodLink RX8 100 yX8_number ∈ tw_W := tw_in 723 (by decide +kernel) rfl
theorem tw_w725 : Cond.instanceMethod yX8_number ∈ tw_W := tw_in 725 (by decide +kernel) rfl
theorem tw_w726 : Cond.code yX8_number cX8_number 2 (some .int) ∈ tw_W := tw_in 726 (by decide +kernel) rfl
theorem tw_w727 : Cond.methodLink RX8 114 yX8_readValue ∈ tw_W := tw_in 727 (by decide +kernel) rfl
theorem tw_w729 : Cond.instanceMethod yX8_readValue ∈ tw_W := tw_in 729 (by decide +kernel) rfl
theorem tw_w730 : Cond.code yX8_readValue cX8_readValue 6 none ∈ tw_W := tw_in 730 (by decide +kernel) rfl
theorem tw_w731 : Cond.methodLink RL 38 yX8_program ∈ tw_W := tw_in 731 (by decide +kernel) rfl
theorem tw_w732 : Cond.instanceMethod yX8_program ∈ tw_W := tw_in 732 (by decide +kernel) rfl
theorem tw_w733 : Cond.selects RX8 yX8_program yX8_program ∈ tw_W := tw_in 733 (by decide +kernel) rfl
theorem tw_w734 : Cond.code yX8_program cX8_program 3 (some .int) ∈ tw_W := tw_in 734 (by decide +kernel) rfl
theorem tw_w735 : Cond.methodLink RL 42 yX8_drop ∈ tw_W := tw_in 735 (by decide +kernel) rfl
theorem tw_w736 : Cond.instanceMethod yX8_drop ∈ tw_W := tw_in 736 (by decide +kernel) rfl
theorem tw_w737 : Cond.selects RX8 yX8_drop yX8_drop ∈ tw_W := tw_in 737 (by decide +kernel) rfl
theorem tw_w738 : Cond.code yX8_drop cX8_drop 3 (some .int) ∈ tw_W := tw_in 738 (by decide +kernel) rfl
theorem tw_w739 : Cond.methodLink RX8 125 yX8_many ∈ tw_W := tw_in 739 (by decide +kernel) rfl
theorem tw_w741 : Cond.instanceMethod yX8_many ∈ tw_W := tw_in 741 (by decide +kernel) rfl
theorem tw_w742 : Cond.code yX8_many cX8_many 2 (some .int) ∈ tw_W := tw_in 742 (by decide +kernel) rfl
theorem tw_w743 : Cond.methodLink RL 51 yX8_exchange ∈ tw_W := tw_in 743 (by decide +kernel) rfl
theorem tw_w744 : Cond.instanceMethod yX8_exchange ∈ tw_W := tw_in 744 (by decide +kernel) rfl
theorem tw_w745 : Cond.selects RX8 yX8_exchange yX8_exchange ∈ tw_W := tw_in 745 (by decide +kernel) rfl
theorem tw_w746 : Cond.code yX8_exchange cX8_exchange 3 (some .int) ∈ tw_W := tw_in 746 (by decide +kernel) rfl
theorem tw_w747 : Cond.methodLink RX8 129 yX8_run ∈ tw_W := tw_in 747 (by decide +kernel) rfl
theorem tw_w749 : Cond.instanceMethod yX8_run ∈ tw_W := tw_in 749 (by decide +kernel) rfl
theorem tw_w750 : Cond.code yX8_run cX8_run 1 (some .int) ∈ tw_W := tw_in 750 (by decide +kernel) rfl
theorem tw_w751 : Cond.methodLink RX8 169 yX8_goThrough ∈ tw_W := tw_in 751 (by decide +kernel) rfl
theorem tw_w753 : Cond.instanceMethod yX8_goThrough ∈ tw_W := tw_in 753 (by decide +kernel) rfl
theorem tw_w754 : Cond.code yX8_goThrough cX8_goThrough 8 (some .int) ∈ tw_W := tw_in 754 (by decide +kernel) rfl
theorem tw_w755 : Cond.methodLink RX8 143 yX8_isOpen ∈ tw_W := tw_in 755 (by decide +kernel) rfl
theorem tw_w757 : Cond.instanceMethod yX8_isOpen ∈ tw_W := tw_in 757 (by decide +kernel) rfl
theorem tw_w758 : Cond.code yX8_isOpen cX8_isOpen 2 (some .boolean) ∈ tw_W := tw_in 758 (by decide +kernel) rfl
theorem tw_w759 : Cond.methodLink RX8 159 yX8_starter ∈ tw_W := tw_in 759 (by decide +kernel) rfl
theorem tw_w761 : Cond.instanceMethod yX8_starter ∈ tw_W := tw_in 761 (by decide +kernel) rfl
theorem tw_w762 : Cond.code yX8_starter cX8_starter 8 (some .int) ∈ tw_W := tw_in 762 (by decide +kernel) rfl
theorem tw_w763 : Cond.methodLink RX8 146 yX8_whyNot ∈ tw_W := tw_in 763 (by decide +kernel) rfl
theorem tw_w765 : Cond.instanceMethod yX8_whyNot ∈ tw_W := tw_in 765 (by decide +kernel) rfl
theorem tw_w766 : Cond.code yX8_whyNot cX8_whyNot 5 (some .int) ∈ tw_W := tw_in 766 (by decide +kernel) rfl
theorem tw_w767 : Cond.methodLink RX8 132 yX8_of ∈ tw_W := tw_in 767 (by decide +kernel) rfl
theorem tw_w769 : Cond.instanceMethod yX8_of ∈ tw_W := tw_in 769 (by decide +kernel) rfl
theorem tw_w770 : Cond.code yX8_of cX8_of 4 (some .int) ∈ tw_W := tw_in 770 (by decide +kernel) rfl
theorem tw_w771 : Cond.methodLink RX8 136 yX8_roomOf ∈ tw_W := tw_in 771 (by decide +kernel) rfl
theorem tw_w772 : Cond.static yX8_roomOf ∈ tw_W := tw_in 772 (by decide +kernel) rfl
theorem tw_w773 : Cond.code yX8_roomOf cX8_roomOf 1 (some .int) ∈ tw_W := tw_in 773 (by decide +kernel) rfl
theorem tw_w774 : Cond.methodLink RX8 139 yX8_isReady ∈ tw_W := tw_in 774 (by decide +kernel) rfl
theorem tw_w776 : Cond.instanceMethod yX8_isReady ∈ tw_W := tw_in 776 (by decide +kernel) rfl
theorem tw_w777 : Cond.code yX8_isReady cX8_isReady 7 (some .boolean) ∈ tw_W := tw_in 777 (by decide +kernel) rfl
theorem tw_w778 : Cond.methodLink RX8 149 yX8_latest ∈ tw_W := tw_in 778 (by decide +kernel) rfl
theorem tw_w780 : Cond.instanceMethod yX8_latest ∈ tw_W := tw_in 780 (by decide +kernel) rfl
theorem tw_w781 : Cond.code yX8_latest cX8_latest 2 (some .int) ∈ tw_W := tw_in 781 (by decide +kernel) rfl
theorem tw_w782 : Cond.methodLink RX8 162 yX8_begin ∈ tw_W := tw_in 782 (by decide +kernel) rfl
theorem tw_w784 : Cond.instanceMethod yX8_begin ∈ tw_W := tw_in 784 (by decide +kernel) rfl
theorem tw_w785 : Cond.code yX8_begin cX8_begin 9 none ∈ tw_W := tw_in 785 (by decide +kernel) rfl
theorem tw_w786 : Cond.methodLink RX8 156 yX8_does ∈ tw_W := tw_in 786 (by decide +kernel) rfl
theorem tw_w788 : Cond.instanceMethod yX8_does ∈ tw_W := tw_in 788 (by decide +kernel) rfl
theorem tw_w789 : Cond.code yX8_does cX8_does 8 (some .int) ∈ tw_W := tw_in 789 (by decide +kernel) rfl
theorem tw_w790 : Cond.methodLink RX8 152 yX8_value ∈ tw_W := tw_in 790 (by decide +kernel) rfl
theorem tw_w792 : Cond.instanceMethod yX8_value ∈ tw_W := tw_in 792 (by decide +kernel) rfl
theorem tw_w793 : Cond.code yX8_value cX8_value 3 (some .int) ∈ tw_W := tw_in 793 (by decide +kernel) rfl
theorem tw_w794 : Cond.methodLink RX8 166 yX8_lengthOf ∈ tw_W := tw_in 794 (by decide +kernel) rfl
theorem tw_w796 : Cond.instanceMethod yX8_lengthOf ∈ tw_W := tw_in 796 (by decide +kernel) rfl
theorem tw_w797 : Cond.code yX8_lengthOf cX8_lengthOf 4 (some .int) ∈ tw_W := tw_in 797 (by decide +kernel) rfl
theorem tw_w798 : Cond.methodLink RL 55 yX8_ofOrder ∈ tw_W := tw_in 798 (by decide +kernel) rfl
theorem tw_w799 : Cond.instanceMethod yX8_ofOrder ∈ tw_W := tw_in 799 (by decide +kernel) rfl
theorem tw_w800 : Cond.selects RX8 yX8_ofOrder yX8_ofOrder ∈ tw_W := tw_in 800 (by decide +kernel) rfl
theorem tw_w801 : Cond.code yX8_ofOrder cX8_ofOrder 4 (some .int) ∈ tw_W := tw_in 801 (by decide +kernel) rfl
theorem tw_w802 : Cond.methodLink RL 59 yX8_ofThread ∈ tw_W := tw_in 802 (by decide +kernel) rfl
theorem tw_w803 : Cond.instanceMethod yX8_ofThread ∈ tw_W := tw_in 803 (by decide +kernel) rfl
theorem tw_w804 : Cond.selects RX8 yX8_ofThread yX8_ofThread ∈ tw_W := tw_in 804 (by decide +kernel) rfl
theorem tw_w805 : Cond.code yX8_ofThread cX8_ofThread 3 (some .int) ∈ tw_W := tw_in 805 (by decide +kernel) rfl
theorem tw_w806 : Cond.methodLink RX8 172 yX8_stepsOf ∈ tw_W := tw_in 806 (by decide +kernel) rfl
theorem tw_w808 : Cond.instanceMethod yX8_stepsOf ∈ tw_W := tw_in 808 (by decide +kernel) rfl
theorem tw_w809 : Cond.code yX8_stepsOf cX8_stepsOf 5 (some .int) ∈ tw_W := tw_in 809 (by decide +kernel) rfl
theorem tw_w810 : Cond.methodLink RL 63 yX8_last ∈ tw_W := tw_in 810 (by decide +kernel) rfl
theorem tw_w811 : Cond.instanceMethod yX8_last ∈ tw_W := tw_in 811 (by decide +kernel) rfl
theorem tw_w812 : Cond.selects RX8 yX8_last yX8_last ∈ tw_W := tw_in 812 (by decide +kernel) rfl
theorem tw_w813 : Cond.code yX8_last cX8_last 3 (some .int) ∈ tw_W := tw_in 813 (by decide +kernel) rfl
theorem tw_w814 : Cond.methodLink RL 67 yX8_ofStep ∈ tw_W := tw_in 814 (by decide +kernel) rfl
theorem tw_w815 : Cond.instanceMethod yX8_ofStep ∈ tw_W := tw_in 815 (by decide +kernel) rfl
theorem tw_w816 : Cond.selects RX8 yX8_ofStep yX8_ofStep ∈ tw_W := tw_in 816 (by decide +kernel) rfl
theorem tw_w817 : Cond.code yX8_ofStep cX8_ofStep 5 (some .int) ∈ tw_W := tw_in 817 (by decide +kernel) rfl
theorem tw_w818 : Cond.methodLink RL 71 yX8_at ∈ tw_W := tw_in 818 (by decide +kernel) rfl
theorem tw_w819 : Cond.instanceMethod yX8_at ∈ tw_W := tw_in 819 (by decide +kernel) rfl
theorem tw_w820 : Cond.selects RX8 yX8_at yX8_at ∈ tw_W := tw_in 820 (by decide +kernel) rfl
theorem tw_w821 : Cond.code yX8_at cX8_at 6 (some .int) ∈ tw_W := tw_in 821 (by decide +kernel) rfl
theorem tw_w822 : Cond.methodLink RL 75 yX8_count ∈ tw_W := tw_in 822 (by decide +kernel) rfl
theorem tw_w823 : Cond.instanceMethod yX8_count ∈ tw_W := tw_in 823 (by decide +kernel) rfl
theorem tw_w824 : Cond.selects RX8 yX8_count yX8_count ∈ tw_W := tw_in 824 (by decide +kernel) rfl
theorem tw_w825 : Cond.code yX8_count cX8_count 3 (some .int) ∈ tw_W := tw_in 825 (by decide +kernel) rfl
theorem tw_w826 : Cond.methodLink RL 79 yX8_alone ∈ tw_W := tw_in 826 (by decide +kernel) rfl
theorem tw_w827 : Cond.instanceMethod yX8_alone ∈ tw_W := tw_in 827 (by decide +kernel) rfl
theorem tw_w828 : Cond.selects RX8 yX8_alone yX8_alone ∈ tw_W := tw_in 828 (by decide +kernel) rfl
theorem tw_w829 : Cond.code yX8_alone cX8_alone 2 (some .int) ∈ tw_W := tw_in 829 (by decide +kernel) rfl
theorem tw_w830 : Cond.methodLink RL 83 yX8_lengthWith ∈ tw_W := tw_in 830 (by decide +kernel) rfl
theorem tw_w831 : Cond.instanceMethod yX8_lengthWith ∈ tw_W := tw_in 831 (by decide +kernel) rfl
theorem tw_w832 : Cond.selects RX8 yX8_lengthWith yX8_lengthWith ∈ tw_W := tw_in 832 (by decide +kernel) rfl
theorem tw_w833 : Cond.code yX8_lengthWith cX8_lengthWith 2 (some .int) ∈ tw_W := tw_in 833 (by decide +kernel) rfl
theorem tw_w834 : Cond.methodLink RL 87 yX8_bestTurns ∈ tw_W := tw_in 834 (by decide +kernel) rfl
theorem tw_w835 : Cond.instanceMethod yX8_bestTurns ∈ tw_W := tw_in 835 (by decide +kernel) rfl
theorem tw_w836 : Cond.selects RX8 yX8_bestTurns yX8_bestTurns ∈ tw_W := tw_in 836 (by decide +kernel) rfl
theorem tw_w837 : Cond.code yX8_bestTurns cX8_bestTurns 5 (some .int) ∈ tw_W := tw_in 837 (by decide +kernel) rfl
theorem tw_w838 : Cond.methodLink RL 91 yX8_lengthWithout ∈ tw_W := tw_in 838 (by decide +kernel) rfl
theorem tw_w839 : Cond.instanceMethod yX8_lengthWithout ∈ tw_W := tw_in 839 (by decide +kernel) rfl
theorem tw_w840 : Cond.selects RX8 yX8_lengthWithout yX8_lengthWithout ∈ tw_W := tw_in 840 (by decide +kernel) rfl
theorem tw_w841 : Cond.code yX8_lengthWithout cX8_lengthWithout 2 (some .int) ∈ tw_W := tw_in 841 (by decide +kernel) rfl
theorem tw_w842 : Cond.methodLink RL 95 yX8_bestExchange ∈ tw_W := tw_in 842 (by decide +kernel) rfl
theorem tw_w843 : Cond.instanceMethod yX8_bestExchange ∈ tw_W := tw_in 843 (by decide +kernel) rfl
theorem tw_w844 : Cond.selects RX8 yX8_bestExchange yX8_bestExchange ∈ tw_W := tw_in 844 (by decide +kernel) rfl
theorem tw_w845 : Cond.code yX8_bestExchange cX8_bestExchange 8 (some .int) ∈ tw_W := tw_in 845 (by decide +kernel) rfl
theorem tw_w846 : Cond.methodLink RX8 175 yX8_isFixed ∈ tw_W := tw_in 846 (by decide +kernel) rfl
theorem tw_w848 : Cond.instanceMethod yX8_isFixed ∈ tw_W := tw_in 848 (by decide +kernel) rfl
theorem tw_w849 : Cond.code yX8_isFixed cX8_isFixed 5 (some .boolean) ∈ tw_W := tw_in 849 (by decide +kernel) rfl
theorem tw_w850 : Cond.methodLink RX8 178 yX8_swap ∈ tw_W := tw_in 850 (by decide +kernel) rfl
theorem tw_w852 : Cond.instanceMethod yX8_swap ∈ tw_W := tw_in 852 (by decide +kernel) rfl
theorem tw_w853 : Cond.code yX8_swap cX8_swap 6 none ∈ tw_W := tw_in 853 (by decide +kernel) rfl
theorem tw_w854 : Cond.methodLink RX8 181 yX8_areValuesSame ∈ tw_W := tw_in 854 (by decide +kernel) rfl
theorem tw_w856 : Cond.instanceMethod yX8_areValuesSame ∈ tw_W := tw_in 856 (by decide +kernel) rfl
theorem tw_w857 : Cond.code yX8_areValuesSame cX8_areValuesSame 3 (some .boolean) ∈ tw_W := tw_in 857 (by decide +kernel) rfl
theorem tw_w858 : Cond.methodLink RL 99 yX8_undo ∈ tw_W := tw_in 858 (by decide +kernel) rfl
theorem tw_w859 : Cond.instanceMethod yX8_undo ∈ tw_W := tw_in 859 (by decide +kernel) rfl
theorem tw_w860 : Cond.selects RX8 yX8_undo yX8_undo ∈ tw_W := tw_in 860 (by decide +kernel) rfl
theorem tw_w861 : Cond.code yX8_undo cX8_undo 2 (some .int) ∈ tw_W := tw_in 861 (by decide +kernel) rfl
theorem tw_w862 : Cond.methodLink RL 103 yX8_save ∈ tw_W := tw_in 862 (by decide +kernel) rfl
theorem tw_w863 : Cond.instanceMethod yX8_save ∈ tw_W := tw_in 863 (by decide +kernel) rfl
theorem tw_w864 : Cond.selects RX8 yX8_save yX8_save ∈ tw_W := tw_in 864 (by decide +kernel) rfl
theorem tw_w865 : Cond.code yX8_save cX8_save 3 (some .int) ∈ tw_W := tw_in 865 (by decide +kernel) rfl
theorem tw_w866 : Cond.methodLink RL 107 yX8_restore ∈ tw_W := tw_in 866 (by decide +kernel) rfl
theorem tw_w867 : Cond.instanceMethod yX8_restore ∈ tw_W := tw_in 867 (by decide +kernel) rfl
theorem tw_w868 : Cond.selects RX8 yX8_restore yX8_restore ∈ tw_W := tw_in 868 (by decide +kernel) rfl
theorem tw_w869 : Cond.code yX8_restore cX8_restore 3 (some .int) ∈ tw_W := tw_in 869 (by decide +kernel) rfl
theorem tw_w870 : Cond.constantLong RL 18 (4294967295) ∈ tw_W := tw_in 870 (by decide +kernel) rfl
end
section
def fX3_init (σ : tw_St) (a : Nat) : Option (tw_St) :=
  (tw_is σ 3 a).bind fun _ =>
  (tw_pP (tw_new σ 20 60) 3 a 1 σ.1).bind fun σ9 =>
  some σ9
def rmX3_init : Room := { frames := 1, cells := 1, slots := 60, locals := 16 }
def fX6_init (σ : tw_St) (a : Nat) : Option (tw_St) :=
  (tw_is σ 6 a).bind fun _ =>
  (tw_wI (tw_new σ 20 3) 20 σ.1 0 0).bind fun σ11 =>
  (tw_wI σ11 20 σ.1 1 3).bind fun σ15 =>
  (tw_wI σ15 20 σ.1 2 4).bind fun σ19 =>
  (tw_pP σ19 6 a 0 σ.1).bind fun σ20 =>
  (fX3_init (tw_new (tw_new σ20 25 2) 3 2) ((tw_new σ20 25 2).1)).bind fun σ34 =>
  (tw_wP σ34 25 3 σ20.1 0 ((tw_new σ20 25 2).1)).bind fun σ37 =>
  (fX3_init (tw_new σ37 3 2) σ37.1).bind fun σ44 =>
  (tw_wP σ44 25 3 σ20.1 1 σ37.1).bind fun σ47 =>
  (tw_pP σ47 6 a 1 σ20.1).bind fun σ48 =>
  (tw_pP (tw_grid σ48 2 12) 6 a 2 σ48.1).bind fun σ59 =>
  some σ59
def rmX6_init : Room := { frames := 2, cells := 9, slots := 155, locals := 36 }
def fX2_init (σ : tw_St) (a : Nat) : Option (tw_St) :=
  (tw_is σ 2 a).bind fun _ =>
  (tw_pP (tw_new σ 20 100) 2 a 2 σ.1).bind fun σ9 =>
  (tw_pP (tw_new σ9 20 12) 2 a 3 σ9.1).bind fun σ17 =>
  some σ17
def rmX2_init : Room := { frames := 1, cells := 2, slots := 112, locals := 16 }
def fX5_init (σ : tw_St) (a : Nat) (r1 : Nat) : Option (tw_St) :=
  (tw_is σ 5 a).bind fun _ =>
  (fX2_init (tw_new (tw_new σ 26 2) 2 4) ((tw_new σ 26 2).1)).bind fun σ15 =>
  (tw_wP σ15 26 2 σ.1 0 ((tw_new σ 26 2).1)).bind fun σ18 =>
  (fX2_init (tw_new σ18 2 4) σ18.1).bind fun σ25 =>
  (tw_wP σ25 26 2 σ.1 1 σ18.1).bind fun σ28 =>
  (tw_pP σ28 5 a 0 σ.1).bind fun σ29 =>
  (tw_pP (tw_new σ29 20 2) 5 a 1 σ29.1).bind fun σ36 =>
  (tw_pP (tw_new σ36 20 2) 5 a 2 σ36.1).bind fun σ43 =>
  (tw_pP (tw_grid σ43 2 100) 5 a 3 σ43.1).bind fun σ54 =>
  (tw_pP (tw_grid σ54 2 100) 5 a 4 σ54.1).bind fun σ65 =>
  (tw_pP (tw_grid σ65 2 5) 5 a 5 σ65.1).bind fun σ75 =>
  (tw_pP (tw_new σ75 20 2) 5 a 7 σ75.1).bind fun σ82 =>
  (tw_pP (tw_grid σ82 2 4) 5 a 8 σ82.1).bind fun σ92 =>
  (tw_pP (tw_new σ92 20 2) 5 a 9 σ92.1).bind fun σ99 =>
  (tw_pP (tw_new σ99 20 2) 5 a 10 σ99.1).bind fun σ106 =>
  (tw_pP σ106 5 a 6 r1).bind fun σ111 =>
  some σ111
def rmX5_init : Room := { frames := 2, cells := 24, slots := 670, locals := 36 }
def fX1_init (σ : tw_St) (a : Nat) : Option (tw_St) :=
  (tw_is σ 1 a).bind fun _ =>
  (tw_pP (tw_new σ 21 80) 1 a 1 σ.1).bind fun σ9 =>
  some σ9
def rmX1_init : Room := { frames := 1, cells := 1, slots := 80, locals := 16 }
def fX4_init (σ : tw_St) (a : Nat) (r1 : Nat) : Option (tw_St) :=
  (tw_is σ 4 a).bind fun _ =>
  (fX3_init (tw_new σ 3 2) σ.1).bind fun σ9 =>
  (tw_pP σ9 4 a 0 σ.1).bind fun σ12 =>
  (tw_pP σ12 4 a 2 r1).bind fun σ17 =>
  some σ17
def rmX4_init : Room := { frames := 2, cells := 2, slots := 62, locals := 36 }
def fX0_init (σ : tw_St) (a : Nat) : Option (tw_St) :=
  (tw_is σ 0 a).bind fun _ =>
  (tw_pP (tw_new σ 24 6) 0 a 2 σ.1).bind fun σ10 =>
  (tw_gP σ10 0 a 2).bind fun v22 =>
  (fX6_init (tw_new σ10 6 3) σ10.1).bind fun σ30 =>
  (tw_wP σ30 24 6 v22 0 σ10.1).bind fun σ33 =>
  (tw_gP σ33 0 a 2).bind fun v22 =>
  (fX6_init (tw_new σ33 6 3) σ33.1).bind fun σ30 =>
  (tw_wP σ30 24 6 v22 1 σ33.1).bind fun σ33 =>
  (tw_gP σ33 0 a 2).bind fun v22 =>
  (fX6_init (tw_new σ33 6 3) σ33.1).bind fun σ30 =>
  (tw_wP σ30 24 6 v22 2 σ33.1).bind fun σ33 =>
  (tw_gP σ33 0 a 2).bind fun v22 =>
  (fX6_init (tw_new σ33 6 3) σ33.1).bind fun σ30 =>
  (tw_wP σ30 24 6 v22 3 σ33.1).bind fun σ33 =>
  (tw_gP σ33 0 a 2).bind fun v22 =>
  (fX6_init (tw_new σ33 6 3) σ33.1).bind fun σ30 =>
  (tw_wP σ30 24 6 v22 4 σ33.1).bind fun σ33 =>
  (tw_gP σ33 0 a 2).bind fun v22 =>
  (fX6_init (tw_new σ33 6 3) σ33.1).bind fun σ30 =>
  (tw_wP σ30 24 6 v22 5 σ33.1).bind fun σ33 =>
  some σ33
def rmX0_init : Room := { frames := 3, cells := 61, slots := 954, locals := 56 }
def fX7_init (σ : tw_St) (a : Nat) : Option (tw_St) :=
  (tw_is σ 7 a).bind fun _ =>
  (fX6_init (tw_new σ 6 3) σ.1).bind fun σ9 =>
  (tw_pP σ9 7 a 0 σ.1).bind fun σ12 =>
  (tw_gP (tw_new σ12 5 12) 7 a 0).bind fun v21 =>
  (fX5_init (tw_new σ12 5 12) σ12.1 v21).bind fun σ24 =>
  (tw_pP σ24 7 a 1 σ12.1).bind fun σ27 =>
  (fX6_init (tw_new σ27 6 3) σ27.1).bind fun σ35 =>
  (tw_pP σ35 7 a 2 σ27.1).bind fun σ38 =>
  (tw_gP (tw_new σ38 5 12) 7 a 2).bind fun v47 =>
  (fX5_init (tw_new σ38 5 12) σ38.1 v47).bind fun σ50 =>
  (tw_pP σ50 7 a 3 σ38.1).bind fun σ53 =>
  (fX1_init (tw_new σ53 1 2) σ53.1).bind fun σ61 =>
  (tw_pP σ61 7 a 4 σ53.1).bind fun σ64 =>
  (tw_gP (tw_new σ64 4 4) 7 a 4).bind fun v73 =>
  (fX4_init (tw_new σ64 4 4) σ64.1 v73).bind fun σ76 =>
  (tw_pP σ76 7 a 5 σ64.1).bind fun σ79 =>
  (fX0_init (tw_new σ79 0 3) σ79.1).bind fun σ87 =>
  (tw_pP σ87 7 a 6 σ79.1).bind fun σ90 =>
  (tw_pP (tw_new σ90 24 2) 7 a 7 σ90.1).bind fun σ98 =>
  (tw_gP σ98 7 a 7).bind fun v109 =>
  (fX6_init (tw_new σ98 6 3) σ98.1).bind fun σ117 =>
  (tw_wP σ117 24 6 v109 0 σ98.1).bind fun σ120 =>
  (tw_gP σ120 7 a 7).bind fun v109 =>
  (fX6_init (tw_new σ120 6 3) σ120.1).bind fun σ117 =>
  (tw_wP σ117 24 6 v109 1 σ120.1).bind fun σ120 =>
  (tw_pP (tw_new σ120 22 2) 7 a 8 σ120.1).bind fun σ131 =>
  some σ131
def rmX7_init : Room := { frames := 4, cells := 159, slots := 3105, locals := 77 }
def fX3_copyFrom (σ : tw_St) (a : Nat) (r1 : Nat) : Option (tw_St) :=
  (tw_is σ 3 a).bind fun _ =>
  (tw_gI σ 3 r1 0).bind fun v2 =>
  (tw_pI σ 3 a 0 v2).bind fun σ5 =>
  (tw_gP σ5 3 r1 1).bind fun v9 =>
  (tw_gP σ5 3 a 1).bind fun v14 =>
  (tw_cp σ5 v9 0 v14 0 60).bind fun σ20 =>
  some σ20
def rmX3_copyFrom : Room := { frames := 1, cells := 0, slots := 0, locals := 18 }
def fX6_copyFrom_h16 (k16 : (tw_St → Nat → Nat → Int32 → Option (tw_St))) (σ : tw_St) (a0 : Nat) (a1 : Nat) (x2 : Int32) : Option (tw_St) :=
  if 2 ≤ x2 then
    some σ
  else
    (tw_gP σ 6 a0 1).bind fun v22 =>
    (tw_aP σ 25 v22 x2).bind fun v26 =>
    (tw_gP σ 6 a1 1).bind fun v28 =>
    (tw_aP σ 25 v28 x2).bind fun v32 =>
    (fX3_copyFrom σ v26 v32).bind fun σ33 =>
    (tw_gP σ33 6 a1 2).bind fun v37 =>
    (tw_aP σ33 23 v37 x2).bind fun v41 =>
    (tw_gP σ33 6 a0 2).bind fun v44 =>
    (tw_aP σ33 23 v44 x2).bind fun v48 =>
    (tw_cp σ33 v41 0 v48 0 12).bind fun σ52 =>
    k16 σ52 a0 a1 (x2 + 1)
def fX6_copyFrom_l16 (n : Nat) : tw_St → Nat → Nat → Int32 → Option (tw_St) := tw_it (fun _ _ _ _ => none) (fX6_copyFrom_h16) n
def fX6_copyFrom (σ : tw_St) (a : Nat) (r1 : Nat) : Option (tw_St) :=
  (tw_is σ 6 a).bind fun _ =>
  (tw_gP σ 6 r1 0).bind fun v1 =>
  (tw_gP σ 6 a 0).bind fun v6 =>
  (tw_cp σ v1 0 v6 0 3).bind fun σ11 =>
  fX6_copyFrom_l16 tw_F σ11 a r1 0
def rmX6_copyFrom : Room := { frames := 2, cells := 0, slots := 0, locals := 39 }
def fX0_record (σ : tw_St) (a : Nat) (r1 : Nat) : Option (tw_St) :=
  (tw_is σ 0 a).bind fun _ =>
  (tw_gP σ 0 a 2).bind fun v1 =>
  (tw_gI σ 0 a 1).bind fun v5 =>
  (tw_gI σ 0 a 0).bind fun v9 =>
  (tw_aP σ 24 v1 ((v5 + v9) - (v5 + v9) / 6 * 6)).bind fun v16 =>
  (fX6_copyFrom σ v16 r1).bind fun σ18 =>
  (tw_gI σ18 0 a 0).bind fun v22 =>
  if 6 ≤ v22 then
    (tw_gI σ18 0 a 1).bind fun v45 =>
    (tw_pI σ18 0 a 1 ((v45 + 1) - (v45 + 1) / 6 * 6)).bind fun σ53 =>
    some σ53
  else
    (tw_gI σ18 0 a 0).bind fun v32 =>
    (tw_pI σ18 0 a 0 (v32 + 1)).bind fun σ37 =>
    some σ37
def rmX0_record : Room := { frames := 3, cells := 0, slots := 0, locals := 61 }
def fX3_told (σ : tw_St) (a : Nat) (x1 : Int32) (x2 : Int32) : Option (Int32) :=
  (tw_is σ 3 a).bind fun _ =>
  if x1 < 0 then
    some (-6)
  else
    (tw_gI σ 3 a 0).bind fun v6 =>
    if v6 ≤ x1 then
      some (-6)
    else
      if x2 < 0 then
        some (-6)
      else
        if x2 < 5 then
          (tw_gP σ 3 a 1).bind fun v25 =>
          (tw_aI σ 20 v25 ((x1 * 5) + x2)).bind fun v33 =>
          some v33
        else
          some (-6)
def rmX3_told : Room := { frames := 0, cells := 0, slots := 0, locals := 0 }
def fX2_valueOf (σ : tw_St) (a : Nat) (x1 : Int32) : Option (Int32) :=
  (tw_is σ 2 a).bind fun _ =>
  if x1 < 0 then
    some 0
  else
    if 4 ≤ x1 then
      some 0
    else
      (tw_gP σ 2 a 3).bind fun v10 =>
      (tw_aI σ 20 v10 x1).bind fun v14 =>
      some v14
def rmX2_valueOf : Room := { frames := 0, cells := 0, slots := 0, locals := 0 }
def fJ9_floorMod (σ : tw_St) (x0 : Int32) (x1 : Int32) : Option (Int32) :=
  if x1 = 0 then none else
  if 0 ≤ (x0 ^^^ x1) then
    some (x0 - x0 / x1 * x1)
  else
    if (x0 - x0 / x1 * x1) = 0 then
      some (x0 - x0 / x1 * x1)
    else
      some ((x0 - x0 / x1 * x1) + x1)
def rmJ9_floorMod : Room := { frames := 0, cells := 0, slots := 0, locals := 0 }
def fX2_give (σ : tw_St) (a : Nat) (x1 : Int32) (x2 : Int32) : Option (tw_St) :=
  (tw_is σ 2 a).bind fun _ =>
  if x1 < 0 then
    some σ
  else
    if 4 ≤ x1 then
      some σ
    else
      (tw_gP σ 2 a 3).bind fun v10 =>
      (fJ9_floorMod σ x2 1000).bind fun v18 =>
      (tw_wI σ 20 v10 x1 v18).bind fun σ21 =>
      some σ21
def rmX2_give : Room := { frames := 1, cells := 0, slots := 0, locals := 22 }
def fX2_placeOfCell (σ : tw_St) (x0 : Int32) : Option (Int32) :=
  (fJ9_floorMod σ x0 8).bind fun v4 =>
  some (4 + v4)
def rmX2_placeOfCell : Room := { frames := 1, cells := 0, slots := 0, locals := 22 }
def fX2_stepOver_b190 (σ : tw_St) (x2 : Int32) : Option (Int32 × tw_St) :=
  some ((x2 + 1), σ)
def fX2_stepOver (σ : tw_St) (a : Nat) (r1 : Nat) (x2 : Int32) : Option (Int32 × tw_St) :=
  (tw_is σ 2 a).bind fun _ =>
  (fX3_told σ r1 x2 1).bind fun v3 =>
  (fX3_told σ r1 x2 2).bind fun v11 =>
  (fX2_valueOf σ a v11).bind fun v14 =>
  (fX3_told σ r1 x2 3).bind fun v23 =>
  (fX2_valueOf σ a v23).bind fun v26 =>
  (fX3_told σ r1 x2 4).bind fun v34 =>
  (fX3_told σ r1 x2 0).bind fun v42 =>
  if v42 = 0 then
    (fX2_give σ a v3 v34).bind fun σ92 =>
    fX2_stepOver_b190 σ92 x2
  else
  if v42 = 1 then
    (fX2_give σ a v3 (v14 + v26)).bind fun σ105 =>
    fX2_stepOver_b190 σ105 x2
  else
  if v42 = 2 then
    (fX2_give σ a v3 (v14 - v26)).bind fun σ118 =>
    fX2_stepOver_b190 σ118 x2
  else
  if v42 = 3 then
    (fX2_give σ a v3 (v14 * v26)).bind fun σ131 =>
    fX2_stepOver_b190 σ131 x2
  else
  if v42 = 4 then
    (tw_gP σ 2 a 3).bind fun v140 =>
    (fX2_placeOfCell σ v14).bind fun v145 =>
    (tw_aI σ 20 v140 v145).bind fun v148 =>
    (fX2_give σ a v3 v148).bind fun σ149 =>
    fX2_stepOver_b190 σ149 x2
  else
  if v42 = 5 then
    (tw_gP σ 2 a 3).bind fun v156 =>
    (fX2_valueOf σ a v3).bind fun v161 =>
    (fX2_placeOfCell σ v161).bind fun v164 =>
    (tw_wI σ 20 v156 v164 v14).bind fun σ169 =>
    fX2_stepOver_b190 σ169 x2
  else
  if v42 = 6 then
    (fX2_valueOf σ a v3).bind fun v175 =>
    if v175 = 0 then
      some ((x2 + 1), σ)
    else
      some (v34, σ)
  else
    fX2_stepOver_b190 σ x2
def rmX2_stepOver : Room := { frames := 2, cells := 0, slots := 0, locals := 44 }
def fX2_follow_b80 (σ : tw_St) (z0 : Int32) (z1 : Nat) : Option (tw_St) :=
  (tw_bz z0).bind fun _ =>
  (tw_pI σ 2 z1 1 z0).bind fun σ80 =>
  some σ80
def fX2_follow_b66 (σ : tw_St) (a0 : Nat) (a1 : Nat) (x3 : Int32) : Option (tw_St) :=
  (tw_gI σ 3 a1 0).bind fun v69 =>
  if v69 ≤ x3 then
    fX2_follow_b80 σ 0 a0
  else
    fX2_follow_b80 σ 1 a0
def fX2_follow_h19 (k19 : (tw_St → Nat → Nat → Int32 → Option (tw_St))) (σ : tw_St) (a0 : Nat) (a1 : Nat) (x3 : Int32) : Option (tw_St) :=
  (tw_gI σ 2 a0 0).bind fun v20 =>
  if 100 ≤ v20 then
    fX2_follow_b66 σ a0 a1 x3
  else
    (tw_gI σ 3 a1 0).bind fun v30 =>
    if v30 ≤ x3 then
      fX2_follow_b66 σ a0 a1 x3
    else
      (tw_gP σ 2 a0 2).bind fun v37 =>
      (tw_gI σ 2 a0 0).bind fun v41 =>
      (tw_wI σ 20 v37 v41 x3).bind fun σ45 =>
      (tw_gI σ45 2 a0 0).bind fun v48 =>
      (tw_pI σ45 2 a0 0 (v48 + 1)).bind fun σ53 =>
      (fX2_stepOver σ53 a0 a1 x3).bind fun q59 =>
      k19 q59.2 a0 a1 q59.1
def fX2_follow_l19 (n : Nat) : tw_St → Nat → Nat → Int32 → Option (tw_St) := tw_it (fun _ _ _ _ => none) (fX2_follow_h19) n
def fX2_follow (σ : tw_St) (a : Nat) (r1 : Nat) (r2 : Nat) : Option (tw_St) :=
  (tw_is σ 2 a).bind fun _ =>
  (tw_gP σ 2 a 3).bind fun v3 =>
  (tw_cp σ r2 0 v3 0 12).bind fun σ9 =>
  (tw_pI σ9 2 a 0 0).bind fun σ14 =>
  fX2_follow_l19 tw_F σ14 a r1 0
def rmX2_follow : Room := { frames := 3, cells := 0, slots := 0, locals := 70 }
def fX5_follow_h2 (k2 : (tw_St → Nat → Int32 → Option (tw_St))) (σ : tw_St) (a0 : Nat) (x1 : Int32) : Option (tw_St) :=
  if 2 ≤ x1 then
    some σ
  else
    (tw_gP σ 5 a0 0).bind fun v8 =>
    (tw_aP σ 26 v8 x1).bind fun v12 =>
    (tw_gP σ 5 a0 6).bind fun v14 =>
    (tw_gP σ 6 v14 1).bind fun v17 =>
    (tw_aP σ 25 v17 x1).bind fun v21 =>
    (tw_gP σ 5 a0 6).bind fun v23 =>
    (tw_gP σ 6 v23 2).bind fun v26 =>
    (tw_aP σ 23 v26 x1).bind fun v30 =>
    (fX2_follow σ v12 v21 v30).bind fun σ31 =>
    k2 σ31 a0 (x1 + 1)
def fX5_follow_l2 (n : Nat) : tw_St → Nat → Int32 → Option (tw_St) := tw_it (fun _ _ _ => none) (fX5_follow_h2) n
def fX5_follow (σ : tw_St) (a : Nat) : Option (tw_St) :=
  (tw_is σ 5 a).bind fun _ =>
  fX5_follow_l2 tw_F σ a 0
def rmX5_follow : Room := { frames := 4, cells := 0, slots := 0, locals := 93 }
def fX5_clear_b85 (k22 : (tw_St → Nat → Int32 → Option (tw_St))) (σ : tw_St) (a0 : Nat) (x1 : Int32) : Option (tw_St) :=
  k22 σ a0 (x1 + 1)
def fX5_clear_h65 (k22 : (tw_St → Nat → Int32 → Option (tw_St))) (k65 : (tw_St → Nat → Int32 → Int32 → Option (tw_St))) (σ : tw_St) (a0 : Nat) (x1 : Int32) (x2 : Int32) : Option (tw_St) :=
  if 4 ≤ x2 then
    fX5_clear_b85 k22 σ a0 x1
  else
    (tw_gP σ 5 a0 8).bind fun v71 =>
    (tw_aP σ 23 v71 x1).bind fun v75 =>
    (tw_wI σ 20 v75 x2 0).bind fun σ78 =>
    k65 σ78 a0 x1 (x2 + 1)
def fX5_clear_l65 (k22 : (tw_St → Nat → Int32 → Option (tw_St))) (n : Nat) : tw_St → Nat → Int32 → Int32 → Option (tw_St) := tw_it (fun _ _ _ _ => none) (fX5_clear_h65 k22) n
def fX5_clear_b63 (k22 : (tw_St → Nat → Int32 → Option (tw_St))) (σ : tw_St) (a0 : Nat) (x1 : Int32) : Option (tw_St) :=
  fX5_clear_l65 k22 tw_F σ a0 x1 0
def fX5_clear_h43 (k22 : (tw_St → Nat → Int32 → Option (tw_St))) (k43 : (tw_St → Nat → Int32 → Int32 → Option (tw_St))) (σ : tw_St) (a0 : Nat) (x1 : Int32) (x2 : Int32) : Option (tw_St) :=
  if 5 ≤ x2 then
    fX5_clear_b63 k22 σ a0 x1
  else
    (tw_gP σ 5 a0 5).bind fun v49 =>
    (tw_aP σ 23 v49 x1).bind fun v53 =>
    (tw_wI σ 20 v53 x2 0).bind fun σ56 =>
    k43 σ56 a0 x1 (x2 + 1)
def fX5_clear_l43 (k22 : (tw_St → Nat → Int32 → Option (tw_St))) (n : Nat) : tw_St → Nat → Int32 → Int32 → Option (tw_St) := tw_it (fun _ _ _ _ => none) (fX5_clear_h43 k22) n
def fX5_clear_h22 (k22 : (tw_St → Nat → Int32 → Option (tw_St))) (σ : tw_St) (a0 : Nat) (x1 : Int32) : Option (tw_St) :=
  if 2 ≤ x1 then
    some σ
  else
    (tw_gP σ 5 a0 1).bind fun v28 =>
    (tw_wI σ 20 v28 x1 0).bind fun σ33 =>
    (tw_gP σ33 5 a0 2).bind fun v35 =>
    (tw_wI σ33 20 v35 x1 0).bind fun σ40 =>
    fX5_clear_l43 k22 tw_F σ40 a0 x1 0
def fX5_clear_l22 (n : Nat) : tw_St → Nat → Int32 → Option (tw_St) := tw_it (fun _ _ _ => none) (fX5_clear_h22) n
def fX5_clear_b20 (σ : tw_St) (a0 : Nat) : Option (tw_St) :=
  fX5_clear_l22 tw_F σ a0 0
def fX5_clear_h2 (k2 : (tw_St → Nat → Int32 → Option (tw_St))) (σ : tw_St) (a0 : Nat) (x1 : Int32) : Option (tw_St) :=
  if 2 ≤ x1 then
    fX5_clear_b20 σ a0
  else
    (tw_gP σ 5 a0 9).bind fun v8 =>
    (tw_wI σ 20 v8 x1 0).bind fun σ13 =>
    k2 σ13 a0 (x1 + 1)
def fX5_clear_l2 (n : Nat) : tw_St → Nat → Int32 → Option (tw_St) := tw_it (fun _ _ _ => none) (fX5_clear_h2) n
def fX5_clear (σ : tw_St) (a : Nat) : Option (tw_St) :=
  (tw_is σ 5 a).bind fun _ =>
  fX5_clear_l2 tw_F σ a 0
def rmX5_clear : Room := { frames := 0, cells := 0, slots := 0, locals := 0 }
def fX5_hasStep (σ : tw_St) (a : Nat) (x1 : Int32) : Option (Int32) :=
  (tw_is σ 5 a).bind fun _ =>
  (tw_gP σ 5 a 1).bind fun v1 =>
  (tw_aI σ 20 v1 x1).bind fun v5 =>
  (tw_gP σ 5 a 0).bind fun v7 =>
  (tw_aP σ 26 v7 x1).bind fun v11 =>
  (tw_gI σ 2 v11 0).bind fun v12 =>
  if v12 ≤ v5 then
    some 0
  else
    some 1
def rmX5_hasStep : Room := { frames := 0, cells := 0, slots := 0, locals := 0 }
def fX5_isReady_b21 (σ : tw_St) : Option (Int32) :=
  some 1
def fX5_isReady (σ : tw_St) (a : Nat) (x1 : Int32) (x2 : Int32) (x3 : Int32) : Option (Int32) :=
  (tw_is σ 5 a).bind fun _ =>
  if x2 < 0 then
    fX5_isReady_b21 σ
  else
    if 4 ≤ x2 then
      fX5_isReady_b21 σ
    else
      (tw_gP σ 5 a 8).bind fun v10 =>
      (tw_aP σ 23 v10 x1).bind fun v14 =>
      (tw_aI σ 20 v14 x2).bind fun v16 =>
      if x3 < v16 then
        some 0
      else
        fX5_isReady_b21 σ
def rmX5_isReady : Room := { frames := 0, cells := 0, slots := 0, locals := 0 }
def fX3_roomOf (σ : tw_St) (a : Nat) (x1 : Int32) : Option (Int32) :=
  (tw_is σ 3 a).bind fun _ =>
  (fX3_told σ a x1 0).bind fun v3 =>
  if v3 = 3 then
    some 0
  else
  if v3 = 4 then
    some 1
  else
  if v3 = 5 then
    some 1
  else
    some (-6)
def rmX3_roomOf : Room := { frames := 1, cells := 0, slots := 0, locals := 22 }
def fX5_hindranceOf_b72 (σ : tw_St) (a0 : Nat) (x1 : Int32) (x2 : Int32) (a3 : Nat) (x4 : Int32) : Option (Int32) :=
  (fX3_roomOf σ a3 x4).bind fun v75 =>
  if v75 = (-6) then
    some 0
  else
    (tw_gI σ 5 a0 11).bind fun v90 =>
    if v75 = v90 then
      some 0
    else
      (tw_gP σ 5 a0 9).bind fun v97 =>
      (tw_aI σ 20 v97 v75).bind fun v102 =>
      if x2 < v102 then
        (tw_gP σ 5 a0 10).bind fun v110 =>
        (tw_aI σ 20 v110 v75).bind fun v115 =>
        if v115 = x1 then
          some 2
        else
          some 3
      else
        some 0
def fX5_hindranceOf_h41 (k41 : (tw_St → Nat → Int32 → Int32 → Nat → Int32 → Int32 → Option (Int32))) (σ : tw_St) (a0 : Nat) (x1 : Int32) (x2 : Int32) (a3 : Nat) (x4 : Int32) (x5 : Int32) : Option (Int32) :=
  if 3 < x5 then
    fX5_hindranceOf_b72 σ a0 x1 x2 a3 x4
  else
    (fX3_told σ a3 x4 x5).bind fun v54 =>
    (fX5_isReady σ a0 x1 v54 x2).bind fun v58 =>
    if v58 = 0 then
      some 1
    else
      k41 σ a0 x1 x2 a3 x4 (x5 + 1)
def fX5_hindranceOf_l41 (n : Nat) : tw_St → Nat → Int32 → Int32 → Nat → Int32 → Int32 → Option (Int32) := tw_it (fun _ _ _ _ _ _ _ => none) (fX5_hindranceOf_h41) n
def fX5_hindranceOf (σ : tw_St) (a : Nat) (x1 : Int32) (x2 : Int32) : Option (Int32) :=
  (tw_is σ 5 a).bind fun _ =>
  (fX5_hasStep σ a x1).bind fun v2 =>
  if v2 = 0 then
    some 5
  else
    (tw_gP σ 5 a 6).bind fun v11 =>
    (tw_gP σ 6 v11 1).bind fun v14 =>
    (tw_aP σ 25 v14 x1).bind fun v18 =>
    (tw_gP σ 5 a 0).bind fun v21 =>
    (tw_aP σ 26 v21 x1).bind fun v25 =>
    (tw_gP σ 2 v25 2).bind fun v26 =>
    (tw_gP σ 5 a 1).bind fun v30 =>
    (tw_aI σ 20 v30 x1).bind fun v34 =>
    (tw_aI σ 20 v26 v34).bind fun v35 =>
    fX5_hindranceOf_l41 tw_F σ a x1 x2 v18 v35 1
def rmX5_hindranceOf : Room := { frames := 2, cells := 0, slots := 0, locals := 43 }
def fX5_latestStart (σ : tw_St) (a : Nat) (x1 : Int32) : Option (Int32) :=
  (tw_is σ 5 a).bind fun _ =>
  (tw_gP σ 5 a 1).bind fun v1 =>
  (tw_aI σ 20 v1 x1).bind fun v5 =>
  if v5 ≤ 0 then
    some (-6)
  else
    (tw_gP σ 5 a 3).bind fun v12 =>
    (tw_aP σ 23 v12 x1).bind fun v16 =>
    (tw_aI σ 20 v16 (v5 - 1)).bind fun v20 =>
    some v20
def rmX5_latestStart : Room := { frames := 0, cells := 0, slots := 0, locals := 0 }
def fX5_starterNow_b96 (σ : tw_St) (x2 : Int32) (x3 : Int32) (x4 : Int32) (x5 : Int32) : Option (Int32) :=
  if x4 = 0 then
    if x5 = 0 then
      some (-6)
    else
      some x3
  else
    some x2
def fX5_starterNow_b52 (σ : tw_St) (a0 : Nat) (x2 : Int32) (x3 : Int32) (x4 : Int32) (z0 : Int32) : Option (Int32) :=
  if x4 = 0 then
    fX5_starterNow_b96 σ x2 x3 x4 z0
  else
    if z0 = 0 then
      fX5_starterNow_b96 σ x2 x3 x4 z0
    else
      (tw_gP σ 5 a0 6).bind fun v65 =>
      (tw_gP σ 6 v65 0).bind fun v68 =>
      (tw_aI σ 20 v68 0).bind fun v72 =>
      if v72 = 2 then
        (fX5_latestStart σ a0 x3).bind fun v79 =>
        (fX5_latestStart σ a0 x2).bind fun v84 =>
        if v84 ≤ v79 then
          some x2
        else
          some x3
      else
        fX5_starterNow_b96 σ x2 x3 x4 z0
def fX5_starterNow_b51 (σ : tw_St) (a0 : Nat) (x2 : Int32) (x3 : Int32) (x4 : Int32) : Option (Int32) :=
  fX5_starterNow_b52 σ a0 x2 x3 x4 0
def fX5_starterNow_b24 (σ : tw_St) (a0 : Nat) (x2 : Int32) (x3 : Int32) (z0 : Int32) : Option (Int32) :=
  (tw_gP σ 5 a0 7).bind fun v27 =>
  (tw_aI σ 20 v27 x3).bind fun v31 =>
  if v31 = 0 then
    (tw_gP σ 5 a0 6).bind fun v36 =>
    (tw_gP σ 6 v36 0).bind fun v39 =>
    (tw_aI σ 20 v39 0).bind fun v43 =>
    if v43 = 0 then
      fX5_starterNow_b51 σ a0 x2 x3 z0
    else
      fX5_starterNow_b52 σ a0 x2 x3 z0 1
  else
    fX5_starterNow_b51 σ a0 x2 x3 z0
def fX5_starterNow (σ : tw_St) (a : Nat) (x1 : Int32) : Option (Int32) :=
  (tw_is σ 5 a).bind fun _ =>
  (fJ9_floorMod σ x1 2).bind fun v2 =>
  (tw_gP σ 5 a 7).bind fun v11 =>
  (tw_aI σ 20 v11 v2).bind fun v15 =>
  if v15 = 0 then
    fX5_starterNow_b24 σ a v2 (1 - v2) 1
  else
    fX5_starterNow_b24 σ a v2 (1 - v2) 0
def rmX5_starterNow : Room := { frames := 1, cells := 0, slots := 0, locals := 22 }
def fX6_ticksFor (σ : tw_St) (a : Nat) (x1 : Int32) : Option (Int32) :=
  (tw_is σ 6 a).bind fun _ =>
  if x1 = 0 then
    (tw_gP σ 6 a 0).bind fun v5 =>
    (tw_aI σ 20 v5 1).bind fun v9 =>
    some v9
  else
    if x1 = 1 then
      (tw_gP σ 6 a 0).bind fun v17 =>
      (tw_aI σ 20 v17 2).bind fun v21 =>
      some v21
    else
      some 1
def rmX6_ticksFor : Room := { frames := 0, cells := 0, slots := 0, locals := 0 }
def fJ9_max (σ : tw_St) (x0 : Int32) (x1 : Int32) : Option (Int32) :=
  if x0 < x1 then
    some x1
  else
    some x0
def rmJ9_max : Room := { frames := 0, cells := 0, slots := 0, locals := 0 }
def fX3_givenBy_b18 (σ : tw_St) : Option (Int32) :=
  some (-6)
def fX3_givenBy (σ : tw_St) (a : Nat) (x1 : Int32) : Option (Int32) :=
  (tw_is σ 3 a).bind fun _ =>
  (fX3_told σ a x1 0).bind fun v3 =>
  if v3 = 5 then
    fX3_givenBy_b18 σ
  else
    if v3 = 6 then
      fX3_givenBy_b18 σ
    else
      (fX3_told σ a x1 1).bind fun v26 =>
      some v26
def rmX3_givenBy : Room := { frames := 1, cells := 0, slots := 0, locals := 22 }
def fX5_start_b132 (σ : tw_St) (a0 : Nat) (x1 : Int32) (x5 : Int32) (x6 : Int32) : Option (tw_St) :=
  if x5 = (-6) then
    some σ
  else
    (tw_gP σ 5 a0 9).bind fun v140 =>
    (tw_wI σ 20 v140 x5 x6).bind fun σ147 =>
    (tw_gP σ147 5 a0 10).bind fun v149 =>
    (tw_wI σ147 20 v149 x5 x1).bind fun σ155 =>
    some σ155
def fX5_start (σ : tw_St) (a : Nat) (x1 : Int32) (x2 : Int32) : Option (tw_St) :=
  (tw_is σ 5 a).bind fun _ =>
  (tw_gP σ 5 a 1).bind fun v1 =>
  (tw_aI σ 20 v1 x1).bind fun v5 =>
  (tw_gP σ 5 a 0).bind fun v8 =>
  (tw_aP σ 26 v8 x1).bind fun v12 =>
  (tw_gP σ 2 v12 2).bind fun v13 =>
  (tw_aI σ 20 v13 v5).bind fun v17 =>
  (tw_gP σ 5 a 6).bind fun v21 =>
  (tw_gP σ 6 v21 1).bind fun v24 =>
  (tw_aP σ 25 v24 x1).bind fun v28 =>
  (fX3_roomOf σ v28 v17).bind fun v31 =>
  (tw_gP σ 5 a 6).bind fun v38 =>
  (fX6_ticksFor σ v38 v31).bind fun v43 =>
  (tw_gP σ 5 a 3).bind fun v50 =>
  (tw_aP σ 23 v50 x1).bind fun v54 =>
  (tw_wI σ 20 v54 v5 x2).bind fun σ57 =>
  (tw_gP σ57 5 a 4).bind fun v59 =>
  (tw_aP σ57 23 v59 x1).bind fun v63 =>
  (tw_wI σ57 20 v63 v5 (x2 + v43)).bind fun σ67 =>
  (tw_gP σ67 5 a 1).bind fun v69 =>
  (tw_wI σ67 20 v69 x1 (v5 + 1)).bind fun σ76 =>
  (tw_gP σ76 5 a 2).bind fun v78 =>
  (tw_gP σ76 5 a 2).bind fun v83 =>
  (tw_aI σ76 20 v83 x1).bind fun v87 =>
  (fJ9_max σ76 v87 (x2 + v43)).bind fun v90 =>
  (tw_wI σ76 20 v78 x1 v90).bind fun σ93 =>
  (tw_gP σ93 5 a 6).bind fun v95 =>
  (tw_gP σ93 6 v95 1).bind fun v98 =>
  (tw_aP σ93 25 v98 x1).bind fun v102 =>
  (fX3_givenBy σ93 v102 v17).bind fun v105 =>
  if v105 < 0 then
    fX5_start_b132 σ93 a x1 v31 (x2 + v43)
  else
    if 4 ≤ v105 then
      fX5_start_b132 σ93 a x1 v31 (x2 + v43)
    else
      (tw_gP σ93 5 a 8).bind fun v122 =>
      (tw_aP σ93 23 v122 x1).bind fun v126 =>
      (tw_wI σ93 20 v126 v105 (x2 + v43)).bind fun σ131 =>
      fX5_start_b132 σ131 a x1 v31 (x2 + v43)
def rmX5_start : Room := { frames := 2, cells := 0, slots := 0, locals := 44 }
def fX5_playTick_b87 (σ : tw_St) (a0 : Nat) (x1 : Int32) (x2 : Int32) : Option (tw_St) :=
  if x2 = (-6) then
    some σ
  else
    (fX5_start σ a0 x2 x1).bind fun σ96 =>
    some σ96
def fX5_playTick_b81 (k33 : (tw_St → Nat → Int32 → Int32 → Int32 → Option (tw_St))) (σ : tw_St) (a0 : Nat) (x1 : Int32) (x2 : Int32) (x3 : Int32) : Option (tw_St) :=
  k33 σ a0 x1 x2 (x3 + 1)
def fX5_playTick_b76 (k33 : (tw_St → Nat → Int32 → Int32 → Int32 → Option (tw_St))) (σ : tw_St) (a0 : Nat) (x1 : Int32) (x2 : Int32) (x3 : Int32) (z0 : Int32) (z1 : Nat) : Option (tw_St) :=
  (tw_aI σ 20 z1 z0).bind fun v77 =>
  (tw_wI σ 20 z1 z0 (v77 + 1)).bind fun σ80 =>
  fX5_playTick_b81 k33 σ80 a0 x1 x2 x3
def fX5_playTick_h33 (k33 : (tw_St → Nat → Int32 → Int32 → Int32 → Option (tw_St))) (σ : tw_St) (a0 : Nat) (x1 : Int32) (x2 : Int32) (x3 : Int32) : Option (tw_St) :=
  if 2 ≤ x3 then
    fX5_playTick_b87 σ a0 x1 x2
  else
    if x3 = x2 then
      fX5_playTick_b81 k33 σ a0 x1 x2 x3
    else
      (fX5_hasStep σ a0 x3).bind fun v45 =>
      if v45 = 0 then
        fX5_playTick_b81 k33 σ a0 x1 x2 x3
      else
        (tw_gP σ 5 a0 7).bind fun v52 =>
        (tw_aI σ 20 v52 x3).bind fun v56 =>
        (tw_gP σ 5 a0 5).bind fun v60 =>
        (tw_aP σ 23 v60 x3).bind fun v64 =>
        if v56 = 0 then
          fX5_playTick_b76 k33 σ a0 x1 x2 x3 4 v64
        else
          fX5_playTick_b76 k33 σ a0 x1 x2 x3 v56 v64
def fX5_playTick_l33 (n : Nat) : tw_St → Nat → Int32 → Int32 → Int32 → Option (tw_St) := tw_it (fun _ _ _ _ _ => none) (fX5_playTick_h33) n
def fX5_playTick_b25 (σ : tw_St) (a0 : Nat) (x1 : Int32) : Option (tw_St) :=
  (fX5_starterNow σ a0 x1).bind fun v27 =>
  fX5_playTick_l33 tw_F σ a0 x1 v27 0
def fX5_playTick_h2 (k2 : (tw_St → Nat → Int32 → Int32 → Option (tw_St))) (σ : tw_St) (a0 : Nat) (x1 : Int32) (x2 : Int32) : Option (tw_St) :=
  if 2 ≤ x2 then
    fX5_playTick_b25 σ a0 x1
  else
    (tw_gP σ 5 a0 7).bind fun v8 =>
    (fX5_hindranceOf σ a0 x2 x1).bind fun v15 =>
    (tw_wI σ 20 v8 x2 v15).bind fun σ18 =>
    k2 σ18 a0 x1 (x2 + 1)
def fX5_playTick_l2 (n : Nat) : tw_St → Nat → Int32 → Int32 → Option (tw_St) := tw_it (fun _ _ _ _ => none) (fX5_playTick_h2) n
def fX5_playTick (σ : tw_St) (a : Nat) (x1 : Int32) : Option (tw_St) :=
  (tw_is σ 5 a).bind fun _ =>
  fX5_playTick_l2 tw_F σ a x1 0
def rmX5_playTick : Room := { frames := 3, cells := 0, slots := 0, locals := 71 }
def fX5_schedule_b34 (k11 : (tw_St → Nat → Int32 → Option (tw_St))) (σ : tw_St) (a0 : Nat) (x2 : Int32) : Option (tw_St) :=
  (fX5_playTick σ a0 x2).bind fun σ36 =>
  k11 σ36 a0 (x2 + 1)
def fX5_schedule_h11 (k11 : (tw_St → Nat → Int32 → Option (tw_St))) (σ : tw_St) (a0 : Nat) (x2 : Int32) : Option (tw_St) :=
  if 4096 ≤ x2 then
    some σ
  else
    (fX5_hasStep σ a0 0).bind fun v20 =>
    if v20 = 0 then
      (fX5_hasStep σ a0 1).bind fun v28 =>
      if v28 = 0 then
        some σ
      else
        fX5_schedule_b34 k11 σ a0 x2
    else
      fX5_schedule_b34 k11 σ a0 x2
def fX5_schedule_l11 (n : Nat) : tw_St → Nat → Int32 → Option (tw_St) := tw_it (fun _ _ _ => none) (fX5_schedule_h11) n
def fX5_schedule (σ : tw_St) (a : Nat) (x1 : Int32) : Option (tw_St) :=
  (tw_is σ 5 a).bind fun _ =>
  (tw_pI σ 5 a 11 x1).bind fun σ2 =>
  (fX5_clear σ2 a).bind fun σ6 =>
  fX5_schedule_l11 tw_F σ6 a 0
def rmX5_schedule : Room := { frames := 4, cells := 0, slots := 0, locals := 95 }
def fX5_play (σ : tw_St) (a : Nat) (x1 : Int32) : Option (tw_St) :=
  (tw_is σ 5 a).bind fun _ =>
  (fX5_follow σ a).bind fun σ1 =>
  (fX5_schedule σ1 a x1).bind fun σ6 =>
  some σ6
def rmX5_play : Room := { frames := 5, cells := 0, slots := 0, locals := 117 }
def fX7_set (σ : tw_St) (a : Nat) (x1 : Int32) (x2 : Int32) : Option (Int32 × tw_St) :=
  (tw_is σ 7 a).bind fun _ =>
  if x1 < 0 then
    some ((-2), σ)
  else
    if 3 ≤ x1 then
      some ((-2), σ)
    else
      (tw_lo x1).bind fun v14 =>
      if x2 < v14 then
        some ((-2), σ)
      else
        (tw_hi x1).bind fun v23 =>
        if x2 ≤ v23 then
          (tw_gP σ 7 a 0).bind fun v31 =>
          (tw_gP σ 6 v31 0).bind fun v34 =>
          (tw_aI σ 20 v34 x1).bind fun v38 =>
          (tw_gP σ 7 a 6).bind fun v41 =>
          (tw_gP σ 7 a 0).bind fun v45 =>
          (fX0_record σ v41 v45).bind fun σ48 =>
          (tw_gP σ48 7 a 0).bind fun v52 =>
          (tw_gP σ48 6 v52 0).bind fun v55 =>
          (tw_wI σ48 20 v55 x1 x2).bind fun σ60 =>
          (tw_gP σ60 7 a 1).bind fun v62 =>
          (fX5_play σ60 v62 (-6)).bind fun σ67 =>
          some (v38, σ67)
        else
          some ((-2), σ)
def rmX7_set : Room := { frames := 6, cells := 0, slots := 0, locals := 138 }
def fX1_charactersIn_b60 (σ : tw_St) (y2 : Int64) (x4 : Int32) : Option (Int32) :=
  if (lg_cmp y2 0) = 0 then
    some x4
  else
    some 0
def fX1_charactersIn_h5 (k5 : (tw_St → Int64 → Int32 → Option (Int32))) (σ : tw_St) (y2 : Int64) (x4 : Int32) : Option (Int32) :=
  if 8 ≤ x4 then
    fX1_charactersIn_b60 σ y2 x4
  else
    if (lg_cmp (y2 &&& 255) 0) = 0 then
      fX1_charactersIn_b60 σ y2 x4
    else
      if (lg_cmp (y2 &&& 255) 33) < 0 then
        some 0
      else
        if (lg_cmp (y2 &&& 255) 126) ≤ 0 then
          k5 σ ((y2.toUInt64 >>> ((8 : Int32).toInt64.toUInt64 &&& Int64.toUInt64 63)).toInt64) (x4 + 1)
        else
          some 0
def fX1_charactersIn_l5 (n : Nat) : tw_St → Int64 → Int32 → Option (Int32) := tw_it (fun _ _ _ => none) (fX1_charactersIn_h5) n
def fX1_charactersIn (σ : tw_St) (y0 : Int64) : Option (Int32) :=
  fX1_charactersIn_l5 tw_F σ y0 0
def rmX1_charactersIn : Room := { frames := 0, cells := 0, slots := 0, locals := 0 }
def fX1_append_h5 (k5 : (tw_St → Nat → Int64 → Int32 → Option (tw_St))) (σ : tw_St) (a0 : Nat) (y1 : Int64) (x4 : Int32) : Option (tw_St) :=
  if x4 < 0 then
    some σ
  else
    (tw_gI σ 1 a0 0).bind fun v11 =>
    if 80 ≤ v11 then
      some σ
    else
      (tw_gP σ 1 a0 1).bind fun v20 =>
      (tw_gI σ 1 a0 0).bind fun v24 =>
      (tw_bc (((((y1.toUInt64 >>> ((8 * x4).toInt64.toUInt64 &&& Int64.toUInt64 63)).toInt64 &&& 255).toInt32).toUInt32 % 65536).toInt32)).bind fun _ =>
      (tw_wI σ 21 v20 v24 (((((y1.toUInt64 >>> ((8 * x4).toInt64.toUInt64 &&& Int64.toUInt64 63)).toInt64 &&& 255).toInt32).toUInt32 % 65536).toInt32)).bind fun σ40 =>
      (tw_gI σ40 1 a0 0).bind fun v43 =>
      (tw_pI σ40 1 a0 0 (v43 + 1)).bind fun σ48 =>
      k5 σ48 a0 y1 (x4 + (-1))
def fX1_append_l5 (n : Nat) : tw_St → Nat → Int64 → Int32 → Option (tw_St) := tw_it (fun _ _ _ _ => none) (fX1_append_h5) n
def fX1_append (σ : tw_St) (a : Nat) (y1 : Int64) (x3 : Int32) : Option (tw_St) :=
  (tw_is σ 1 a).bind fun _ =>
  fX1_append_l5 tw_F σ a y1 (x3 - 1)
def rmX1_append : Room := { frames := 0, cells := 0, slots := 0, locals := 0 }
def fX7_put (σ : tw_St) (a : Nat) (y1 : Int64) : Option (Int32 × tw_St) :=
  (tw_is σ 7 a).bind fun _ =>
  (fX1_charactersIn σ y1).bind fun v1 =>
  if v1 = 0 then
    some ((-2), σ)
  else
    (tw_gP σ 7 a 4).bind fun v13 =>
    (tw_gI σ 1 v13 0).bind fun v16 =>
    if (v16 + v1) ≤ 80 then
      (tw_gP σ 7 a 4).bind fun v30 =>
      (fX1_append σ v30 y1 v1).bind fun σ35 =>
      (tw_gP σ35 7 a 4).bind fun v39 =>
      (tw_gI σ35 1 v39 0).bind fun v42 =>
      some (v42, σ35)
    else
      some ((-4), σ)
def rmX7_put : Room := { frames := 1, cells := 0, slots := 0, locals := 26 }
def fX7_wipe (σ : tw_St) (a : Nat) : Option (Int32 × tw_St) :=
  (tw_is σ 7 a).bind fun _ =>
  (tw_gP σ 7 a 4).bind fun v1 =>
  (tw_gI σ 1 v1 0).bind fun v4 =>
  (tw_gP σ 7 a 4).bind fun v9 =>
  (tw_pI σ 1 v9 0 0).bind fun σ13 =>
  some (v4, σ13)
def rmX7_wipe : Room := { frames := 0, cells := 0, slots := 0, locals := 0 }
def fX1_charAt (σ : tw_St) (a : Nat) (x1 : Int32) : Option (Int32) :=
  (tw_is σ 1 a).bind fun _ =>
  if x1 < 0 then
    some 0
  else
    (tw_gI σ 1 a 0).bind fun v6 =>
    if v6 ≤ x1 then
      some 0
    else
      if 80 ≤ x1 then
        some 0
      else
        (tw_gP σ 1 a 1).bind fun v19 =>
        (tw_aI σ 21 v19 x1).bind fun v23 =>
        (tw_bc v23).bind fun _ =>
        some v23
def rmX1_charAt : Room := { frames := 0, cells := 0, slots := 0, locals := 0 }
def fX4_take (σ : tw_St) (a : Nat) (x1 : Int32) : Option (Int32 × tw_St) :=
  (tw_is σ 4 a).bind fun _ =>
  (tw_gP σ 4 a 2).bind fun v1 =>
  (tw_gI σ 4 a 3).bind fun v5 =>
  (fX1_charAt σ v1 v5).bind fun v8 =>
  if v8 = x1 then
    (tw_gI σ 4 a 3).bind fun v19 =>
    (tw_pI σ 4 a 3 (v19 + 1)).bind fun σ24 =>
    some (1, σ24)
  else
    some (0, σ)
def rmX4_take : Room := { frames := 1, cells := 0, slots := 0, locals := 21 }
def fX4_takeFrom (σ : tw_St) (a : Nat) (x1 : Int32) (x2 : Int32) : Option (Int32 × tw_St) :=
  (tw_is σ 4 a).bind fun _ =>
  (tw_gP σ 4 a 2).bind fun v1 =>
  (tw_gI σ 4 a 3).bind fun v5 =>
  (fX1_charAt σ v1 v5).bind fun v8 =>
  if (v8 - x1) < 0 then
    some ((-6), σ)
  else
    if (v8 - x1) < x2 then
      (tw_gI σ 4 a 3).bind fun v28 =>
      (tw_pI σ 4 a 3 (v28 + 1)).bind fun σ33 =>
      some ((v8 - x1), σ33)
    else
      some ((-6), σ)
def rmX4_takeFrom : Room := { frames := 1, cells := 0, slots := 0, locals := 21 }
def fX4_takeRegister (σ : tw_St) (a : Nat) : Option (Int32 × tw_St) :=
  (tw_is σ 4 a).bind fun _ =>
  (fX4_takeFrom σ a 97 4).bind fun q4 =>
  some (q4.1, q4.2)
def rmX4_takeRegister : Room := { frames := 2, cells := 0, slots := 0, locals := 44 }
def fX3_add (σ : tw_St) (a : Nat) (x1 : Int32) (x2 : Int32) (x3 : Int32) (x4 : Int32) (x5 : Int32) : Option (tw_St) :=
  (tw_is σ 3 a).bind fun _ =>
  (tw_gI σ 3 a 0).bind fun v1 =>
  if v1 < 0 then
    some σ
  else
    (tw_gI σ 3 a 0).bind fun v8 =>
    if v8 < 12 then
      (tw_gI σ 3 a 0).bind fun v18 =>
      (tw_gP σ 3 a 1).bind fun v26 =>
      (tw_wI σ 20 v26 ((v18 * 5) + 0) x1).bind fun σ34 =>
      (tw_gP σ34 3 a 1).bind fun v36 =>
      (tw_wI σ34 20 v36 ((v18 * 5) + 1) x2).bind fun σ44 =>
      (tw_gP σ44 3 a 1).bind fun v46 =>
      (tw_wI σ44 20 v46 ((v18 * 5) + 2) x3).bind fun σ54 =>
      (tw_gP σ54 3 a 1).bind fun v56 =>
      (tw_wI σ54 20 v56 ((v18 * 5) + 3) x4).bind fun σ65 =>
      (tw_gP σ65 3 a 1).bind fun v67 =>
      (tw_wI σ65 20 v67 ((v18 * 5) + 4) x5).bind fun σ76 =>
      (tw_gI σ76 3 a 0).bind fun v79 =>
      (tw_pI σ76 3 a 0 (v79 + 1)).bind fun σ84 =>
      some σ84
    else
      some σ
def rmX3_add : Room := { frames := 0, cells := 0, slots := 0, locals := 0 }
def fX4_readStore (σ : tw_St) (a : Nat) : Option (Int32 × tw_St) :=
  (tw_is σ 4 a).bind fun _ =>
  (fX4_takeRegister σ a).bind fun q1 =>
  if q1.1 = (-6) then
    some (0, q1.2)
  else
    (fX4_take q1.2 a 93).bind fun q14 =>
    if q14.1 = 0 then
      some (0, q14.2)
    else
      (fX4_take q14.2 a 61).bind fun q23 =>
      if q23.1 = 0 then
        some (0, q23.2)
      else
        (fX4_takeRegister q23.2 a).bind fun q32 =>
        if q32.1 = (-6) then
          some (0, q32.2)
        else
          (tw_gP q32.2 4 a 0).bind fun v45 =>
          (fX3_add q32.2 v45 5 q1.1 q32.1 (-6) (-6)).bind fun σ55 =>
          some (1, σ55)
def rmX4_readStore : Room := { frames := 3, cells := 0, slots := 0, locals := 64 }
def fX4_readNumber_b50 (σ : tw_St) (a0 : Nat) (x1 : Int32) (x2 : Int32) (x3 : Int32) : Option (Int32 × tw_St) :=
  (tw_gP σ 4 a0 0).bind fun v51 =>
  (fX3_add σ v51 x1 x2 (-6) (-6) x3).bind fun σ61 =>
  some (1, σ61)
def fX4_readNumber_b49 (σ : tw_St) (a0 : Nat) (x1 : Int32) (x2 : Int32) (z0 : Int32) : Option (Int32 × tw_St) :=
  fX4_readNumber_b50 σ a0 x1 x2 z0
def fX4_readNumber (σ : tw_St) (a : Nat) (x1 : Int32) (x2 : Int32) : Option (Int32 × tw_St) :=
  (tw_is σ 4 a).bind fun _ =>
  (fX4_takeFrom σ a 48 10).bind fun q5 =>
  if q5.1 = (-6) then
    some (0, q5.2)
  else
    if q5.1 ≤ 0 then
      fX4_readNumber_b50 q5.2 a x1 x2 q5.1
    else
      (fX4_takeFrom q5.2 a 48 10).bind fun q26 =>
      if q26.1 = (-6) then
        fX4_readNumber_b49 q26.2 a x1 x2 q5.1
      else
        fX4_readNumber_b49 q26.2 a x1 x2 ((q5.1 * 10) + q26.1)
def rmX4_readNumber : Room := { frames := 2, cells := 0, slots := 0, locals := 44 }
def fX4_readLoad (σ : tw_St) (a : Nat) (x1 : Int32) : Option (Int32 × tw_St) :=
  (tw_is σ 4 a).bind fun _ =>
  (fX4_takeRegister σ a).bind fun q1 =>
  if q1.1 = (-6) then
    some (0, q1.2)
  else
    (fX4_take q1.2 a 93).bind fun q14 =>
    if q14.1 = 0 then
      some (0, q14.2)
    else
      (tw_gP q14.2 4 a 0).bind fun v23 =>
      (fX3_add q14.2 v23 4 x1 q1.1 (-6) (-6)).bind fun σ33 =>
      some (1, σ33)
def rmX4_readLoad : Room := { frames := 3, cells := 0, slots := 0, locals := 64 }
def fX4_takeSign (σ : tw_St) (a : Nat) : Option (Int32 × tw_St) :=
  (tw_is σ 4 a).bind fun _ =>
  (fX4_take σ a 43).bind fun q3 =>
  if q3.1 = 0 then
    (fX4_take q3.2 a 45).bind fun q14 =>
    if q14.1 = 0 then
      (fX4_take q14.2 a 42).bind fun q25 =>
      if q25.1 = 0 then
        some ((-6), q25.2)
      else
        some (3, q25.2)
    else
      some (2, q14.2)
  else
    some (1, q3.2)
def rmX4_takeSign : Room := { frames := 2, cells := 0, slots := 0, locals := 42 }
def fX4_readGiven (σ : tw_St) (a : Nat) (x1 : Int32) : Option (Int32 × tw_St) :=
  (tw_is σ 4 a).bind fun _ =>
  (fX4_take σ a 91).bind fun q3 =>
  if q3.1 = 0 then
    (fX4_takeRegister q3.2 a).bind fun q16 =>
    if q16.1 = (-6) then
      (fX4_readNumber q16.2 a 0 x1).bind fun q29 =>
      (tw_bz q29.1).bind fun _ =>
      some (q29.1, q29.2)
    else
      (fX4_takeSign q16.2 a).bind fun q34 =>
      if q34.1 = (-6) then
        some (0, q34.2)
      else
        (fX4_takeRegister q34.2 a).bind fun q47 =>
        if q47.1 = (-6) then
          some (0, q47.2)
        else
          (tw_gP q47.2 4 a 0).bind fun v62 =>
          (fX3_add q47.2 v62 q34.1 x1 q16.1 q47.1 (-6)).bind fun σ72 =>
          some (1, σ72)
  else
    (fX4_readLoad q3.2 a x1).bind fun q11 =>
    (tw_bz q11.1).bind fun _ =>
    some (q11.1, q11.2)
def rmX4_readGiven : Room := { frames := 4, cells := 0, slots := 0, locals := 86 }
def fX4_readOrder (σ : tw_St) (a : Nat) : Option (Int32 × tw_St) :=
  (tw_is σ 4 a).bind fun _ =>
  (fX4_take σ a 91).bind fun q3 =>
  if q3.1 = 0 then
    (fX4_takeRegister q3.2 a).bind fun q15 =>
    if q15.1 = (-6) then
      some (0, q15.2)
    else
      (fX4_take q15.2 a 63).bind fun q30 =>
      if q30.1 = 0 then
        (fX4_take q30.2 a 61).bind fun q47 =>
        if q47.1 = 0 then
          some (0, q47.2)
        else
          (fX4_readGiven q47.2 a q15.1).bind fun q55 =>
          if q55.1 = 0 then
            some (0, q55.2)
          else
            some (1, q55.2)
      else
        (fX4_readNumber q30.2 a 6 q15.1).bind fun q40 =>
        (tw_bz q40.1).bind fun _ =>
        some (q40.1, q40.2)
  else
    (fX4_readStore q3.2 a).bind fun q10 =>
    (tw_bz q10.1).bind fun _ =>
    some (q10.1, q10.2)
def rmX4_readOrder : Room := { frames := 5, cells := 0, slots := 0, locals := 110 }
def fX4_read_b85 (σ : tw_St) (a0 : Nat) : Option (Int32 × tw_St) :=
  (tw_gI σ 4 a0 3).bind fun v86 =>
  some (v86, σ)
def fX4_read_b74 (σ : tw_St) (a0 : Nat) : Option (Int32 × tw_St) :=
  (tw_gI σ 4 a0 3).bind fun v75 =>
  some (v75, σ)
def fX4_read_b33 (σ : tw_St) (a0 : Nat) : Option (Int32 × tw_St) :=
  (tw_gI σ 4 a0 3).bind fun v34 =>
  some (v34, σ)
def fX4_read_h20 (k20 : (tw_St → Nat → Int32 → Option (Int32 × tw_St))) (σ : tw_St) (a0 : Nat) (x1 : Int32) : Option (Int32 × tw_St) :=
  if 80 < x1 then
    fX4_read_b85 σ a0
  else
    (fX4_readOrder σ a0).bind fun q27 =>
    if q27.1 = 0 then
      fX4_read_b33 q27.2 a0
    else
      (tw_gI q27.2 4 a0 1).bind fun v40 =>
      (tw_pI q27.2 4 a0 1 (v40 + 1)).bind fun σ45 =>
      (tw_gI σ45 4 a0 3).bind fun v49 =>
      (tw_gP σ45 4 a0 2).bind fun v53 =>
      (tw_gI σ45 1 v53 0).bind fun v56 =>
      if v49 = v56 then
        some ((-6), σ45)
      else
        (fX4_take σ45 a0 59).bind fun q68 =>
        if q68.1 = 0 then
          fX4_read_b74 q68.2 a0
        else
          k20 q68.2 a0 (x1 + 1)
def fX4_read_l20 (n : Nat) : tw_St → Nat → Int32 → Option (Int32 × tw_St) := tw_it (fun _ _ _ => none) (fX4_read_h20) n
def fX4_read (σ : tw_St) (a : Nat) : Option (Int32 × tw_St) :=
  (tw_is σ 4 a).bind fun _ =>
  (tw_gP σ 4 a 0).bind fun v1 =>
  (tw_pI σ 3 v1 0 0).bind fun σ5 =>
  (tw_pI σ5 4 a 1 0).bind fun σ10 =>
  (tw_pI σ10 4 a 3 0).bind fun σ15 =>
  fX4_read_l20 tw_F σ15 a 0
def rmX4_read : Room := { frames := 6, cells := 0, slots := 0, locals := 131 }
def fX7_fault (σ : tw_St) (a : Nat) : Option (Int32 × tw_St) :=
  (tw_is σ 7 a).bind fun _ =>
  (tw_gP σ 7 a 5).bind fun v1 =>
  (fX4_read σ v1).bind fun q4 =>
  some (q4.1, q4.2)
def rmX7_fault : Room := { frames := 7, cells := 0, slots := 0, locals := 152 }
def fX7_isThread (σ : tw_St) (x0 : Int32) : Option (Int32) :=
  if x0 < 0 then
    some 0
  else
    if 2 ≤ x0 then
      some 0
    else
      some 1
def rmX7_isThread : Room := { frames := 0, cells := 0, slots := 0, locals := 0 }
def fX7_program (σ : tw_St) (a : Nat) (x1 : Int32) : Option (Int32 × tw_St) :=
  (tw_is σ 7 a).bind fun _ =>
  (fX7_isThread σ x1).bind fun v1 =>
  if v1 = 0 then
    some ((-1), σ)
  else
    (tw_gP σ 7 a 5).bind fun v10 =>
    (fX4_read σ v10).bind fun q13 =>
    if q13.1 = (-6) then
      (tw_gP q13.2 7 a 5).bind fun v25 =>
      (tw_gI q13.2 4 v25 1).bind fun v28 =>
      if v28 ≤ 12 then
        (tw_gP q13.2 7 a 6).bind fun v40 =>
        (tw_gP q13.2 7 a 0).bind fun v44 =>
        (fX0_record q13.2 v40 v44).bind fun σ47 =>
        (tw_gP σ47 7 a 0).bind fun v51 =>
        (tw_gP σ47 6 v51 1).bind fun v54 =>
        (tw_aP σ47 25 v54 x1).bind fun v58 =>
        (tw_gP σ47 7 a 5).bind fun v60 =>
        (tw_gP σ47 4 v60 0).bind fun v63 =>
        (fX3_copyFrom σ47 v58 v63).bind fun σ66 =>
        (tw_gP σ66 7 a 4).bind fun v70 =>
        (tw_pI σ66 1 v70 0 0).bind fun σ74 =>
        (tw_gP σ74 7 a 1).bind fun v78 =>
        (fX5_play σ74 v78 (-6)).bind fun σ83 =>
        (tw_gP σ83 7 a 0).bind fun v87 =>
        (tw_gP σ83 6 v87 1).bind fun v90 =>
        (tw_aP σ83 25 v90 x1).bind fun v94 =>
        (tw_gI σ83 3 v94 0).bind fun v95 =>
        some (v95, σ83)
      else
        some ((-4), q13.2)
    else
      some ((-3), q13.2)
def rmX7_program : Room := { frames := 7, cells := 0, slots := 0, locals := 152 }
def fX7_drop (σ : tw_St) (a : Nat) (x1 : Int32) : Option (Int32 × tw_St) :=
  (tw_is σ 7 a).bind fun _ =>
  (fX7_isThread σ x1).bind fun v1 =>
  if v1 = 0 then
    some ((-1), σ)
  else
    (tw_gP σ 7 a 0).bind fun v10 =>
    (tw_gP σ 6 v10 1).bind fun v13 =>
    (tw_aP σ 25 v13 x1).bind fun v17 =>
    (tw_gI σ 3 v17 0).bind fun v18 =>
    (tw_gP σ 7 a 6).bind fun v23 =>
    (tw_gP σ 7 a 0).bind fun v27 =>
    (fX0_record σ v23 v27).bind fun σ30 =>
    (tw_gP σ30 7 a 0).bind fun v34 =>
    (tw_gP σ30 6 v34 1).bind fun v37 =>
    (tw_aP σ30 25 v37 x1).bind fun v41 =>
    (tw_pI σ30 3 v41 0 0).bind fun σ43 =>
    (tw_gP σ43 7 a 1).bind fun v47 =>
    (fX5_play σ43 v47 (-6)).bind fun σ52 =>
    some (v18, σ52)
def rmX7_drop : Room := { frames := 6, cells := 0, slots := 0, locals := 138 }
def fX7_first (σ : tw_St) (a : Nat) (x1 : Int32) (x2 : Int32) (x3 : Int32) : Option (Int32 × tw_St) :=
  (tw_is σ 7 a).bind fun _ =>
  (fX7_isThread σ x1).bind fun v1 =>
  if v1 = 0 then
    some ((-1), σ)
  else
    if x2 < 0 then
      some ((-1), σ)
    else
      if x2 < 12 then
        if x3 < 0 then
          some ((-2), σ)
        else
          if x3 < 1000 then
            (tw_gP σ 7 a 0).bind fun v34 =>
            (tw_gP σ 6 v34 2).bind fun v37 =>
            (tw_aP σ 23 v37 x1).bind fun v41 =>
            (tw_aI σ 20 v41 x2).bind fun v43 =>
            (tw_gP σ 7 a 6).bind fun v47 =>
            (tw_gP σ 7 a 0).bind fun v51 =>
            (fX0_record σ v47 v51).bind fun σ54 =>
            (tw_gP σ54 7 a 0).bind fun v58 =>
            (tw_gP σ54 6 v58 2).bind fun v61 =>
            (tw_aP σ54 23 v61 x1).bind fun v65 =>
            (tw_wI σ54 20 v65 x2 x3).bind fun σ68 =>
            (tw_gP σ68 7 a 1).bind fun v70 =>
            (fX5_play σ68 v70 (-6)).bind fun σ75 =>
            some (v43, σ75)
          else
            some ((-2), σ)
      else
        some ((-1), σ)
def rmX7_first : Room := { frames := 6, cells := 0, slots := 0, locals := 138 }
def fX6_exchangeThreads (σ : tw_St) (a : Nat) : Option (tw_St) :=
  (tw_is σ 6 a).bind fun _ =>
  (tw_gP σ 6 a 1).bind fun v1 =>
  (tw_aP σ 25 v1 0).bind fun v5 =>
  (tw_gP σ 6 a 1).bind fun v8 =>
  (tw_gP σ 6 a 1).bind fun v13 =>
  (tw_aP σ 25 v13 1).bind fun v17 =>
  (tw_wP σ 25 3 v8 0 v17).bind fun σ18 =>
  (tw_gP σ18 6 a 1).bind fun v20 =>
  (tw_wP σ18 25 3 v20 1 v5).bind fun σ25 =>
  (tw_gP σ25 6 a 2).bind fun v27 =>
  (tw_aP σ25 23 v27 0).bind fun v31 =>
  (tw_gP σ25 6 a 2).bind fun v34 =>
  (tw_gP σ25 6 a 2).bind fun v39 =>
  (tw_aP σ25 23 v39 1).bind fun v43 =>
  (tw_wP σ25 23 20 v34 0 v43).bind fun σ44 =>
  (tw_gP σ44 6 a 2).bind fun v46 =>
  (tw_wP σ44 23 20 v46 1 v31).bind fun σ51 =>
  some σ51
def rmX6_exchangeThreads : Room := { frames := 0, cells := 0, slots := 0, locals := 0 }
def fX5_length (σ : tw_St) (a : Nat) : Option (Int32) :=
  (tw_is σ 5 a).bind fun _ =>
  (tw_gP σ 5 a 2).bind fun v1 =>
  (tw_aI σ 20 v1 0).bind fun v5 =>
  (tw_gP σ 5 a 2).bind fun v7 =>
  (tw_aI σ 20 v7 1).bind fun v11 =>
  (fJ9_max σ v5 v11).bind fun v12 =>
  some v12
def rmX5_length : Room := { frames := 1, cells := 0, slots := 0, locals := 21 }
def fX7_exchange (σ : tw_St) (a : Nat) : Option (Int32 × tw_St) :=
  (tw_is σ 7 a).bind fun _ =>
  (tw_gP σ 7 a 6).bind fun v1 =>
  (tw_gP σ 7 a 0).bind fun v5 =>
  (fX0_record σ v1 v5).bind fun σ8 =>
  (tw_gP σ8 7 a 0).bind fun v12 =>
  (fX6_exchangeThreads σ8 v12).bind fun σ15 =>
  (tw_gP σ15 7 a 1).bind fun v19 =>
  (fX5_play σ15 v19 (-6)).bind fun σ24 =>
  (tw_gP σ24 7 a 1).bind fun v28 =>
  (fX5_length σ24 v28).bind fun v31 =>
  some (v31, σ24)
def rmX7_exchange : Room := { frames := 6, cells := 0, slots := 0, locals := 138 }
def fX7_ofOrder (σ : tw_St) (a : Nat) (x1 : Int32) (x2 : Int32) (x3 : Int32) : Option (Int32) :=
  (tw_is σ 7 a).bind fun _ =>
  (fX7_isThread σ x1).bind fun v1 =>
  if v1 = 0 then
    some (-1)
  else
    if x2 < 0 then
      some (-1)
    else
      (tw_gP σ 7 a 0).bind fun v13 =>
      (tw_gP σ 6 v13 1).bind fun v16 =>
      (tw_aP σ 25 v16 x1).bind fun v20 =>
      (tw_gI σ 3 v20 0).bind fun v21 =>
      if x2 < v21 then
        if x3 < 0 then
          some (-2)
        else
          if x3 < 5 then
            (tw_gP σ 7 a 0).bind fun v42 =>
            (tw_gP σ 6 v42 1).bind fun v45 =>
            (tw_aP σ 25 v45 x1).bind fun v49 =>
            (fX3_told σ v49 x2 x3).bind fun v52 =>
            some v52
          else
            some (-2)
      else
        some (-1)
def rmX7_ofOrder : Room := { frames := 1, cells := 0, slots := 0, locals := 22 }
def fX5_stepsIn_b47 (k5 : (tw_St → Nat → Int32 → Int32 → Int32 → Int32 → Option (Int32))) (σ : tw_St) (a0 : Nat) (x1 : Int32) (x2 : Int32) (x3 : Int32) (x4 : Int32) : Option (Int32) :=
  k5 σ a0 x1 x2 x3 (x4 + 1)
def fX5_stepsIn_h5 (k5 : (tw_St → Nat → Int32 → Int32 → Int32 → Int32 → Option (Int32))) (σ : tw_St) (a0 : Nat) (x1 : Int32) (x2 : Int32) (x3 : Int32) (x4 : Int32) : Option (Int32) :=
  (tw_gP σ 5 a0 1).bind fun v8 =>
  (tw_aI σ 20 v8 x1).bind fun v12 =>
  if v12 ≤ x4 then
    some x3
  else
    (tw_gP σ 5 a0 6).bind fun v17 =>
    (tw_gP σ 6 v17 1).bind fun v20 =>
    (tw_aP σ 25 v20 x1).bind fun v24 =>
    (tw_gP σ 5 a0 0).bind fun v26 =>
    (tw_aP σ 26 v26 x1).bind fun v30 =>
    (tw_gP σ 2 v30 2).bind fun v31 =>
    (tw_aI σ 20 v31 x4).bind fun v36 =>
    (fX3_roomOf σ v24 v36).bind fun v37 =>
    if v37 = x2 then
      fX5_stepsIn_b47 k5 σ a0 x1 x2 (x3 + 1) x4
    else
      fX5_stepsIn_b47 k5 σ a0 x1 x2 x3 x4
def fX5_stepsIn_l5 (n : Nat) : tw_St → Nat → Int32 → Int32 → Int32 → Int32 → Option (Int32) := tw_it (fun _ _ _ _ _ _ => none) (fX5_stepsIn_h5) n
def fX5_stepsIn (σ : tw_St) (a : Nat) (x1 : Int32) (x2 : Int32) : Option (Int32) :=
  (tw_is σ 5 a).bind fun _ =>
  fX5_stepsIn_l5 tw_F σ a x1 x2 0 0
def rmX5_stepsIn : Room := { frames := 2, cells := 0, slots := 0, locals := 43 }
def fX7_ofThread (σ : tw_St) (a : Nat) (x1 : Int32) (x2 : Int32) : Option (Int32) :=
  (tw_is σ 7 a).bind fun _ =>
  (fX7_isThread σ x1).bind fun v1 =>
  if v1 = 0 then
    some (-1)
  else
    if x2 = 0 then
      (tw_gP σ 7 a 0).bind fun v69 =>
      (tw_gP σ 6 v69 1).bind fun v72 =>
      (tw_aP σ 25 v72 x1).bind fun v76 =>
      (tw_gI σ 3 v76 0).bind fun v77 =>
      some v77
    else
    if x2 = 1 then
      (tw_gP σ 7 a 1).bind fun v82 =>
      (tw_gP σ 5 v82 1).bind fun v85 =>
      (tw_aI σ 20 v85 x1).bind fun v89 =>
      some v89
    else
    if x2 = 2 then
      (tw_gP σ 7 a 1).bind fun v92 =>
      (tw_gP σ 5 v92 2).bind fun v95 =>
      (tw_aI σ 20 v95 x1).bind fun v99 =>
      some v99
    else
    if x2 = 3 then
      (tw_gP σ 7 a 1).bind fun v102 =>
      (tw_gP σ 5 v102 0).bind fun v105 =>
      (tw_aP σ 26 v105 x1).bind fun v109 =>
      (tw_gI σ 2 v109 1).bind fun v110 =>
      if v110 = 0 then
        some 0
      else
        some 1
    else
    if x2 = 4 then
      (tw_gP σ 7 a 1).bind fun v123 =>
      (tw_gP σ 5 v123 5).bind fun v126 =>
      (tw_aP σ 23 v126 x1).bind fun v130 =>
      (tw_aI σ 20 v130 1).bind fun v132 =>
      some v132
    else
    if x2 = 5 then
      (tw_gP σ 7 a 1).bind fun v135 =>
      (tw_gP σ 5 v135 5).bind fun v138 =>
      (tw_aP σ 23 v138 x1).bind fun v142 =>
      (tw_aI σ 20 v142 2).bind fun v144 =>
      some v144
    else
    if x2 = 6 then
      (tw_gP σ 7 a 1).bind fun v147 =>
      (tw_gP σ 5 v147 5).bind fun v150 =>
      (tw_aP σ 23 v150 x1).bind fun v154 =>
      (tw_aI σ 20 v154 3).bind fun v156 =>
      some v156
    else
    if x2 = 7 then
      (tw_gP σ 7 a 1).bind fun v159 =>
      (tw_gP σ 5 v159 5).bind fun v162 =>
      (tw_aP σ 23 v162 x1).bind fun v166 =>
      (tw_aI σ 20 v166 4).bind fun v168 =>
      some v168
    else
    if x2 = 8 then
      (tw_gP σ 7 a 1).bind fun v171 =>
      (fX5_latestStart σ v171 x1).bind fun v175 =>
      some v175
    else
    if x2 = 9 then
      (tw_gP σ 7 a 1).bind fun v180 =>
      (fX5_stepsIn σ v180 x1 0).bind fun v185 =>
      some v185
    else
    if x2 = 10 then
      (tw_gP σ 7 a 1).bind fun v190 =>
      (fX5_stepsIn σ v190 x1 1).bind fun v195 =>
      some v195
    else
      some (-2)
def rmX7_ofThread : Room := { frames := 3, cells := 0, slots := 0, locals := 67 }
def fX7_last (σ : tw_St) (a : Nat) (x1 : Int32) (x2 : Int32) : Option (Int32) :=
  (tw_is σ 7 a).bind fun _ =>
  (fX7_isThread σ x1).bind fun v1 =>
  if v1 = 0 then
    some (-1)
  else
    if x2 < 0 then
      some (-1)
    else
      if x2 < 12 then
        (tw_gP σ 7 a 1).bind fun v20 =>
        (tw_gP σ 5 v20 0).bind fun v23 =>
        (tw_aP σ 26 v23 x1).bind fun v27 =>
        (tw_gP σ 2 v27 3).bind fun v28 =>
        (tw_aI σ 20 v28 x2).bind fun v32 =>
        some v32
      else
        some (-1)
def rmX7_last : Room := { frames := 1, cells := 0, slots := 0, locals := 20 }
def fX5_waitAhead_b20 (σ : tw_St) (a0 : Nat) (x1 : Int32) (x2 : Int32) (z0 : Int32) : Option (Int32) :=
  (tw_gP σ 5 a0 3).bind fun v22 =>
  (tw_aP σ 23 v22 x1).bind fun v26 =>
  (tw_aI σ 20 v26 x2).bind fun v28 =>
  some (v28 - z0)
def fX5_waitAhead (σ : tw_St) (a : Nat) (x1 : Int32) (x2 : Int32) : Option (Int32) :=
  (tw_is σ 5 a).bind fun _ =>
  if x2 ≤ 0 then
    fX5_waitAhead_b20 σ a x1 x2 0
  else
    (tw_gP σ 5 a 3).bind fun v5 =>
    (tw_aP σ 23 v5 x1).bind fun v9 =>
    (tw_aI σ 20 v9 (x2 - 1)).bind fun v13 =>
    fX5_waitAhead_b20 σ a x1 x2 (v13 + 1)
def rmX5_waitAhead : Room := { frames := 0, cells := 0, slots := 0, locals := 0 }
def fX7_ofStep (σ : tw_St) (a : Nat) (x1 : Int32) (x2 : Int32) (x3 : Int32) : Option (Int32) :=
  (tw_is σ 7 a).bind fun _ =>
  (fX7_isThread σ x1).bind fun v1 =>
  if v1 = 0 then
    some (-1)
  else
    if x2 < 0 then
      some (-1)
    else
      (tw_gP σ 7 a 1).bind fun v13 =>
      (tw_gP σ 5 v13 1).bind fun v16 =>
      (tw_aI σ 20 v16 x1).bind fun v20 =>
      if x2 < v20 then
        if x3 = 0 then
          (tw_gP σ 7 a 1).bind fun v57 =>
          (tw_gP σ 5 v57 3).bind fun v60 =>
          (tw_aP σ 23 v60 x1).bind fun v64 =>
          (tw_aI σ 20 v64 x2).bind fun v66 =>
          some v66
        else
        if x3 = 1 then
          (tw_gP σ 7 a 1).bind fun v69 =>
          (tw_gP σ 5 v69 0).bind fun v72 =>
          (tw_aP σ 26 v72 x1).bind fun v76 =>
          (tw_gP σ 2 v76 2).bind fun v77 =>
          (tw_aI σ 20 v77 x2).bind fun v81 =>
          some v81
        else
        if x3 = 2 then
          (tw_gP σ 7 a 1).bind fun v84 =>
          (tw_gP σ 5 v84 4).bind fun v87 =>
          (tw_aP σ 23 v87 x1).bind fun v91 =>
          (tw_aI σ 20 v91 x2).bind fun v93 =>
          some v93
        else
        if x3 = 3 then
          (tw_gP σ 7 a 1).bind fun v96 =>
          (fX5_waitAhead σ v96 x1 x2).bind fun v101 =>
          some v101
        else
          some (-2)
      else
        some (-1)
def rmX7_ofStep : Room := { frames := 1, cells := 0, slots := 0, locals := 23 }
def fX5_starterIn_b39 (k2 : (tw_St → Nat → Int32 → Int32 → Option (Int32))) (σ : tw_St) (a0 : Nat) (x1 : Int32) (x2 : Int32) : Option (Int32) :=
  k2 σ a0 x1 (x2 + 1)
def fX5_starterIn_h9 (k2 : (tw_St → Nat → Int32 → Int32 → Option (Int32))) (k9 : (tw_St → Nat → Int32 → Int32 → Int32 → Option (Int32))) (σ : tw_St) (a0 : Nat) (x1 : Int32) (x2 : Int32) (x3 : Int32) : Option (Int32) :=
  (tw_gP σ 5 a0 1).bind fun v11 =>
  (tw_aI σ 20 v11 x2).bind fun v15 =>
  if v15 ≤ x3 then
    fX5_starterIn_b39 k2 σ a0 x1 x2
  else
    (tw_gP σ 5 a0 3).bind fun v20 =>
    (tw_aP σ 23 v20 x2).bind fun v24 =>
    (tw_aI σ 20 v24 x3).bind fun v26 =>
    if v26 = x1 then
      some x2
    else
      k9 σ a0 x1 x2 (x3 + 1)
def fX5_starterIn_l9 (k2 : (tw_St → Nat → Int32 → Int32 → Option (Int32))) (n : Nat) : tw_St → Nat → Int32 → Int32 → Int32 → Option (Int32) := tw_it (fun _ _ _ _ _ => none) (fX5_starterIn_h9 k2) n
def fX5_starterIn_h2 (k2 : (tw_St → Nat → Int32 → Int32 → Option (Int32))) (σ : tw_St) (a0 : Nat) (x1 : Int32) (x2 : Int32) : Option (Int32) :=
  if 2 ≤ x2 then
    some (-6)
  else
    fX5_starterIn_l9 k2 tw_F σ a0 x1 x2 0
def fX5_starterIn_l2 (n : Nat) : tw_St → Nat → Int32 → Int32 → Option (Int32) := tw_it (fun _ _ _ _ => none) (fX5_starterIn_h2) n
def fX5_starterIn (σ : tw_St) (a : Nat) (x1 : Int32) : Option (Int32) :=
  (tw_is σ 5 a).bind fun _ =>
  fX5_starterIn_l2 tw_F σ a x1 0
def rmX5_starterIn : Room := { frames := 0, cells := 0, slots := 0, locals := 0 }
def fX5_userIn_b95 (k2 : (tw_St → Nat → Int32 → Int32 → Int32 → Option (Int32))) (σ : tw_St) (a0 : Nat) (x1 : Int32) (x2 : Int32) (x3 : Int32) : Option (Int32) :=
  k2 σ a0 x1 x2 (x3 + 1)
def fX5_userIn_b89 (k2 : (tw_St → Nat → Int32 → Int32 → Int32 → Option (Int32))) (k10 : (tw_St → Nat → Int32 → Int32 → Int32 → Int32 → Option (Int32))) (σ : tw_St) (a0 : Nat) (x1 : Int32) (x2 : Int32) (x3 : Int32) (x4 : Int32) : Option (Int32) :=
  k10 σ a0 x1 x2 x3 (x4 + 1)
def fX5_userIn_b52 (k2 : (tw_St → Nat → Int32 → Int32 → Int32 → Option (Int32))) (k10 : (tw_St → Nat → Int32 → Int32 → Int32 → Int32 → Option (Int32))) (σ : tw_St) (a0 : Nat) (x1 : Int32) (x2 : Int32) (x3 : Int32) (x4 : Int32) (z0 : Int32) : Option (Int32) :=
  if z0 = 0 then
    fX5_userIn_b89 k2 k10 σ a0 x1 x2 x3 x4
  else
    (tw_gP σ 5 a0 6).bind fun v60 =>
    (tw_gP σ 6 v60 1).bind fun v63 =>
    (tw_aP σ 25 v63 x3).bind fun v67 =>
    (tw_gP σ 5 a0 0).bind fun v69 =>
    (tw_aP σ 26 v69 x3).bind fun v73 =>
    (tw_gP σ 2 v73 2).bind fun v74 =>
    (tw_aI σ 20 v74 x4).bind fun v79 =>
    (fX3_roomOf σ v67 v79).bind fun v80 =>
    if v80 = x2 then
      some x3
    else
      fX5_userIn_b89 k2 k10 σ a0 x1 x2 x3 x4
def fX5_userIn_b51 (k2 : (tw_St → Nat → Int32 → Int32 → Int32 → Option (Int32))) (k10 : (tw_St → Nat → Int32 → Int32 → Int32 → Int32 → Option (Int32))) (σ : tw_St) (a0 : Nat) (x1 : Int32) (x2 : Int32) (x3 : Int32) (x4 : Int32) : Option (Int32) :=
  fX5_userIn_b52 k2 k10 σ a0 x1 x2 x3 x4 0
def fX5_userIn_h10 (k2 : (tw_St → Nat → Int32 → Int32 → Int32 → Option (Int32))) (k10 : (tw_St → Nat → Int32 → Int32 → Int32 → Int32 → Option (Int32))) (σ : tw_St) (a0 : Nat) (x1 : Int32) (x2 : Int32) (x3 : Int32) (x4 : Int32) : Option (Int32) :=
  (tw_gP σ 5 a0 1).bind fun v13 =>
  (tw_aI σ 20 v13 x3).bind fun v17 =>
  if v17 ≤ x4 then
    fX5_userIn_b95 k2 σ a0 x1 x2 x3
  else
    (tw_gP σ 5 a0 3).bind fun v22 =>
    (tw_aP σ 23 v22 x3).bind fun v26 =>
    (tw_aI σ 20 v26 x4).bind fun v29 =>
    if x1 < v29 then
      fX5_userIn_b51 k2 k10 σ a0 x1 x2 x3 x4
    else
      (tw_gP σ 5 a0 4).bind fun v36 =>
      (tw_aP σ 23 v36 x3).bind fun v40 =>
      (tw_aI σ 20 v40 x4).bind fun v43 =>
      if v43 ≤ x1 then
        fX5_userIn_b51 k2 k10 σ a0 x1 x2 x3 x4
      else
        fX5_userIn_b52 k2 k10 σ a0 x1 x2 x3 x4 1
def fX5_userIn_l10 (k2 : (tw_St → Nat → Int32 → Int32 → Int32 → Option (Int32))) (n : Nat) : tw_St → Nat → Int32 → Int32 → Int32 → Int32 → Option (Int32) := tw_it (fun _ _ _ _ _ _ => none) (fX5_userIn_h10 k2) n
def fX5_userIn_h2 (k2 : (tw_St → Nat → Int32 → Int32 → Int32 → Option (Int32))) (σ : tw_St) (a0 : Nat) (x1 : Int32) (x2 : Int32) (x3 : Int32) : Option (Int32) :=
  if 2 ≤ x3 then
    some (-6)
  else
    fX5_userIn_l10 k2 tw_F σ a0 x1 x2 x3 0
def fX5_userIn_l2 (n : Nat) : tw_St → Nat → Int32 → Int32 → Int32 → Option (Int32) := tw_it (fun _ _ _ _ _ => none) (fX5_userIn_h2) n
def fX5_userIn (σ : tw_St) (a : Nat) (x1 : Int32) (x2 : Int32) : Option (Int32) :=
  (tw_is σ 5 a).bind fun _ =>
  fX5_userIn_l2 tw_F σ a x1 x2 0
def rmX5_userIn : Room := { frames := 2, cells := 0, slots := 0, locals := 43 }
def fX7_at (σ : tw_St) (a : Nat) (x1 : Int32) (x2 : Int32) : Option (Int32) :=
  (tw_is σ 7 a).bind fun _ =>
  if 0 ≤ x1 then
    if x2 = 0 then
      (tw_gP σ 7 a 1).bind fun v37 =>
      (fX5_starterIn σ v37 x1).bind fun v41 =>
      some v41
    else
    if x2 = 1 then
      (tw_gP σ 7 a 1).bind fun v46 =>
      (fX5_userIn σ v46 x1 0).bind fun v51 =>
      some v51
    else
    if x2 = 2 then
      (tw_gP σ 7 a 1).bind fun v56 =>
      (fX5_userIn σ v56 x1 1).bind fun v61 =>
      some v61
    else
      some (-2)
  else
    some (-2)
def rmX7_at : Room := { frames := 3, cells := 0, slots := 0, locals := 68 }
def fX5_ticksIn (σ : tw_St) (a : Nat) (x1 : Int32) : Option (Int32) :=
  (tw_is σ 5 a).bind fun _ =>
  (fX5_stepsIn σ a 0 x1).bind fun v3 =>
  (fX5_stepsIn σ a 1 x1).bind fun v9 =>
  (tw_gP σ 5 a 6).bind fun v14 =>
  (fX6_ticksFor σ v14 x1).bind fun v18 =>
  some ((v3 + v9) * v18)
def rmX5_ticksIn : Room := { frames := 3, cells := 0, slots := 0, locals := 67 }
def fX7_count (σ : tw_St) (a : Nat) (x1 : Int32) : Option (Int32) :=
  (tw_is σ 7 a).bind fun _ =>
  if x1 = 0 then
    (tw_gP σ 7 a 1).bind fun v57 =>
    (fX5_length σ v57).bind fun v60 =>
    some v60
  else
  if x1 = 1 then
    (tw_gP σ 7 a 1).bind fun v65 =>
    (tw_gP σ 5 v65 1).bind fun v68 =>
    (tw_aI σ 20 v68 0).bind fun v72 =>
    (tw_gP σ 7 a 1).bind fun v74 =>
    (tw_gP σ 5 v74 1).bind fun v77 =>
    (tw_aI σ 20 v77 1).bind fun v81 =>
    some (v72 + v81)
  else
  if x1 = 2 then
    (tw_gP σ 7 a 1).bind fun v85 =>
    (fX5_length σ v85).bind fun v88 =>
    (tw_gP σ 7 a 1).bind fun v92 =>
    (tw_gP σ 5 v92 1).bind fun v95 =>
    (tw_aI σ 20 v95 0).bind fun v99 =>
    (tw_gP σ 7 a 1).bind fun v102 =>
    (tw_gP σ 5 v102 1).bind fun v105 =>
    (tw_aI σ 20 v105 1).bind fun v109 =>
    some ((v88 - v99) - v109)
  else
  if x1 = 3 then
    (tw_gP σ 7 a 1).bind fun v113 =>
    (fX5_ticksIn σ v113 0).bind fun v117 =>
    some v117
  else
  if x1 = 4 then
    (tw_gP σ 7 a 1).bind fun v122 =>
    (fX5_ticksIn σ v122 1).bind fun v126 =>
    some v126
  else
  if x1 = 5 then
    (tw_gP σ 7 a 4).bind fun v131 =>
    (tw_gI σ 1 v131 0).bind fun v134 =>
    some v134
  else
  if x1 = 6 then
    (tw_gP σ 7 a 6).bind fun v139 =>
    (tw_gI σ 0 v139 0).bind fun v142 =>
    some v142
  else
  if x1 = 7 then
    (tw_gP σ 7 a 0).bind fun v147 =>
    (tw_gP σ 6 v147 0).bind fun v150 =>
    (tw_aI σ 20 v150 0).bind fun v154 =>
    some v154
  else
  if x1 = 8 then
    (tw_gP σ 7 a 0).bind fun v157 =>
    (tw_gP σ 6 v157 0).bind fun v160 =>
    (tw_aI σ 20 v160 1).bind fun v164 =>
    some v164
  else
  if x1 = 9 then
    (tw_gP σ 7 a 0).bind fun v167 =>
    (tw_gP σ 6 v167 0).bind fun v170 =>
    (tw_aI σ 20 v170 2).bind fun v174 =>
    some v174
  else
    some (-2)
def rmX7_count : Room := { frames := 4, cells := 0, slots := 0, locals := 88 }
def fX7_alone (σ : tw_St) (a : Nat) (x1 : Int32) : Option (Int32 × tw_St) :=
  (tw_is σ 7 a).bind fun _ =>
  (fX7_isThread σ x1).bind fun v1 =>
  if v1 = 0 then
    some ((-1), σ)
  else
    (tw_gP σ 7 a 2).bind fun v10 =>
    (tw_gP σ 7 a 0).bind fun v14 =>
    (fX6_copyFrom σ v10 v14).bind fun σ17 =>
    (tw_gP σ17 7 a 2).bind fun v21 =>
    (tw_gP σ17 6 v21 1).bind fun v24 =>
    (tw_aP σ17 25 v24 (1 - x1)).bind fun v30 =>
    (tw_pI σ17 3 v30 0 0).bind fun σ32 =>
    (tw_gP σ32 7 a 3).bind fun v36 =>
    (fX5_play σ32 v36 (-6)).bind fun σ41 =>
    (tw_gP σ41 7 a 3).bind fun v45 =>
    (fX5_length σ41 v45).bind fun v48 =>
    some (v48, σ41)
def rmX7_alone : Room := { frames := 6, cells := 0, slots := 0, locals := 138 }
def fX7_lengthByTurns (σ : tw_St) (a : Nat) (x1 : Int32) : Option (Int32 × tw_St) :=
  (tw_is σ 7 a).bind fun _ =>
  (tw_gP σ 7 a 2).bind fun v1 =>
  (tw_gP σ 7 a 0).bind fun v5 =>
  (fX6_copyFrom σ v1 v5).bind fun σ8 =>
  (tw_gP σ8 7 a 2).bind fun v12 =>
  (tw_gP σ8 6 v12 0).bind fun v15 =>
  (tw_wI σ8 20 v15 0 x1).bind fun σ20 =>
  (tw_gP σ20 7 a 3).bind fun v22 =>
  (fX5_play σ20 v22 (-6)).bind fun σ27 =>
  (tw_gP σ27 7 a 3).bind fun v31 =>
  (fX5_length σ27 v31).bind fun v34 =>
  some (v34, σ27)
def rmX7_lengthByTurns : Room := { frames := 6, cells := 0, slots := 0, locals := 138 }
def fX7_lengthWith (σ : tw_St) (a : Nat) (x1 : Int32) : Option (Int32 × tw_St) :=
  (tw_is σ 7 a).bind fun _ =>
  (tw_lo 0).bind fun v5 =>
  if x1 < v5 then
    some ((-2), σ)
  else
    (tw_hi 0).bind fun v14 =>
    if x1 ≤ v14 then
      (fX7_lengthByTurns σ a x1).bind fun q23 =>
      some (q23.1, q23.2)
    else
      some ((-2), σ)
def rmX7_lengthWith : Room := { frames := 7, cells := 0, slots := 0, locals := 159 }
def fX7_bestTurns_b43 (k16 : (tw_St → Nat → Int32 → Int32 → Int32 → Option (Int32 × tw_St))) (σ : tw_St) (a0 : Nat) (x1 : Int32) (x2 : Int32) (x3 : Int32) : Option (Int32 × tw_St) :=
  k16 σ a0 x1 x2 (x3 + 1)
def fX7_bestTurns_h16 (k16 : (tw_St → Nat → Int32 → Int32 → Int32 → Option (Int32 × tw_St))) (σ : tw_St) (a0 : Nat) (x1 : Int32) (x2 : Int32) (x3 : Int32) : Option (Int32 × tw_St) :=
  (tw_hi 0).bind fun v21 =>
  if v21 < x3 then
    some (x1, σ)
  else
    (fX7_lengthByTurns σ a0 x3).bind fun q27 =>
    if x2 ≤ q27.1 then
      fX7_bestTurns_b43 k16 q27.2 a0 x1 x2 x3
    else
      fX7_bestTurns_b43 k16 q27.2 a0 x3 q27.1 x3
def fX7_bestTurns_l16 (n : Nat) : tw_St → Nat → Int32 → Int32 → Int32 → Option (Int32 × tw_St) := tw_it (fun _ _ _ _ _ => none) (fX7_bestTurns_h16) n
def fX7_bestTurns (σ : tw_St) (a : Nat) : Option (Int32 × tw_St) :=
  (tw_is σ 7 a).bind fun _ =>
  (tw_lo 0).bind fun v4 =>
  (fX7_lengthByTurns σ a v4).bind fun q8 =>
  fX7_bestTurns_l16 tw_F q8.2 a v4 q8.1 (v4 + 1)
def rmX7_bestTurns : Room := { frames := 7, cells := 0, slots := 0, locals := 159 }
def fX7_lengthWithout_b12 (σ : tw_St) (a0 : Nat) (x1 : Int32) : Option (Int32 × tw_St) :=
  (tw_gP σ 7 a0 2).bind fun v13 =>
  (tw_gP σ 7 a0 0).bind fun v17 =>
  (fX6_copyFrom σ v13 v17).bind fun σ20 =>
  (tw_gP σ20 7 a0 3).bind fun v24 =>
  (fX5_play σ20 v24 x1).bind fun σ28 =>
  (tw_gP σ28 7 a0 3).bind fun v32 =>
  (fX5_length σ28 v32).bind fun v35 =>
  some (v35, σ28)
def fX7_lengthWithout (σ : tw_St) (a : Nat) (x1 : Int32) : Option (Int32 × tw_St) :=
  (tw_is σ 7 a).bind fun _ =>
  if x1 = 0 then
    fX7_lengthWithout_b12 σ a x1
  else
    if x1 = 1 then
      fX7_lengthWithout_b12 σ a x1
    else
      some ((-2), σ)
def rmX7_lengthWithout : Room := { frames := 6, cells := 0, slots := 0, locals := 138 }
def fX3_mayMove_b46 (k15 : (tw_St → Nat → Int32 → Int32 → Option (Int32))) (σ : tw_St) (a0 : Nat) (x1 : Int32) (x2 : Int32) : Option (Int32) :=
  k15 σ a0 x1 (x2 + 1)
def fX3_mayMove_h15 (k15 : (tw_St → Nat → Int32 → Int32 → Option (Int32))) (σ : tw_St) (a0 : Nat) (x1 : Int32) (x2 : Int32) : Option (Int32) :=
  (tw_gI σ 3 a0 0).bind fun v17 =>
  if v17 ≤ x2 then
    some 1
  else
    (fX3_told σ a0 x2 0).bind fun v26 =>
    if v26 = 6 then
      (fX3_told σ a0 x2 4).bind fun v37 =>
      if v37 = x1 then
        some 0
      else
        fX3_mayMove_b46 k15 σ a0 x1 x2
    else
      fX3_mayMove_b46 k15 σ a0 x1 x2
def fX3_mayMove_l15 (n : Nat) : tw_St → Nat → Int32 → Int32 → Option (Int32) := tw_it (fun _ _ _ _ => none) (fX3_mayMove_h15) n
def fX3_mayMove (σ : tw_St) (a : Nat) (x1 : Int32) : Option (Int32) :=
  (tw_is σ 3 a).bind fun _ =>
  (fX3_told σ a x1 0).bind fun v3 =>
  if v3 = 6 then
    some 0
  else
    fX3_mayMove_l15 tw_F σ a x1 0
def rmX3_mayMove : Room := { frames := 1, cells := 0, slots := 0, locals := 22 }
def fX3_exchangeWithNext_h21 (k21 : (tw_St → Nat → Int32 → Int32 → Option (tw_St))) (σ : tw_St) (a0 : Nat) (x2 : Int32) (x3 : Int32) : Option (tw_St) :=
  if 5 ≤ x3 then
    some σ
  else
    (tw_gP σ 3 a0 1).bind fun v27 =>
    (tw_aI σ 20 v27 (x2 + x3)).bind fun v33 =>
    (tw_gP σ 3 a0 1).bind fun v37 =>
    (tw_gP σ 3 a0 1).bind fun v44 =>
    (tw_aI σ 20 v44 ((x2 + 5) + x3)).bind fun v52 =>
    (tw_wI σ 20 v37 (x2 + x3) v52).bind fun σ53 =>
    (tw_gP σ53 3 a0 1).bind fun v55 =>
    (tw_wI σ53 20 v55 ((x2 + 5) + x3) v33).bind fun σ65 =>
    k21 σ65 a0 x2 (x3 + 1)
def fX3_exchangeWithNext_l21 (n : Nat) : tw_St → Nat → Int32 → Int32 → Option (tw_St) := tw_it (fun _ _ _ _ => none) (fX3_exchangeWithNext_h21) n
def fX3_exchangeWithNext (σ : tw_St) (a : Nat) (x1 : Int32) : Option (tw_St) :=
  (tw_is σ 3 a).bind fun _ =>
  if x1 < 0 then
    some σ
  else
    (tw_gI σ 3 a 0).bind fun v8 =>
    if (x1 + 1) < v8 then
      fX3_exchangeWithNext_l21 tw_F σ a (x1 * 5) 0
    else
      some σ
def rmX3_exchangeWithNext : Room := { frames := 0, cells := 0, slots := 0, locals := 0 }
def fX2_sameValues_h2 (k2 : (tw_St → Nat → Nat → Int32 → Option (Int32))) (σ : tw_St) (a0 : Nat) (a1 : Nat) (x2 : Int32) : Option (Int32) :=
  if 12 ≤ x2 then
    some 1
  else
    (tw_gP σ 2 a0 3).bind fun v9 =>
    (tw_aI σ 20 v9 x2).bind fun v13 =>
    (tw_gP σ 2 a1 3).bind fun v15 =>
    (tw_aI σ 20 v15 x2).bind fun v19 =>
    if v13 = v19 then
      k2 σ a0 a1 (x2 + 1)
    else
      some 0
def fX2_sameValues_l2 (n : Nat) : tw_St → Nat → Nat → Int32 → Option (Int32) := tw_it (fun _ _ _ _ => none) (fX2_sameValues_h2) n
def fX2_sameValues (σ : tw_St) (a : Nat) (r1 : Nat) : Option (Int32) :=
  (tw_is σ 2 a).bind fun _ =>
  fX2_sameValues_l2 tw_F σ a r1 0
def rmX2_sameValues : Room := { frames := 0, cells := 0, slots := 0, locals := 0 }
def fX7_lengthExchanged (σ : tw_St) (a : Nat) (x1 : Int32) (x2 : Int32) : Option (Int32 × tw_St) :=
  (tw_is σ 7 a).bind fun _ =>
  (tw_gP σ 7 a 2).bind fun v1 =>
  (tw_gP σ 7 a 0).bind fun v5 =>
  (fX6_copyFrom σ v1 v5).bind fun σ8 =>
  (tw_gP σ8 7 a 2).bind fun v12 =>
  (tw_gP σ8 6 v12 1).bind fun v15 =>
  (tw_aP σ8 25 v15 x1).bind fun v19 =>
  (fX3_exchangeWithNext σ8 v19 x2).bind fun σ21 =>
  (tw_gP σ21 7 a 3).bind fun v25 =>
  (fX5_follow σ21 v25).bind fun σ28 =>
  (tw_gP σ28 7 a 3).bind fun v32 =>
  (tw_gP σ28 5 v32 0).bind fun v35 =>
  (tw_aP σ28 26 v35 x1).bind fun v39 =>
  (tw_gP σ28 7 a 1).bind fun v41 =>
  (tw_gP σ28 5 v41 0).bind fun v44 =>
  (tw_aP σ28 26 v44 x1).bind fun v48 =>
  (fX2_sameValues σ28 v39 v48).bind fun v49 =>
  if v49 = 0 then
    some ((-6), σ28)
  else
    (tw_gP σ28 7 a 3).bind fun v59 =>
    (fX5_schedule σ28 v59 (-6)).bind fun σ64 =>
    (tw_gP σ64 7 a 3).bind fun v68 =>
    (fX5_length σ64 v68).bind fun v71 =>
    some (v71, σ64)
def rmX7_lengthExchanged : Room := { frames := 5, cells := 0, slots := 0, locals := 117 }
def fX7_bestExchange_b115 (σ : tw_St) (x2 : Int32) (x4 : Int32) (x5 : Int32) : Option (Int32 × tw_St) :=
  if x4 = (-6) then
    some ((-6), σ)
  else
    if x2 = 0 then
      some (x4, σ)
    else
      some (x5, σ)
def fX7_bestExchange_b109 (k47 : (tw_St → Nat → Int32 → Int32 → Nat → Int32 → Int32 → Int32 → Option (Int32 × tw_St))) (σ : tw_St) (a0 : Nat) (x1 : Int32) (x2 : Int32) (a3 : Nat) (x4 : Int32) (x5 : Int32) (x6 : Int32) : Option (Int32 × tw_St) :=
  k47 σ a0 x1 x2 a3 x4 x5 (x6 + 1)
def fX7_bestExchange_h47 (k47 : (tw_St → Nat → Int32 → Int32 → Nat → Int32 → Int32 → Int32 → Option (Int32 × tw_St))) (σ : tw_St) (a0 : Nat) (x1 : Int32) (x2 : Int32) (a3 : Nat) (x4 : Int32) (x5 : Int32) (x6 : Int32) : Option (Int32 × tw_St) :=
  (tw_gI σ 3 a3 0).bind fun v52 =>
  if v52 ≤ (x6 + 1) then
    fX7_bestExchange_b115 σ x2 x4 x5
  else
    (fX3_mayMove σ a3 x6).bind fun v61 =>
    if v61 = 0 then
      fX7_bestExchange_b109 k47 σ a0 x1 x2 a3 x4 x5 x6
    else
      (fX3_mayMove σ a3 (x6 + 1)).bind fun v72 =>
      if v72 = 0 then
        fX7_bestExchange_b109 k47 σ a0 x1 x2 a3 x4 x5 x6
      else
        (fX7_lengthExchanged σ a0 x1 x6).bind fun q82 =>
        if q82.1 = (-6) then
          fX7_bestExchange_b109 k47 q82.2 a0 x1 x2 a3 x4 x5 x6
        else
          if x5 ≤ q82.1 then
            fX7_bestExchange_b109 k47 q82.2 a0 x1 x2 a3 x4 x5 x6
          else
            fX7_bestExchange_b109 k47 q82.2 a0 x1 x2 a3 x6 q82.1 x6
def fX7_bestExchange_l47 (n : Nat) : tw_St → Nat → Int32 → Int32 → Nat → Int32 → Int32 → Int32 → Option (Int32 × tw_St) := tw_it (fun _ _ _ _ _ _ _ _ => none) (fX7_bestExchange_h47) n
def fX7_bestExchange_b21 (σ : tw_St) (a0 : Nat) (x1 : Int32) (x2 : Int32) : Option (Int32 × tw_St) :=
  (tw_gP σ 7 a0 0).bind fun v22 =>
  (tw_gP σ 6 v22 1).bind fun v25 =>
  (tw_aP σ 25 v25 x1).bind fun v29 =>
  (tw_gP σ 7 a0 1).bind fun v36 =>
  (fX5_length σ v36).bind fun v39 =>
  fX7_bestExchange_l47 tw_F σ a0 x1 x2 v29 (-6) v39 0
def fX7_bestExchange (σ : tw_St) (a : Nat) (x1 : Int32) (x2 : Int32) : Option (Int32 × tw_St) :=
  (tw_is σ 7 a).bind fun _ =>
  (fX7_isThread σ x1).bind fun v1 =>
  if v1 = 0 then
    some ((-1), σ)
  else
    if x2 = 0 then
      fX7_bestExchange_b21 σ a x1 x2
    else
      if x2 = 1 then
        fX7_bestExchange_b21 σ a x1 x2
      else
        some ((-2), σ)
def rmX7_bestExchange : Room := { frames := 6, cells := 0, slots := 0, locals := 139 }
def fX0_takeBack (σ : tw_St) (a : Nat) (r1 : Nat) : Option (tw_St) :=
  (tw_is σ 0 a).bind fun _ =>
  (tw_gI σ 0 a 0).bind fun v1 =>
  if v1 = 0 then
    some σ
  else
    (tw_gI σ 0 a 0).bind fun v10 =>
    (tw_pI σ 0 a 0 (v10 - 1)).bind fun σ15 =>
    (tw_gP σ15 0 a 2).bind fun v20 =>
    (tw_gI σ15 0 a 1).bind fun v24 =>
    (tw_gI σ15 0 a 0).bind fun v28 =>
    (tw_aP σ15 24 v20 ((v24 + v28) - (v24 + v28) / 6 * 6)).bind fun v35 =>
    (fX6_copyFrom σ15 r1 v35).bind fun σ36 =>
    some σ36
def rmX0_takeBack : Room := { frames := 3, cells := 0, slots := 0, locals := 61 }
def fX7_undo (σ : tw_St) (a : Nat) : Option (Int32 × tw_St) :=
  (tw_is σ 7 a).bind fun _ =>
  (tw_gP σ 7 a 6).bind fun v1 =>
  (tw_gI σ 0 v1 0).bind fun v4 =>
  if v4 = 0 then
    some ((-5), σ)
  else
    (tw_gP σ 7 a 6).bind fun v14 =>
    (tw_gP σ 7 a 0).bind fun v18 =>
    (fX0_takeBack σ v14 v18).bind fun σ21 =>
    (tw_gP σ21 7 a 1).bind fun v25 =>
    (fX5_play σ21 v25 (-6)).bind fun σ30 =>
    (tw_gP σ30 7 a 6).bind fun v34 =>
    (tw_gI σ30 0 v34 0).bind fun v37 =>
    some (v37, σ30)
def rmX7_undo : Room := { frames := 6, cells := 0, slots := 0, locals := 138 }
def fX7_save (σ : tw_St) (a : Nat) (x1 : Int32) : Option (Int32 × tw_St) :=
  (tw_is σ 7 a).bind fun _ =>
  if x1 < 0 then
    some ((-2), σ)
  else
    if x1 < 2 then
      (tw_gP σ 7 a 7).bind fun v13 =>
      (tw_aP σ 24 v13 x1).bind fun v17 =>
      (tw_gP σ 7 a 0).bind fun v19 =>
      (fX6_copyFrom σ v17 v19).bind fun σ22 =>
      (tw_gP σ22 7 a 8).bind fun v26 =>
      (tw_bz 1).bind fun _ =>
      (tw_wI σ22 22 v26 x1 1).bind fun σ31 =>
      (tw_gP σ31 7 a 1).bind fun v33 =>
      (fX5_length σ31 v33).bind fun v36 =>
      some (v36, σ31)
    else
      some ((-2), σ)
def rmX7_save : Room := { frames := 3, cells := 0, slots := 0, locals := 61 }
def fX7_restore (σ : tw_St) (a : Nat) (x1 : Int32) : Option (Int32 × tw_St) :=
  (tw_is σ 7 a).bind fun _ =>
  if x1 < 0 then
    some ((-2), σ)
  else
    if x1 < 2 then
      (tw_gP σ 7 a 8).bind fun v13 =>
      (tw_aI σ 22 v13 x1).bind fun v17 =>
      if v17 = 0 then
        some ((-5), σ)
      else
        (tw_gP σ 7 a 6).bind fun v25 =>
        (tw_gP σ 7 a 0).bind fun v29 =>
        (fX0_record σ v25 v29).bind fun σ32 =>
        (tw_gP σ32 7 a 0).bind fun v36 =>
        (tw_gP σ32 7 a 7).bind fun v40 =>
        (tw_aP σ32 24 v40 x1).bind fun v44 =>
        (fX6_copyFrom σ32 v36 v44).bind fun σ45 =>
        (tw_gP σ45 7 a 1).bind fun v49 =>
        (fX5_play σ45 v49 (-6)).bind fun σ54 =>
        (tw_gP σ54 7 a 1).bind fun v58 =>
        (fX5_length σ54 v58).bind fun v61 =>
        some (v61, σ54)
    else
      some ((-2), σ)
def rmX7_restore : Room := { frames := 6, cells := 0, slots := 0, locals := 138 }
def fX8_init (σ : tw_St) (a : Nat) : Option (tw_St) :=
  (tw_is σ 8 a).bind fun _ =>
  (tw_pP (tw_new σ 20 210) 8 a 0 σ.1).bind fun σ10 =>
  (tw_pP (tw_new σ10 20 1260) 8 a 1 σ10.1).bind fun σ19 =>
  (tw_pP (tw_new σ19 20 420) 8 a 3 σ19.1).bind fun σ28 =>
  (tw_pP (tw_new σ28 22 2) 8 a 4 σ28.1).bind fun σ35 =>
  (tw_pP (tw_new σ35 20 80) 8 a 5 σ35.1).bind fun σ43 =>
  (tw_pP (tw_new σ43 20 150) 8 a 7 σ43.1).bind fun σ52 =>
  (tw_pP (tw_new σ52 20 24) 8 a 11 σ52.1).bind fun σ60 =>
  (tw_pP (tw_new σ60 20 8) 8 a 12 σ60.1).bind fun σ68 =>
  (tw_pP (tw_new σ68 20 200) 8 a 13 σ68.1).bind fun σ77 =>
  (tw_pP (tw_new σ77 20 200) 8 a 14 σ77.1).bind fun σ86 =>
  (tw_pP (tw_new σ86 20 200) 8 a 15 σ86.1).bind fun σ95 =>
  (tw_pP (tw_new σ95 20 200) 8 a 16 σ95.1).bind fun σ104 =>
  (tw_pP (tw_new σ104 20 2) 8 a 17 σ104.1).bind fun σ111 =>
  (tw_pP (tw_new σ111 20 2) 8 a 18 σ111.1).bind fun σ118 =>
  (tw_pP (tw_new σ118 20 10) 8 a 19 σ118.1).bind fun σ126 =>
  (tw_pP (tw_new σ126 20 10) 8 a 20 σ126.1).bind fun σ134 =>
  (tw_pP (tw_new σ134 20 2) 8 a 21 σ134.1).bind fun σ141 =>
  (tw_pP (tw_new σ141 20 2) 8 a 22 σ141.1).bind fun σ148 =>
  (tw_pP (tw_new σ148 20 24) 8 a 23 σ148.1).bind fun σ156 =>
  (tw_gP σ156 8 a 0).bind fun v160 =>
  (tw_wI σ156 20 v160 1 3).bind fun σ165 =>
  (tw_gP σ165 8 a 0).bind fun v167 =>
  (tw_wI σ165 20 v167 2 4).bind fun σ172 =>
  some σ172
def rmX8_init : Room := { frames := 1, cells := 19, slots := 3006, locals := 16 }
def fX8_in (σ : tw_St) (x0 : Int32) (x1 : Int32) (x2 : Int32) : Option (Int32) :=
  if x0 < x1 then
    some 0
  else
    if x2 < x0 then
      some 0
    else
      some 1
def rmX8_in : Room := { frames := 0, cells := 0, slots := 0, locals := 0 }
def fX8_record_b81 (σ : tw_St) (a0 : Nat) : Option (tw_St) :=
  (tw_gI σ 8 a0 2).bind fun v83 =>
  (tw_pI σ 8 a0 2 (v83 + 1)).bind fun σ88 =>
  some σ88
def fX8_record_h47 (k47 : (tw_St → Nat → Int32 → Option (tw_St))) (σ : tw_St) (a0 : Nat) (x1 : Int32) : Option (tw_St) :=
  if 210 ≤ x1 then
    fX8_record_b81 σ a0
  else
    (tw_gP σ 8 a0 1).bind fun v55 =>
    (tw_gI σ 8 a0 2).bind fun v59 =>
    (tw_gP σ 8 a0 0).bind fun v69 =>
    (tw_aI σ 20 v69 x1).bind fun v73 =>
    (tw_wI σ 20 v55 ((v59 * 210) + x1) v73).bind fun σ74 =>
    k47 σ74 a0 (x1 + 1)
def fX8_record_l47 (n : Nat) : tw_St → Nat → Int32 → Option (tw_St) := tw_it (fun _ _ _ => none) (fX8_record_h47) n
def fX8_record_b45 (σ : tw_St) (a0 : Nat) : Option (tw_St) :=
  fX8_record_l47 tw_F σ a0 0
def fX8_record_b40 (σ : tw_St) (a0 : Nat) : Option (tw_St) :=
  (tw_pI σ 8 a0 2 5).bind fun σ42 =>
  fX8_record_b45 σ42 a0
def fX8_record_h11 (k11 : (tw_St → Nat → Int32 → Option (tw_St))) (σ : tw_St) (a0 : Nat) (x1 : Int32) : Option (tw_St) :=
  if 1050 ≤ x1 then
    fX8_record_b40 σ a0
  else
    (tw_gP σ 8 a0 1).bind fun v19 =>
    (tw_gP σ 8 a0 1).bind fun v24 =>
    (tw_aI σ 20 v24 (x1 + 210)).bind fun v32 =>
    (tw_wI σ 20 v19 x1 v32).bind fun σ33 =>
    k11 σ33 a0 (x1 + 1)
def fX8_record_l11 (n : Nat) : tw_St → Nat → Int32 → Option (tw_St) := tw_it (fun _ _ _ => none) (fX8_record_h11) n
def fX8_record (σ : tw_St) (a : Nat) : Option (tw_St) :=
  (tw_is σ 8 a).bind fun _ =>
  (tw_gI σ 8 a 2).bind fun v1 =>
  if v1 = 6 then
    fX8_record_l11 tw_F σ a 0
  else
    fX8_record_b45 σ a
def rmX8_record : Room := { frames := 0, cells := 0, slots := 0, locals := 0 }
def fX8_set_b29 (σ : tw_St) (a0 : Nat) (x1 : Int32) (x2 : Int32) (z0 : Int32) (z1 : Int32) (z2 : Int32) : Option (Int32 × tw_St) :=
  (fX8_in σ z2 z1 z0).bind fun v29 =>
  if v29 = 0 then
    some ((-2), σ)
  else
    (fX8_record σ a0).bind fun σ39 =>
    (tw_gP σ39 8 a0 0).bind fun v43 =>
    (tw_aI σ39 20 v43 x1).bind fun v47 =>
    (tw_gP σ39 8 a0 0).bind fun v50 =>
    (tw_wI σ39 20 v50 x1 x2).bind fun σ55 =>
    some (v47, σ55)
def fX8_set_b19 (σ : tw_St) (a0 : Nat) (x1 : Int32) (x2 : Int32) (z0 : Int32) (z1 : Int32) : Option (Int32 × tw_St) :=
  if x1 = 0 then
    fX8_set_b29 σ a0 x1 x2 2 z0 z1
  else
    fX8_set_b29 σ a0 x1 x2 9 z0 z1
def fX8_set (σ : tw_St) (a : Nat) (x1 : Int32) (x2 : Int32) : Option (Int32 × tw_St) :=
  (tw_is σ 8 a).bind fun _ =>
  (fX8_in σ x1 0 2).bind fun v3 =>
  if v3 = 0 then
    some ((-2), σ)
  else
    if x1 = 0 then
      fX8_set_b19 σ a x1 x2 0 x2
    else
      fX8_set_b19 σ a x1 x2 1 x2
def rmX8_set : Room := { frames := 1, cells := 0, slots := 0, locals := 22 }
def fX8_isThread (σ : tw_St) (x0 : Int32) : Option (Int32) :=
  (fX8_in σ x0 0 1).bind fun v3 =>
  (tw_bz v3).bind fun _ =>
  some v3
def rmX8_isThread : Room := { frames := 1, cells := 0, slots := 0, locals := 22 }
def fX8_first (σ : tw_St) (a : Nat) (x1 : Int32) (x2 : Int32) (x3 : Int32) : Option (Int32 × tw_St) :=
  (tw_is σ 8 a).bind fun _ =>
  (fX8_isThread σ x1).bind fun v1 =>
  if v1 = 0 then
    some ((-1), σ)
  else
    (fX8_in σ x2 0 11).bind fun v11 =>
    if v11 = 0 then
      some ((-1), σ)
    else
      (fX8_in σ x3 0 999).bind fun v24 =>
      if v24 = 0 then
        some ((-2), σ)
      else
        (fX8_record σ a).bind fun σ34 =>
        (tw_gP σ34 8 a 0).bind fun v52 =>
        (tw_aI σ34 20 v52 (((10 + (100 * x1)) + 70) + x2)).bind fun v57 =>
        (tw_gP σ34 8 a 0).bind fun v61 =>
        (tw_wI σ34 20 v61 (((10 + (100 * x1)) + 70) + x2) x3).bind fun σ67 =>
        some (v57, σ67)
def rmX8_first : Room := { frames := 2, cells := 0, slots := 0, locals := 42 }
def fX8_sign (σ : tw_St) (a : Nat) : Option (Int32) :=
  (tw_is σ 8 a).bind fun _ =>
  (tw_gI σ 8 a 9).bind fun v1 =>
  (tw_gI σ 8 a 6).bind fun v5 =>
  if v5 ≤ v1 then
    some 0
  else
    (tw_gP σ 8 a 5).bind fun v12 =>
    (tw_gI σ 8 a 9).bind fun v16 =>
    (tw_aI σ 20 v12 v16).bind fun v19 =>
    some v19
def rmX8_sign : Room := { frames := 0, cells := 0, slots := 0, locals := 0 }
def fX8_between_b41 (σ : tw_St) (z0 : Int32) (z1 : Int32) (z2 : Nat) : Option (tw_St) :=
  (tw_pI σ 8 z2 9 (z1 + z0)).bind fun σ42 =>
  some σ42
def fX8_between_b21 (σ : tw_St) (a0 : Nat) (z0 : Int32) (z1 : Nat) : Option (tw_St) :=
  (tw_bz z0).bind fun _ =>
  (tw_pI σ 8 z1 10 z0).bind fun σ21 =>
  (tw_gI σ21 8 a0 9).bind fun v26 =>
  (tw_gI σ21 8 a0 10).bind fun v30 =>
  if v30 = 0 then
    fX8_between_b41 σ21 1 v26 a0
  else
    fX8_between_b41 σ21 0 v26 a0
def fX8_between_b16 (σ : tw_St) (a0 : Nat) (z0 : Nat) : Option (tw_St) :=
  fX8_between_b21 σ a0 1 z0
def fX8_between (σ : tw_St) (a : Nat) (x1 : Int32) : Option (tw_St) :=
  (tw_is σ 8 a).bind fun _ =>
  (tw_gI σ 8 a 10).bind fun v2 =>
  if v2 = 0 then
    (fX8_sign σ a).bind fun v9 =>
    if v9 = x1 then
      fX8_between_b21 σ a 0 a
    else
      fX8_between_b16 σ a a
  else
    fX8_between_b16 σ a a
def rmX8_between : Room := { frames := 1, cells := 0, slots := 0, locals := 20 }
def fX8_register_b50 (σ : tw_St) (x1 : Int32) (z0 : Int32) (z1 : Int32) (z2 : Nat) : Option (Int32 × tw_St) :=
  (tw_pI σ 8 z2 9 (z1 + z0)).bind fun σ51 =>
  some (x1, σ51)
def fX8_register_b30 (σ : tw_St) (a0 : Nat) (x1 : Int32) (z0 : Int32) (z1 : Nat) : Option (Int32 × tw_St) :=
  (tw_bz z0).bind fun _ =>
  (tw_pI σ 8 z1 10 z0).bind fun σ30 =>
  (tw_gI σ30 8 a0 9).bind fun v35 =>
  (tw_gI σ30 8 a0 10).bind fun v39 =>
  if v39 = 0 then
    fX8_register_b50 σ30 x1 1 v35 a0
  else
    fX8_register_b50 σ30 x1 0 v35 a0
def fX8_register_b25 (σ : tw_St) (a0 : Nat) (x1 : Int32) (z0 : Nat) : Option (Int32 × tw_St) :=
  fX8_register_b30 σ a0 x1 1 z0
def fX8_register (σ : tw_St) (a : Nat) : Option (Int32 × tw_St) :=
  (tw_is σ 8 a).bind fun _ =>
  (fX8_sign σ a).bind fun v1 =>
  (tw_gI σ 8 a 10).bind fun v10 =>
  if v10 = 0 then
    (fX8_in σ (v1 - 97) 0 3).bind fun v19 =>
    if v19 = 0 then
      fX8_register_b25 σ a (v1 - 97) a
    else
      fX8_register_b30 σ a (v1 - 97) 0 a
  else
    fX8_register_b25 σ a (v1 - 97) a
def rmX8_register : Room := { frames := 1, cells := 0, slots := 0, locals := 22 }
def fX8_number_h55 (k55 : (tw_St → Nat → Int32 → Option (Int32 × tw_St))) (σ : tw_St) (a0 : Nat) (x1 : Int32) : Option (Int32 × tw_St) :=
  (tw_gI σ 8 a0 10).bind fun v56 =>
  if v56 = 0 then
    if x1 ≤ 0 then
      some (x1, σ)
    else
      (fX8_sign σ a0).bind fun v67 =>
      (fX8_in σ v67 48 57).bind fun v74 =>
      if v74 = 0 then
        some (x1, σ)
      else
        (fX8_sign σ a0).bind fun v85 =>
        if 99 < (((10 * x1) + v85) - 48) then
          some (x1, σ)
        else
          (fX8_sign σ a0).bind fun v102 =>
          (tw_gI σ 8 a0 9).bind fun v112 =>
          (tw_pI σ 8 a0 9 (v112 + 1)).bind fun σ117 =>
          k55 σ117 a0 (((10 * x1) + v102) - 48)
  else
    some (x1, σ)
def fX8_number_l55 (n : Nat) : tw_St → Nat → Int32 → Option (Int32 × tw_St) := tw_it (fun _ _ _ => none) (fX8_number_h55) n
def fX8_number_b51 (σ : tw_St) (a0 : Nat) (x1 : Int32) (z0 : Int32) (z1 : Int32) (z2 : Nat) : Option (Int32 × tw_St) :=
  (tw_pI σ 8 z2 9 (z1 + z0)).bind fun σ52 =>
  fX8_number_l55 tw_F σ52 a0 x1
def fX8_number_b31 (σ : tw_St) (a0 : Nat) (x1 : Int32) (z0 : Int32) (z1 : Nat) : Option (Int32 × tw_St) :=
  (tw_bz z0).bind fun _ =>
  (tw_pI σ 8 z1 10 z0).bind fun σ31 =>
  (tw_gI σ31 8 a0 9).bind fun v36 =>
  (tw_gI σ31 8 a0 10).bind fun v40 =>
  if v40 = 0 then
    fX8_number_b51 σ31 a0 x1 1 v36 a0
  else
    fX8_number_b51 σ31 a0 x1 0 v36 a0
def fX8_number_b26 (σ : tw_St) (a0 : Nat) (x1 : Int32) (z0 : Nat) : Option (Int32 × tw_St) :=
  fX8_number_b31 σ a0 x1 1 z0
def fX8_number (σ : tw_St) (a : Nat) : Option (Int32 × tw_St) :=
  (tw_is σ 8 a).bind fun _ =>
  (fX8_sign σ a).bind fun v1 =>
  (tw_gI σ 8 a 10).bind fun v10 =>
  if v10 = 0 then
    (fX8_in σ (v1 - 48) 0 9).bind fun v20 =>
    if v20 = 0 then
      fX8_number_b26 σ a (v1 - 48) a
    else
      fX8_number_b31 σ a (v1 - 48) 0 a
  else
    fX8_number_b26 σ a (v1 - 48) a
def rmX8_number : Room := { frames := 1, cells := 0, slots := 0, locals := 22 }
def fX8_lay (σ : tw_St) (a : Nat) (x1 : Int32) (x2 : Int32) (x3 : Int32) (x4 : Int32) (x5 : Int32) : Option (tw_St) :=
  (tw_is σ 8 a).bind fun _ =>
  (tw_gI σ 8 a 8).bind fun v2 =>
  (tw_gP σ 8 a 7).bind fun v9 =>
  (tw_wI σ 20 v9 (5 * v2) x1).bind fun σ15 =>
  (tw_gP σ15 8 a 7).bind fun v17 =>
  (tw_wI σ15 20 v17 ((5 * v2) + 1) x2).bind fun σ25 =>
  (tw_gP σ25 8 a 7).bind fun v27 =>
  (tw_wI σ25 20 v27 ((5 * v2) + 2) x3).bind fun σ35 =>
  (tw_gP σ35 8 a 7).bind fun v37 =>
  (tw_wI σ35 20 v37 ((5 * v2) + 3) x4).bind fun σ46 =>
  (tw_gP σ46 8 a 7).bind fun v48 =>
  (tw_wI σ46 20 v48 ((5 * v2) + 4) x5).bind fun σ57 =>
  (tw_gI σ57 8 a 8).bind fun v60 =>
  (tw_pI σ57 8 a 8 (v60 + 1)).bind fun σ65 =>
  some σ65
def rmX8_lay : Room := { frames := 0, cells := 0, slots := 0, locals := 0 }
def fX8_readValue_b172 (σ : tw_St) (a0 : Nat) (x1 : Int32) (x2 : Int32) (x4 : Int32) (z0 : Int32) : Option (tw_St) :=
  (fX8_lay σ a0 x4 x1 x2 z0 (-6)).bind fun σ183 =>
  some σ183
def fX8_readValue_b153 (σ : tw_St) (a0 : Nat) (x1 : Int32) (x2 : Int32) (x4 : Int32) (z0 : Int32) (z1 : Int32) (z2 : Nat) : Option (tw_St) :=
  (tw_pI σ 8 z2 9 (z1 + z0)).bind fun σ154 =>
  (tw_gI σ154 8 a0 10).bind fun v158 =>
  if v158 = 0 then
    (fX8_register σ154 a0).bind fun q169 =>
    fX8_readValue_b172 q169.2 a0 x1 x2 x4 q169.1
  else
    fX8_readValue_b172 σ154 a0 x1 x2 x4 0
def fX8_readValue_b133 (σ : tw_St) (a0 : Nat) (x1 : Int32) (x2 : Int32) (x4 : Int32) (z0 : Int32) (z1 : Nat) : Option (tw_St) :=
  (tw_bz z0).bind fun _ =>
  (tw_pI σ 8 z1 10 z0).bind fun σ133 =>
  (tw_gI σ133 8 a0 9).bind fun v138 =>
  (tw_gI σ133 8 a0 10).bind fun v142 =>
  if v142 = 0 then
    fX8_readValue_b153 σ133 a0 x1 x2 x4 1 v138 a0
  else
    fX8_readValue_b153 σ133 a0 x1 x2 x4 0 v138 a0
def fX8_readValue_b128 (σ : tw_St) (a0 : Nat) (x1 : Int32) (x2 : Int32) (x4 : Int32) (z0 : Nat) : Option (tw_St) :=
  fX8_readValue_b133 σ a0 x1 x2 x4 1 z0
def fX8_readValue_b113 (σ : tw_St) (a0 : Nat) (x1 : Int32) (x2 : Int32) (z0 : Int32) : Option (tw_St) :=
  (tw_gI σ 8 a0 10).bind fun v117 =>
  if v117 = 0 then
    if 0 ≤ z0 then
      fX8_readValue_b133 σ a0 x1 x2 z0 0 a0
    else
      fX8_readValue_b128 σ a0 x1 x2 z0 a0
  else
    fX8_readValue_b128 σ a0 x1 x2 z0 a0
def fX8_readValue (σ : tw_St) (a : Nat) (x1 : Int32) : Option (tw_St) :=
  (tw_is σ 8 a).bind fun _ =>
  (fX8_sign σ a).bind fun v1 =>
  (fX8_in σ v1 48 57).bind fun v8 =>
  if v8 = 0 then
    (fX8_sign σ a).bind fun v30 =>
    if v30 = 91 then
      (tw_gI σ 8 a 9).bind fun v40 =>
      (tw_pI σ 8 a 9 (v40 + 1)).bind fun σ45 =>
      (fX8_register σ45 a).bind fun q49 =>
      (fX8_between q49.2 a 93).bind fun σ56 =>
      (fX8_lay σ56 a 4 x1 q49.1 (-6) (-6)).bind fun σ67 =>
      some σ67
    else
      (fX8_register σ a).bind fun q72 =>
      (fX8_sign q72.2 a).bind fun v77 =>
      if v77 = 43 then
        fX8_readValue_b113 q72.2 a x1 q72.1 1
      else
        if v77 = 45 then
          fX8_readValue_b113 q72.2 a x1 q72.1 2
        else
          if v77 = 42 then
            fX8_readValue_b113 q72.2 a x1 q72.1 3
          else
            fX8_readValue_b113 q72.2 a x1 q72.1 (-6)
  else
    (fX8_number σ a).bind fun q22 =>
    (fX8_lay q22.2 a 0 x1 (-6) (-6) q22.1).bind fun σ25 =>
    some σ25
def rmX8_readValue : Room := { frames := 2, cells := 0, slots := 0, locals := 43 }
def fX8_readOne_b51 (σ : tw_St) (a0 : Nat) (x1 : Int32) (z0 : Int32) : Option (tw_St) :=
  (fX8_lay σ a0 5 x1 z0 (-6) (-6)).bind fun σ60 =>
  some σ60
def fX8_readOne (σ : tw_St) (a : Nat) : Option (tw_St) :=
  (tw_is σ 8 a).bind fun _ =>
  (fX8_sign σ a).bind fun v1 =>
  if v1 = 91 then
    (tw_gI σ 8 a 9).bind fun v11 =>
    (tw_pI σ 8 a 9 (v11 + 1)).bind fun σ16 =>
    (fX8_register σ16 a).bind fun q20 =>
    (fX8_between q20.2 a 93).bind fun σ27 =>
    (fX8_between σ27 a 61).bind fun σ33 =>
    (tw_gI σ33 8 a 10).bind fun v37 =>
    if v37 = 0 then
      (fX8_register σ33 a).bind fun q48 =>
      fX8_readOne_b51 q48.2 a q20.1 q48.1
    else
      fX8_readOne_b51 σ33 a q20.1 0
  else
    (fX8_register σ a).bind fun q65 =>
    (tw_gI q65.2 8 a 10).bind fun v70 =>
    if v70 = 0 then
      (fX8_sign q65.2 a).bind fun v78 =>
      if v78 = 63 then
        (tw_gI q65.2 8 a 9).bind fun v88 =>
        (tw_pI q65.2 8 a 9 (v88 + 1)).bind fun σ93 =>
        (fX8_number σ93 a).bind fun q105 =>
        (fX8_lay q105.2 a 6 q65.1 (-6) (-6) q105.1).bind fun σ108 =>
        some σ108
      else
        (fX8_between q65.2 a 61).bind fun σ115 =>
        (tw_gI σ115 8 a 10).bind fun v119 =>
        if v119 = 0 then
          (fX8_readValue σ115 a q65.1).bind fun σ127 =>
          some σ127
        else
          some σ115
    else
      some q65.2
def rmX8_readOne : Room := { frames := 3, cells := 0, slots := 0, locals := 68 }
def fX8_faultOf_b57 (σ : tw_St) (a0 : Nat) : Option (Int32 × tw_St) :=
  (tw_gI σ 8 a0 10).bind fun v58 =>
  if v58 = 0 then
    some ((-6), σ)
  else
    (tw_gI σ 8 a0 9).bind fun v65 =>
    some (v65, σ)
def fX8_faultOf_h19 (k19 : (tw_St → Nat → Option (Int32 × tw_St))) (σ : tw_St) (a0 : Nat) : Option (Int32 × tw_St) :=
  (tw_gI σ 8 a0 10).bind fun v20 =>
  if v20 = 0 then
    (tw_gI σ 8 a0 9).bind fun v27 =>
    (tw_gI σ 8 a0 6).bind fun v31 =>
    if v31 ≤ v27 then
      fX8_faultOf_b57 σ a0
    else
      (fX8_between σ a0 59).bind fun σ40 =>
      (tw_gI σ40 8 a0 10).bind fun v44 =>
      if v44 = 0 then
        (fX8_readOne σ40 a0).bind fun σ51 =>
        k19 σ51 a0
      else
        k19 σ40 a0
  else
    fX8_faultOf_b57 σ a0
def fX8_faultOf_l19 (n : Nat) : tw_St → Nat → Option (Int32 × tw_St) := tw_it (fun _ _ => none) (fX8_faultOf_h19) n
def fX8_faultOf (σ : tw_St) (a : Nat) : Option (Int32 × tw_St) :=
  (tw_is σ 8 a).bind fun _ =>
  (tw_pI σ 8 a 9 0).bind fun σ2 =>
  (tw_pI σ2 8 a 8 0).bind fun σ7 =>
  (tw_pI σ7 8 a 10 0).bind fun σ12 =>
  (fX8_readOne σ12 a).bind fun σ16 =>
  fX8_faultOf_l19 tw_F σ16 a
def rmX8_faultOf : Room := { frames := 4, cells := 0, slots := 0, locals := 90 }
def fX8_put_b122 (σ : tw_St) (a0 : Nat) (x3 : Int32) : Option (Int32 × tw_St) :=
  (tw_gI σ 8 a0 6).bind fun v124 =>
  (tw_pI σ 8 a0 6 (v124 + x3)).bind fun σ129 =>
  (tw_gI σ129 8 a0 6).bind fun v133 =>
  some (v133, σ129)
def fX8_put_h85 (k85 : (tw_St → Nat → Int32 → Int64 → Int32 → Option (Int32 × tw_St))) (σ : tw_St) (a0 : Nat) (x3 : Int32) (y4 : Int64) (x6 : Int32) : Option (Int32 × tw_St) :=
  if x6 < 0 then
    fX8_put_b122 σ a0 x3
  else
    (tw_gP σ 8 a0 5).bind fun v91 =>
    (tw_gI σ 8 a0 6).bind fun v95 =>
    (tw_wI σ 20 v91 (v95 + x6) ((y4 &&& 255).toInt32)).bind fun σ108 =>
    k85 σ108 a0 x3 ((y4.toUInt64 >>> ((8 : Int32).toInt64.toUInt64 &&& Int64.toUInt64 63)).toInt64) (x6 + (-1))
def fX8_put_l85 (n : Nat) : tw_St → Nat → Int32 → Int64 → Int32 → Option (Int32 × tw_St) := tw_it (fun _ _ _ _ _ => none) (fX8_put_h85) n
def fX8_put_b49 (σ : tw_St) (a0 : Nat) (y1 : Int64) (x3 : Int32) (y4 : Int64) : Option (Int32 × tw_St) :=
  if (lg_cmp y4 0) = 0 then
    if x3 = 0 then
      some ((-2), σ)
    else
      (tw_gI σ 8 a0 6).bind fun v64 =>
      if (v64 + x3) ≤ 80 then
        fX8_put_l85 tw_F σ a0 x3 y1 (x3 - 1)
      else
        some ((-4), σ)
  else
    some ((-2), σ)
def fX8_put_h5 (k5 : (tw_St → Nat → Int64 → Int32 → Int64 → Option (Int32 × tw_St))) (σ : tw_St) (a0 : Nat) (y1 : Int64) (x3 : Int32) (y4 : Int64) : Option (Int32 × tw_St) :=
  if (lg_cmp (y4 &&& 255) 0) = 0 then
    fX8_put_b49 σ a0 y1 x3 y4
  else
    (fX8_in σ ((y4 &&& 255).toInt32) 33 126).bind fun v27 =>
    if v27 = 0 then
      some ((-2), σ)
    else
      k5 σ a0 y1 (x3 + 1) ((y4.toUInt64 >>> ((8 : Int32).toInt64.toUInt64 &&& Int64.toUInt64 63)).toInt64)
def fX8_put_l5 (n : Nat) : tw_St → Nat → Int64 → Int32 → Int64 → Option (Int32 × tw_St) := tw_it (fun _ _ _ _ _ => none) (fX8_put_h5) n
def fX8_put (σ : tw_St) (a : Nat) (y1 : Int64) : Option (Int32 × tw_St) :=
  (tw_is σ 8 a).bind fun _ =>
  fX8_put_l5 tw_F σ a y1 0 y1
def rmX8_put : Room := { frames := 1, cells := 0, slots := 0, locals := 22 }
def fX8_wipe (σ : tw_St) (a : Nat) : Option (Int32 × tw_St) :=
  (tw_is σ 8 a).bind fun _ =>
  (tw_gI σ 8 a 6).bind fun v1 =>
  (tw_pI σ 8 a 6 0).bind fun σ7 =>
  some (v1, σ7)
def rmX8_wipe : Room := { frames := 0, cells := 0, slots := 0, locals := 0 }
def fX8_fault (σ : tw_St) (a : Nat) : Option (Int32 × tw_St) :=
  (tw_is σ 8 a).bind fun _ =>
  (fX8_faultOf σ a).bind fun q1 =>
  some (q1.1, q1.2)
def rmX8_fault : Room := { frames := 5, cells := 0, slots := 0, locals := 110 }
def fX8_program_b93 (σ : tw_St) (a0 : Nat) : Option (Int32 × tw_St) :=
  (tw_pI σ 8 a0 6 0).bind fun σ95 =>
  (tw_gI σ95 8 a0 8).bind fun v99 =>
  some (v99, σ95)
def fX8_program_h55 (k55 : (tw_St → Nat → Int32 → Int32 → Option (Int32 × tw_St))) (σ : tw_St) (a0 : Nat) (x1 : Int32) (x2 : Int32) : Option (Int32 × tw_St) :=
  (tw_gI σ 8 a0 8).bind fun v58 =>
  if (5 * v58) ≤ x2 then
    fX8_program_b93 σ a0
  else
    (tw_gP σ 8 a0 0).bind fun v66 =>
    (tw_gP σ 8 a0 7).bind fun v81 =>
    (tw_aI σ 20 v81 x2).bind fun v85 =>
    (tw_wI σ 20 v66 (((10 + (100 * x1)) + 1) + x2) v85).bind fun σ86 =>
    k55 σ86 a0 x1 (x2 + 1)
def fX8_program_l55 (n : Nat) : tw_St → Nat → Int32 → Int32 → Option (Int32 × tw_St) := tw_it (fun _ _ _ _ => none) (fX8_program_h55) n
def fX8_program (σ : tw_St) (a : Nat) (x1 : Int32) : Option (Int32 × tw_St) :=
  (tw_is σ 8 a).bind fun _ =>
  (fX8_isThread σ x1).bind fun v1 =>
  if v1 = 0 then
    some ((-1), σ)
  else
    (fX8_faultOf σ a).bind fun q10 =>
    if q10.1 = (-6) then
      (tw_gI q10.2 8 a 8).bind fun v22 =>
      if v22 ≤ 12 then
        (fX8_record q10.2 a).bind fun σ34 =>
        (tw_gP σ34 8 a 0).bind fun v38 =>
        (tw_gI σ34 8 a 8).bind fun v49 =>
        (tw_wI σ34 20 v38 (10 + (100 * x1)) v49).bind fun σ52 =>
        fX8_program_l55 tw_F σ52 a x1 0
      else
        some ((-4), q10.2)
    else
      some ((-3), q10.2)
def rmX8_program : Room := { frames := 5, cells := 0, slots := 0, locals := 110 }
def fX8_many (σ : tw_St) (a : Nat) (x1 : Int32) : Option (Int32) :=
  (tw_is σ 8 a).bind fun _ =>
  (tw_gP σ 8 a 0).bind fun v1 =>
  (tw_aI σ 20 v1 (10 + (100 * x1))).bind fun v11 =>
  some v11
def rmX8_many : Room := { frames := 0, cells := 0, slots := 0, locals := 0 }
def fX8_of (σ : tw_St) (a : Nat) (x1 : Int32) (x2 : Int32) (x3 : Int32) : Option (Int32) :=
  (tw_is σ 8 a).bind fun _ =>
  (tw_gP σ 8 a 0).bind fun v1 =>
  (tw_aI σ 20 v1 ((((10 + (100 * x1)) + 1) + (5 * x2)) + x3)).bind fun v19 =>
  some v19
def rmX8_of : Room := { frames := 0, cells := 0, slots := 0, locals := 0 }
def fX8_drop (σ : tw_St) (a : Nat) (x1 : Int32) : Option (Int32 × tw_St) :=
  (tw_is σ 8 a).bind fun _ =>
  (fX8_isThread σ x1).bind fun v1 =>
  if v1 = 0 then
    some ((-1), σ)
  else
    (fX8_record σ a).bind fun σ10 =>
    (fX8_many σ10 a x1).bind fun v15 =>
    (tw_gP σ10 8 a 0).bind fun v20 =>
    (tw_wI σ10 20 v20 (10 + (100 * x1)) 0).bind fun σ31 =>
    some (v15, σ31)
def rmX8_drop : Room := { frames := 2, cells := 0, slots := 0, locals := 42 }
def fX8_isOpen (σ : tw_St) (a : Nat) (x1 : Int32) : Option (Int32) :=
  (tw_is σ 8 a).bind fun _ =>
  (tw_gP σ 8 a 18).bind fun v1 =>
  (tw_aI σ 20 v1 x1).bind fun v5 =>
  (fX8_many σ a x1).bind fun v9 =>
  (fX8_in σ v5 0 (v9 - 1)).bind fun v14 =>
  if v14 = 0 then
    some 0
  else
    (tw_gP σ 8 a 17).bind fun v21 =>
    (tw_aI σ 20 v21 x1).bind fun v25 =>
    if 100 ≤ v25 then
      some 0
    else
      some 1
def rmX8_isOpen : Room := { frames := 1, cells := 0, slots := 0, locals := 22 }
def fX8_roomOf_b19 (σ : tw_St) : Option (Int32) :=
  some 1
def fX8_roomOf (σ : tw_St) (x0 : Int32) : Option (Int32) :=
  if x0 = 3 then
    some 0
  else
    if x0 = 4 then
      fX8_roomOf_b19 σ
    else
      if x0 = 5 then
        fX8_roomOf_b19 σ
      else
        some (-6)
def rmX8_roomOf : Room := { frames := 0, cells := 0, slots := 0, locals := 0 }
def fX8_isReady_b113 (k62 : (tw_St → Nat → Int32 → Int32 → Int32 → Int32 → Option (Int32))) (σ : tw_St) (a0 : Nat) (x1 : Int32) (x2 : Int32) (x5 : Int32) (z0 : Int32) : Option (Int32) :=
  k62 σ a0 x1 x2 z0 (x5 + 1)
def fX8_isReady_b112 (k62 : (tw_St → Nat → Int32 → Int32 → Int32 → Int32 → Option (Int32))) (σ : tw_St) (a0 : Nat) (x1 : Int32) (x2 : Int32) (x5 : Int32) : Option (Int32) :=
  fX8_isReady_b113 k62 σ a0 x1 x2 x5 0
def fX8_isReady_b108 (k62 : (tw_St → Nat → Int32 → Int32 → Int32 → Int32 → Option (Int32))) (σ : tw_St) (a0 : Nat) (x1 : Int32) (x2 : Int32) (x5 : Int32) : Option (Int32) :=
  fX8_isReady_b113 k62 σ a0 x1 x2 x5 1
def fX8_isReady_h62 (k62 : (tw_St → Nat → Int32 → Int32 → Int32 → Int32 → Option (Int32))) (σ : tw_St) (a0 : Nat) (x1 : Int32) (x2 : Int32) (x4 : Int32) (x5 : Int32) : Option (Int32) :=
  if 4 ≤ x5 then
    (tw_bz x4).bind fun _ =>
    some x4
  else
    (tw_gP σ 8 a0 18).bind fun v71 =>
    (tw_aI σ 20 v71 x1).bind fun v75 =>
    (fX8_of σ a0 x1 v75 x5).bind fun v78 =>
    if x4 = 0 then
      fX8_isReady_b112 k62 σ a0 x1 x2 x5
    else
      if v78 < 0 then
        fX8_isReady_b108 k62 σ a0 x1 x2 x5
      else
        (tw_gP σ 8 a0 12).bind fun v94 =>
        (tw_aI σ 20 v94 ((4 * x1) + v78)).bind fun v103 =>
        if x2 < v103 then
          fX8_isReady_b112 k62 σ a0 x1 x2 x5
        else
          fX8_isReady_b108 k62 σ a0 x1 x2 x5
def fX8_isReady_l62 (n : Nat) : tw_St → Nat → Int32 → Int32 → Int32 → Int32 → Option (Int32) := tw_it (fun _ _ _ _ _ _ => none) (fX8_isReady_h62) n
def fX8_isReady_b57 (σ : tw_St) (a0 : Nat) (x1 : Int32) (x2 : Int32) (z0 : Int32) : Option (Int32) :=
  fX8_isReady_l62 tw_F σ a0 x1 x2 z0 1
def fX8_isReady_b52 (σ : tw_St) (a0 : Nat) (x1 : Int32) (x2 : Int32) : Option (Int32) :=
  fX8_isReady_b57 σ a0 x1 x2 1
def fX8_isReady (σ : tw_St) (a : Nat) (x1 : Int32) (x2 : Int32) : Option (Int32) :=
  (tw_is σ 8 a).bind fun _ =>
  (tw_gP σ 8 a 17).bind fun v1 =>
  (tw_aI σ 20 v1 x1).bind fun v5 =>
  if v5 = 0 then
    fX8_isReady_b52 σ a x1 x2
  else
    (tw_gP σ 8 a 14).bind fun v14 =>
    (tw_aI σ 20 v14 (((100 * x1) + v5) - 1)).bind fun v25 =>
    (fX8_of σ a x1 v25 0).bind fun v27 =>
    if v27 = 6 then
      (tw_gP σ 8 a 15).bind fun v36 =>
      (tw_aI σ 20 v36 (((100 * x1) + v5) - 1)).bind fun v47 =>
      if x2 < v47 then
        fX8_isReady_b57 σ a x1 x2 0
      else
        fX8_isReady_b52 σ a x1 x2
    else
      fX8_isReady_b52 σ a x1 x2
def rmX8_isReady : Room := { frames := 1, cells := 0, slots := 0, locals := 23 }
def fX8_whyNot (σ : tw_St) (a : Nat) (x1 : Int32) (x2 : Int32) (x3 : Int32) : Option (Int32) :=
  (tw_is σ 8 a).bind fun _ =>
  (tw_gP σ 8 a 18).bind fun v3 =>
  (tw_aI σ 20 v3 x1).bind fun v7 =>
  (fX8_of σ a x1 v7 0).bind fun v9 =>
  (fX8_roomOf σ v9).bind fun v12 =>
  (fX8_isReady σ a x1 x2).bind fun v20 =>
  if v20 = 0 then
    some 1
  else
    if v12 < 0 then
      some 0
    else
      if v12 = x3 then
        some 0
      else
        (tw_gP σ 8 a 21).bind fun v40 =>
        (tw_aI σ 20 v40 v12).bind fun v45 =>
        if v45 ≤ x2 then
          some 0
        else
          (tw_gP σ 8 a 22).bind fun v51 =>
          (tw_aI σ 20 v51 v12).bind fun v56 =>
          if v56 = x1 then
            some 2
          else
            some 3
def rmX8_whyNot : Room := { frames := 2, cells := 0, slots := 0, locals := 49 }
def fX8_latest (σ : tw_St) (a : Nat) (x1 : Int32) : Option (Int32) :=
  (tw_is σ 8 a).bind fun _ =>
  (tw_gP σ 8 a 17).bind fun v1 =>
  (tw_aI σ 20 v1 x1).bind fun v5 =>
  if v5 = 0 then
    some (-1)
  else
    (tw_gP σ 8 a 13).bind fun v14 =>
    (tw_gP σ 8 a 17).bind fun v22 =>
    (tw_aI σ 20 v22 x1).bind fun v26 =>
    (tw_aI σ 20 v14 (((100 * x1) + v26) - 1)).bind fun v30 =>
    some v30
def rmX8_latest : Room := { frames := 0, cells := 0, slots := 0, locals := 0 }
def fX8_starter_b103 (σ : tw_St) (x2 : Int32) (x4 : Int32) (x5 : Int32) (x6 : Int32) (x7 : Int32) : Option (Int32) :=
  if x6 = 0 then
    if x2 ≤ 0 then
      some (-6)
    else
      if x7 = 0 then
        some (-6)
      else
        some x5
  else
    some x4
def fX8_starter_b63 (σ : tw_St) (a0 : Nat) (x2 : Int32) (x4 : Int32) (x5 : Int32) (x6 : Int32) (z0 : Int32) : Option (Int32) :=
  if x2 = 2 then
    if x6 = 0 then
      fX8_starter_b103 σ x2 x4 x5 x6 z0
    else
      if z0 = 0 then
        fX8_starter_b103 σ x2 x4 x5 x6 z0
      else
        (fX8_latest σ a0 x5).bind fun v83 =>
        (fX8_latest σ a0 x4).bind fun v89 =>
        if v89 ≤ v83 then
          some x4
        else
          some x5
  else
    fX8_starter_b103 σ x2 x4 x5 x6 z0
def fX8_starter_b62 (σ : tw_St) (a0 : Nat) (x2 : Int32) (x4 : Int32) (x5 : Int32) (x6 : Int32) : Option (Int32) :=
  fX8_starter_b63 σ a0 x2 x4 x5 x6 0
def fX8_starter_b36 (σ : tw_St) (a0 : Nat) (x1 : Int32) (x2 : Int32) (x3 : Int32) (x4 : Int32) (x5 : Int32) (z0 : Int32) : Option (Int32) :=
  (fX8_isOpen σ a0 x5).bind fun v41 =>
  if v41 = 0 then
    fX8_starter_b62 σ a0 x2 x4 x5 z0
  else
    (fX8_whyNot σ a0 x5 x1 x3).bind fun v52 =>
    if v52 = 0 then
      fX8_starter_b63 σ a0 x2 x4 x5 z0 1
    else
      fX8_starter_b62 σ a0 x2 x4 x5 z0
def fX8_starter_b35 (σ : tw_St) (a0 : Nat) (x1 : Int32) (x2 : Int32) (x3 : Int32) (x4 : Int32) (x5 : Int32) : Option (Int32) :=
  fX8_starter_b36 σ a0 x1 x2 x3 x4 x5 0
def fX8_starter (σ : tw_St) (a : Nat) (x1 : Int32) (x2 : Int32) (x3 : Int32) : Option (Int32) :=
  (tw_is σ 8 a).bind fun _ =>
  (fX8_isOpen σ a (x1 - x1 / 2 * 2)).bind fun v14 =>
  if v14 = 0 then
    fX8_starter_b35 σ a x1 x2 x3 (x1 - x1 / 2 * 2) (1 - (x1 - x1 / 2 * 2))
  else
    (fX8_whyNot σ a (x1 - x1 / 2 * 2) x1 x3).bind fun v25 =>
    if v25 = 0 then
      fX8_starter_b36 σ a x1 x2 x3 (x1 - x1 / 2 * 2) (1 - (x1 - x1 / 2 * 2)) 1
    else
      fX8_starter_b35 σ a x1 x2 x3 (x1 - x1 / 2 * 2) (1 - (x1 - x1 / 2 * 2))
def rmX8_starter : Room := { frames := 3, cells := 0, slots := 0, locals := 73 }
def fX8_value (σ : tw_St) (a : Nat) (x1 : Int32) (x2 : Int32) : Option (Int32) :=
  (tw_is σ 8 a).bind fun _ =>
  (tw_gP σ 8 a 11).bind fun v1 =>
  (tw_aI σ 20 v1 ((12 * x1) + x2)).bind fun v10 =>
  some v10
def rmX8_value : Room := { frames := 0, cells := 0, slots := 0, locals := 0 }
def fX8_does_b275 (σ : tw_St) (x2 : Int32) : Option (Int32 × tw_St) :=
  some ((x2 + 1), σ)
def fX8_does (σ : tw_St) (a : Nat) (x1 : Int32) (x2 : Int32) : Option (Int32 × tw_St) :=
  (tw_is σ 8 a).bind fun _ =>
  (fX8_of σ a x1 x2 0).bind fun v4 =>
  (fX8_of σ a x1 x2 1).bind fun v12 =>
  (fX8_of σ a x1 x2 2).bind fun v21 =>
  (fX8_of σ a x1 x2 3).bind fun v30 =>
  if v4 = 0 then
    (tw_gP σ 8 a 11).bind fun v85 =>
    (fX8_of σ a x1 x2 4).bind fun v94 =>
    (tw_wI σ 20 v85 ((12 * x1) + v12) v94).bind fun σ97 =>
    fX8_does_b275 σ97 x2
  else
  if v4 = 1 then
    (tw_gP σ 8 a 11).bind fun v102 =>
    (fX8_value σ a x1 v21).bind fun v111 =>
    (fX8_value σ a x1 v30).bind fun v118 =>
    (tw_wI σ 20 v102 ((12 * x1) + v12) ((v111 + v118) - (v111 + v118) / 1000 * 1000)).bind fun σ126 =>
    fX8_does_b275 σ126 x2
  else
  if v4 = 2 then
    (tw_gP σ 8 a 11).bind fun v131 =>
    (fX8_value σ a x1 v21).bind fun v140 =>
    (fX8_value σ a x1 v30).bind fun v147 =>
    (tw_wI σ 20 v131 ((12 * x1) + v12) (((v140 - v147) + 1000) - ((v140 - v147) + 1000) / 1000 * 1000)).bind fun σ159 =>
    fX8_does_b275 σ159 x2
  else
  if v4 = 3 then
    (tw_gP σ 8 a 11).bind fun v164 =>
    (fX8_value σ a x1 v21).bind fun v173 =>
    (fX8_value σ a x1 v30).bind fun v180 =>
    (tw_wI σ 20 v164 ((12 * x1) + v12) ((v173 * v180) - (v173 * v180) / 1000 * 1000)).bind fun σ188 =>
    fX8_does_b275 σ188 x2
  else
  if v4 = 4 then
    (tw_gP σ 8 a 11).bind fun v193 =>
    (fX8_value σ a x1 v21).bind fun v205 =>
    (fX8_value σ a x1 (4 + (v205 - v205 / 8 * 8))).bind fun v212 =>
    (tw_wI σ 20 v193 ((12 * x1) + v12) v212).bind fun σ215 =>
    fX8_does_b275 σ215 x2
  else
  if v4 = 5 then
    (tw_gP σ 8 a 11).bind fun v220 =>
    (fX8_value σ a x1 v12).bind fun v233 =>
    (fX8_value σ a x1 v21).bind fun v244 =>
    (tw_wI σ 20 v220 (((12 * x1) + 4) + (v233 - v233 / 8 * 8)) v244).bind fun σ247 =>
    fX8_does_b275 σ247 x2
  else
    (fX8_value σ a x1 v12).bind fun v255 =>
    if v255 = 0 then
      some ((x2 + 1), σ)
    else
      (fX8_of σ a x1 x2 4).bind fun v265 =>
      some (v265, σ)
def rmX8_does : Room := { frames := 1, cells := 0, slots := 0, locals := 23 }
def fX8_begin_b224 (σ : tw_St) (a0 : Nat) (x1 : Int32) (x4 : Int32) : Option (tw_St) :=
  (tw_gP σ 8 a0 18).bind fun v225 =>
  (fX8_does σ a0 x1 x4).bind fun q233 =>
  (tw_wI q233.2 20 v225 x1 q233.1).bind fun σ236 =>
  (tw_gP σ236 8 a0 17).bind fun v238 =>
  (tw_aI σ236 20 v238 x1).bind fun v243 =>
  (tw_wI σ236 20 v238 x1 (v243 + 1)).bind fun σ246 =>
  some σ246
def fX8_begin_b200 (σ : tw_St) (a0 : Nat) (x1 : Int32) (x2 : Int32) (x4 : Int32) (x6 : Int32) (x7 : Int32) : Option (tw_St) :=
  if x6 < 0 then
    fX8_begin_b224 σ a0 x1 x4
  else
    (tw_gP σ 8 a0 21).bind fun v206 =>
    (tw_wI σ 20 v206 x6 (x2 + x7)).bind fun σ215 =>
    (tw_gP σ215 8 a0 22).bind fun v217 =>
    (tw_wI σ215 20 v217 x6 x1).bind fun σ223 =>
    fX8_begin_b224 σ223 a0 x1 x4
def fX8_begin_b173 (σ : tw_St) (a0 : Nat) (x1 : Int32) (x2 : Int32) (x4 : Int32) (x5 : Int32) (x6 : Int32) (x7 : Int32) : Option (tw_St) :=
  if 5 ≤ x5 then
    fX8_begin_b200 σ a0 x1 x2 x4 x6 x7
  else
    (tw_gP σ 8 a0 12).bind fun v180 =>
    (fX8_of σ a0 x1 x4 1).bind fun v191 =>
    (tw_wI σ 20 v180 ((4 * x1) + v191) (x2 + x7)).bind fun σ199 =>
    fX8_begin_b200 σ199 a0 x1 x2 x4 x6 x7
def fX8_begin_h104 (k104 : (tw_St → Nat → Int32 → Int32 → Int32 → Int32 → Int32 → Int32 → Int32 → Int32 → Option (tw_St))) (σ : tw_St) (a0 : Nat) (x1 : Int32) (x2 : Int32) (x3 : Int32) (x4 : Int32) (x5 : Int32) (x6 : Int32) (x7 : Int32) (x8 : Int32) : Option (tw_St) :=
  if 5 ≤ x8 then
    fX8_begin_b173 σ a0 x1 x2 x4 x5 x6 x7
  else
    (tw_gP σ 8 a0 19).bind fun v111 =>
    (tw_aI σ 20 v111 ((5 * x1) + x8)).bind fun v121 =>
    (tw_gP σ 8 a0 20).bind fun v123 =>
    (tw_aI σ 20 v123 ((5 * x1) + x8)).bind fun v132 =>
    (tw_wI σ 20 v111 ((5 * x1) + x8) (v121 + v132)).bind fun σ134 =>
    (tw_gP σ134 8 a0 16).bind fun v136 =>
    (tw_aI σ134 20 v136 x3).bind fun v141 =>
    (tw_gP σ134 8 a0 20).bind fun v143 =>
    (tw_aI σ134 20 v143 ((5 * x1) + x8)).bind fun v152 =>
    (tw_wI σ134 20 v136 x3 (v141 + v152)).bind fun σ154 =>
    (tw_gP σ154 8 a0 20).bind fun v156 =>
    (tw_wI σ154 20 v156 ((5 * x1) + x8) 0).bind fun σ166 =>
    k104 σ166 a0 x1 x2 x3 x4 x5 x6 x7 (x8 + 1)
def fX8_begin_l104 (n : Nat) : tw_St → Nat → Int32 → Int32 → Int32 → Int32 → Int32 → Int32 → Int32 → Int32 → Option (tw_St) := tw_it (fun _ _ _ _ _ _ _ _ _ _ => none) (fX8_begin_h104) n
def fX8_begin_b67 (σ : tw_St) (a0 : Nat) (x1 : Int32) (x2 : Int32) (x3 : Int32) (x4 : Int32) (x5 : Int32) (x6 : Int32) (z0 : Int32) : Option (tw_St) :=
  (tw_gP σ 8 a0 13).bind fun v70 =>
  (tw_wI σ 20 v70 x3 x2).bind fun σ75 =>
  (tw_gP σ75 8 a0 14).bind fun v77 =>
  (tw_wI σ75 20 v77 x3 x4).bind fun σ83 =>
  (tw_gP σ83 8 a0 15).bind fun v85 =>
  (tw_wI σ83 20 v85 x3 (x2 + z0)).bind fun σ93 =>
  (tw_gP σ93 8 a0 16).bind fun v95 =>
  (tw_wI σ93 20 v95 x3 0).bind fun σ100 =>
  fX8_begin_l104 tw_F σ100 a0 x1 x2 x3 x4 x5 x6 z0 1
def fX8_begin (σ : tw_St) (a : Nat) (x1 : Int32) (x2 : Int32) : Option (tw_St) :=
  (tw_is σ 8 a).bind fun _ =>
  (tw_gP σ 8 a 17).bind fun v5 =>
  (tw_aI σ 20 v5 x1).bind fun v9 =>
  (tw_gP σ 8 a 18).bind fun v13 =>
  (tw_aI σ 20 v13 x1).bind fun v17 =>
  (fX8_of σ a x1 v17 0).bind fun v25 =>
  (fX8_roomOf σ v25).bind fun v32 =>
  if v32 = 0 then
    (tw_gP σ 8 a 0).bind fun v43 =>
    (tw_aI σ 20 v43 1).bind fun v47 =>
    fX8_begin_b67 σ a x1 x2 ((100 * x1) + v9) v17 v25 v32 v47
  else
    if v32 = 1 then
      (tw_gP σ 8 a 0).bind fun v58 =>
      (tw_aI σ 20 v58 2).bind fun v62 =>
      fX8_begin_b67 σ a x1 x2 ((100 * x1) + v9) v17 v25 v32 v62
    else
      fX8_begin_b67 σ a x1 x2 ((100 * x1) + v9) v17 v25 v32 1
def rmX8_begin : Room := { frames := 2, cells := 0, slots := 0, locals := 50 }
def fX8_lengthOf_b44 (k4 : (tw_St → Nat → Int32 → Int32 → Int32 → Option (Int32))) (σ : tw_St) (a0 : Nat) (x1 : Int32) (x3 : Int32) (z0 : Int32) : Option (Int32) :=
  k4 σ a0 x1 z0 (x3 + 1)
def fX8_lengthOf_h4 (k4 : (tw_St → Nat → Int32 → Int32 → Int32 → Option (Int32))) (σ : tw_St) (a0 : Nat) (x1 : Int32) (x2 : Int32) (x3 : Int32) : Option (Int32) :=
  (tw_gP σ 8 a0 17).bind fun v6 =>
  (tw_aI σ 20 v6 x1).bind fun v10 =>
  if v10 ≤ x3 then
    some x2
  else
    (tw_gP σ 8 a0 15).bind fun v15 =>
    (tw_aI σ 20 v15 ((100 * x1) + x3)).bind fun v24 =>
    if v24 ≤ x2 then
      fX8_lengthOf_b44 k4 σ a0 x1 x3 x2
    else
      (tw_gP σ 8 a0 15).bind fun v30 =>
      (tw_aI σ 20 v30 ((100 * x1) + x3)).bind fun v39 =>
      fX8_lengthOf_b44 k4 σ a0 x1 x3 v39
def fX8_lengthOf_l4 (n : Nat) : tw_St → Nat → Int32 → Int32 → Int32 → Option (Int32) := tw_it (fun _ _ _ _ _ => none) (fX8_lengthOf_h4) n
def fX8_lengthOf (σ : tw_St) (a : Nat) (x1 : Int32) : Option (Int32) :=
  (tw_is σ 8 a).bind fun _ =>
  fX8_lengthOf_l4 tw_F σ a x1 0 0
def rmX8_lengthOf : Room := { frames := 0, cells := 0, slots := 0, locals := 0 }
def fX8_goThrough_b289 (k183 : (tw_St → Nat → Int32 → Int32 → Int32 → Option (Int32 × tw_St))) (σ : tw_St) (a0 : Nat) (x1 : Int32) (x2 : Int32) (x4 : Int32) : Option (Int32 × tw_St) :=
  k183 σ a0 x1 x2 (x4 + 1)
def fX8_goThrough_b276 (k183 : (tw_St → Nat → Int32 → Int32 → Int32 → Option (Int32 × tw_St))) (σ : tw_St) (a0 : Nat) (x1 : Int32) (x2 : Int32) (x4 : Int32) (x5 : Int32) : Option (Int32 × tw_St) :=
  if x5 < 0 then
    fX8_goThrough_b289 k183 σ a0 x1 x2 x4
  else
    (fX8_begin σ a0 x5 x4).bind fun σ286 =>
    fX8_goThrough_b289 k183 σ286 a0 x1 x2 x4
def fX8_goThrough_b270 (k183 : (tw_St → Nat → Int32 → Int32 → Int32 → Option (Int32 × tw_St))) (k212 : (tw_St → Nat → Int32 → Int32 → Int32 → Int32 → Int32 → Option (Int32 × tw_St))) (σ : tw_St) (a0 : Nat) (x1 : Int32) (x2 : Int32) (x4 : Int32) (x5 : Int32) (x6 : Int32) : Option (Int32 × tw_St) :=
  k212 σ a0 x1 x2 x4 x5 (x6 + 1)
def fX8_goThrough_b264 (k183 : (tw_St → Nat → Int32 → Int32 → Int32 → Option (Int32 × tw_St))) (k212 : (tw_St → Nat → Int32 → Int32 → Int32 → Int32 → Int32 → Option (Int32 × tw_St))) (σ : tw_St) (a0 : Nat) (x1 : Int32) (x2 : Int32) (x4 : Int32) (x5 : Int32) (x6 : Int32) (z0 : Int32) (z1 : Int32) (z2 : Nat) : Option (Int32 × tw_St) :=
  (tw_aI σ 20 z2 (z1 + z0)).bind fun v266 =>
  (tw_wI σ 20 z2 (z1 + z0) (v266 + 1)).bind fun σ269 =>
  fX8_goThrough_b270 k183 k212 σ269 a0 x1 x2 x4 x5 x6
def fX8_goThrough_h212 (k183 : (tw_St → Nat → Int32 → Int32 → Int32 → Option (Int32 × tw_St))) (k212 : (tw_St → Nat → Int32 → Int32 → Int32 → Int32 → Int32 → Option (Int32 × tw_St))) (σ : tw_St) (a0 : Nat) (x1 : Int32) (x2 : Int32) (x4 : Int32) (x5 : Int32) (x6 : Int32) : Option (Int32 × tw_St) :=
  if 2 ≤ x6 then
    fX8_goThrough_b276 k183 σ a0 x1 x2 x4 x5
  else
    if x6 = x5 then
      fX8_goThrough_b270 k183 k212 σ a0 x1 x2 x4 x5 x6
    else
      (fX8_isOpen σ a0 x6).bind fun v228 =>
      if v228 = 0 then
        fX8_goThrough_b270 k183 k212 σ a0 x1 x2 x4 x5 x6
      else
        (fX8_whyNot σ a0 x6 x4 x2).bind fun v240 =>
        (tw_gP σ 8 a0 20).bind fun v246 =>
        if v240 = 0 then
          fX8_goThrough_b264 k183 k212 σ a0 x1 x2 x4 x5 x6 4 (5 * x6) v246
        else
          fX8_goThrough_b264 k183 k212 σ a0 x1 x2 x4 x5 x6 v240 (5 * x6) v246
def fX8_goThrough_l212 (k183 : (tw_St → Nat → Int32 → Int32 → Int32 → Option (Int32 × tw_St))) (n : Nat) : tw_St → Nat → Int32 → Int32 → Int32 → Int32 → Int32 → Option (Int32 × tw_St) := tw_it (fun _ _ _ _ _ _ _ => none) (fX8_goThrough_h212 k183) n
def fX8_goThrough_b199 (k183 : (tw_St → Nat → Int32 → Int32 → Int32 → Option (Int32 × tw_St))) (σ : tw_St) (a0 : Nat) (x1 : Int32) (x2 : Int32) (x4 : Int32) : Option (Int32 × tw_St) :=
  (fX8_starter σ a0 x4 x1 x2).bind fun v204 =>
  fX8_goThrough_l212 k183 tw_F σ a0 x1 x2 x4 v204 0
def fX8_goThrough_b295 (σ : tw_St) (a0 : Nat) : Option (Int32 × tw_St) :=
  (fX8_lengthOf σ a0 0).bind fun v297 =>
  (fX8_lengthOf σ a0 1).bind fun v302 =>
  if v297 ≤ v302 then
    (fX8_lengthOf σ a0 1).bind fun v318 =>
    some (v318, σ)
  else
    (fX8_lengthOf σ a0 0).bind fun v310 =>
    some (v310, σ)
def fX8_goThrough_h183 (k183 : (tw_St → Nat → Int32 → Int32 → Int32 → Option (Int32 × tw_St))) (σ : tw_St) (a0 : Nat) (x1 : Int32) (x2 : Int32) (x4 : Int32) : Option (Int32 × tw_St) :=
  (fX8_isOpen σ a0 0).bind fun v185 =>
  if v185 = 0 then
    (fX8_isOpen σ a0 1).bind fun v193 =>
    if v193 = 0 then
      fX8_goThrough_b295 σ a0
    else
      fX8_goThrough_b199 k183 σ a0 x1 x2 x4
  else
    fX8_goThrough_b199 k183 σ a0 x1 x2 x4
def fX8_goThrough_l183 (n : Nat) : tw_St → Nat → Int32 → Int32 → Int32 → Option (Int32 × tw_St) := tw_it (fun _ _ _ _ _ => none) (fX8_goThrough_h183) n
def fX8_goThrough_b180 (σ : tw_St) (a0 : Nat) (x1 : Int32) (x2 : Int32) : Option (Int32 × tw_St) :=
  fX8_goThrough_l183 tw_F σ a0 x1 x2 0
def fX8_goThrough_b174 (k3 : (tw_St → Nat → Int32 → Int32 → Int32 → Int32 → Option (Int32 × tw_St))) (σ : tw_St) (a0 : Nat) (x1 : Int32) (x2 : Int32) (x3 : Int32) (x4 : Int32) : Option (Int32 × tw_St) :=
  k3 σ a0 x1 x2 x3 (x4 + 1)
def fX8_goThrough_h136 (k3 : (tw_St → Nat → Int32 → Int32 → Int32 → Int32 → Option (Int32 × tw_St))) (k136 : (tw_St → Nat → Int32 → Int32 → Int32 → Int32 → Int32 → Option (Int32 × tw_St))) (σ : tw_St) (a0 : Nat) (x1 : Int32) (x2 : Int32) (x3 : Int32) (x4 : Int32) (x5 : Int32) : Option (Int32 × tw_St) :=
  if 5 ≤ x5 then
    fX8_goThrough_b174 k3 σ a0 x1 x2 x3 x4
  else
    (tw_gP σ 8 a0 19).bind fun v143 =>
    (tw_wI σ 20 v143 ((5 * x4) + x5) 0).bind fun σ154 =>
    (tw_gP σ154 8 a0 20).bind fun v156 =>
    (tw_wI σ154 20 v156 ((5 * x4) + x5) 0).bind fun σ167 =>
    k136 σ167 a0 x1 x2 x3 x4 (x5 + 1)
def fX8_goThrough_l136 (k3 : (tw_St → Nat → Int32 → Int32 → Int32 → Int32 → Option (Int32 × tw_St))) (n : Nat) : tw_St → Nat → Int32 → Int32 → Int32 → Int32 → Int32 → Option (Int32 × tw_St) := tw_it (fun _ _ _ _ _ _ _ => none) (fX8_goThrough_h136 k3) n
def fX8_goThrough_b133 (k3 : (tw_St → Nat → Int32 → Int32 → Int32 → Int32 → Option (Int32 × tw_St))) (σ : tw_St) (a0 : Nat) (x1 : Int32) (x2 : Int32) (x3 : Int32) (x4 : Int32) : Option (Int32 × tw_St) :=
  fX8_goThrough_l136 k3 tw_F σ a0 x1 x2 x3 x4 0
def fX8_goThrough_h108 (k3 : (tw_St → Nat → Int32 → Int32 → Int32 → Int32 → Option (Int32 × tw_St))) (k108 : (tw_St → Nat → Int32 → Int32 → Int32 → Int32 → Int32 → Option (Int32 × tw_St))) (σ : tw_St) (a0 : Nat) (x1 : Int32) (x2 : Int32) (x3 : Int32) (x4 : Int32) (x5 : Int32) : Option (Int32 × tw_St) :=
  if 4 ≤ x5 then
    fX8_goThrough_b133 k3 σ a0 x1 x2 x3 x4
  else
    (tw_gP σ 8 a0 12).bind fun v115 =>
    (tw_wI σ 20 v115 ((4 * x4) + x5) 0).bind fun σ126 =>
    k108 σ126 a0 x1 x2 x3 x4 (x5 + 1)
def fX8_goThrough_l108 (k3 : (tw_St → Nat → Int32 → Int32 → Int32 → Int32 → Option (Int32 × tw_St))) (n : Nat) : tw_St → Nat → Int32 → Int32 → Int32 → Int32 → Int32 → Option (Int32 × tw_St) := tw_it (fun _ _ _ _ _ _ _ => none) (fX8_goThrough_h108 k3) n
def fX8_goThrough_b105 (k3 : (tw_St → Nat → Int32 → Int32 → Int32 → Int32 → Option (Int32 × tw_St))) (σ : tw_St) (a0 : Nat) (x1 : Int32) (x2 : Int32) (x3 : Int32) (x4 : Int32) : Option (Int32 × tw_St) :=
  fX8_goThrough_l108 k3 tw_F σ a0 x1 x2 x3 x4 0
def fX8_goThrough_h60 (k3 : (tw_St → Nat → Int32 → Int32 → Int32 → Int32 → Option (Int32 × tw_St))) (k60 : (tw_St → Nat → Int32 → Int32 → Int32 → Int32 → Int32 → Option (Int32 × tw_St))) (σ : tw_St) (a0 : Nat) (x1 : Int32) (x2 : Int32) (x3 : Int32) (x4 : Int32) (x5 : Int32) : Option (Int32 × tw_St) :=
  if 12 ≤ x5 then
    fX8_goThrough_b105 k3 σ a0 x1 x2 x3 x4
  else
    (tw_gP σ 8 a0 11).bind fun v68 =>
    (tw_gP σ 8 a0 0).bind fun v80 =>
    (tw_aI σ 20 v80 (((10 + (100 * x4)) + 70) + x5)).bind fun v97 =>
    (tw_wI σ 20 v68 ((12 * x4) + x5) v97).bind fun σ98 =>
    k60 σ98 a0 x1 x2 x3 x4 (x5 + 1)
def fX8_goThrough_l60 (k3 : (tw_St → Nat → Int32 → Int32 → Int32 → Int32 → Option (Int32 × tw_St))) (n : Nat) : tw_St → Nat → Int32 → Int32 → Int32 → Int32 → Int32 → Option (Int32 × tw_St) := tw_it (fun _ _ _ _ _ _ _ => none) (fX8_goThrough_h60 k3) n
def fX8_goThrough_b39 (k3 : (tw_St → Nat → Int32 → Int32 → Int32 → Int32 → Option (Int32 × tw_St))) (σ : tw_St) (a0 : Nat) (x1 : Int32) (x2 : Int32) (x3 : Int32) (x4 : Int32) (z0 : Int32) (z1 : Int32) (z2 : Nat) : Option (Int32 × tw_St) :=
  (tw_wI σ 20 z2 z1 z0).bind fun σ39 =>
  (tw_gP σ39 8 a0 21).bind fun v41 =>
  (tw_wI σ39 20 v41 x4 0).bind fun σ47 =>
  (tw_gP σ47 8 a0 22).bind fun v49 =>
  (tw_wI σ47 20 v49 x4 (-6)).bind fun σ56 =>
  fX8_goThrough_l60 k3 tw_F σ56 a0 x1 x2 x3 x4 0
def fX8_goThrough_b33 (k3 : (tw_St → Nat → Int32 → Int32 → Int32 → Int32 → Option (Int32 × tw_St))) (σ : tw_St) (a0 : Nat) (x1 : Int32) (x2 : Int32) (x3 : Int32) (x4 : Int32) (z0 : Int32) (z1 : Nat) : Option (Int32 × tw_St) :=
  fX8_goThrough_b39 k3 σ a0 x1 x2 x3 x4 0 z0 z1
def fX8_goThrough_h3 (k3 : (tw_St → Nat → Int32 → Int32 → Int32 → Int32 → Option (Int32 × tw_St))) (σ : tw_St) (a0 : Nat) (x1 : Int32) (x2 : Int32) (x3 : Int32) (x4 : Int32) : Option (Int32 × tw_St) :=
  if 2 ≤ x4 then
    fX8_goThrough_b180 σ a0 x1 x2
  else
    (tw_gP σ 8 a0 17).bind fun v10 =>
    (tw_wI σ 20 v10 x4 0).bind fun σ16 =>
    (tw_gP σ16 8 a0 18).bind fun v18 =>
    if x3 < 0 then
      fX8_goThrough_b33 k3 σ16 a0 x1 x2 x3 x4 x4 v18
    else
      if x3 = x4 then
        fX8_goThrough_b33 k3 σ16 a0 x1 x2 x3 x4 x4 v18
      else
        fX8_goThrough_b39 k3 σ16 a0 x1 x2 x3 x4 (-6) x4 v18
def fX8_goThrough_l3 (n : Nat) : tw_St → Nat → Int32 → Int32 → Int32 → Int32 → Option (Int32 × tw_St) := tw_it (fun _ _ _ _ _ _ => none) (fX8_goThrough_h3) n
def fX8_goThrough (σ : tw_St) (a : Nat) (x1 : Int32) (x2 : Int32) (x3 : Int32) : Option (Int32 × tw_St) :=
  (tw_is σ 8 a).bind fun _ =>
  fX8_goThrough_l3 tw_F σ a x1 x2 x3 0
def rmX8_goThrough : Room := { frames := 4, cells := 0, slots := 0, locals := 100 }
def fX8_run (σ : tw_St) (a : Nat) : Option (Int32 × tw_St) :=
  (tw_is σ 8 a).bind fun _ =>
  (tw_gP σ 8 a 0).bind fun v2 =>
  (tw_aI σ 20 v2 0).bind fun v6 =>
  (fX8_goThrough σ a v6 (-6) (-6)).bind fun q11 =>
  some (q11.1, q11.2)
def rmX8_run : Room := { frames := 5, cells := 0, slots := 0, locals := 127 }
def fX8_exchange_b51 (σ : tw_St) (a0 : Nat) : Option (Int32 × tw_St) :=
  (fX8_run σ a0).bind fun q52 =>
  some (q52.1, q52.2)
def fX8_exchange_h7 (k7 : (tw_St → Nat → Int32 → Option (Int32 × tw_St))) (σ : tw_St) (a0 : Nat) (x1 : Int32) : Option (Int32 × tw_St) :=
  if 110 ≤ x1 then
    fX8_exchange_b51 σ a0
  else
    (tw_gP σ 8 a0 0).bind fun v14 =>
    (tw_aI σ 20 v14 x1).bind fun v18 =>
    (tw_gP σ 8 a0 0).bind fun v21 =>
    (tw_gP σ 8 a0 0).bind fun v26 =>
    (tw_aI σ 20 v26 (x1 + 100)).bind fun v33 =>
    (tw_wI σ 20 v21 x1 v33).bind fun σ34 =>
    (tw_gP σ34 8 a0 0).bind fun v36 =>
    (tw_wI σ34 20 v36 (x1 + 100) v18).bind fun σ44 =>
    k7 σ44 a0 (x1 + 1)
def fX8_exchange_l7 (n : Nat) : tw_St → Nat → Int32 → Option (Int32 × tw_St) := tw_it (fun _ _ _ => none) (fX8_exchange_h7) n
def fX8_exchange (σ : tw_St) (a : Nat) : Option (Int32 × tw_St) :=
  (tw_is σ 8 a).bind fun _ =>
  (fX8_record σ a).bind fun σ1 =>
  fX8_exchange_l7 tw_F σ1 a 10
def rmX8_exchange : Room := { frames := 6, cells := 0, slots := 0, locals := 147 }
def fX8_ofOrder (σ : tw_St) (a : Nat) (x1 : Int32) (x2 : Int32) (x3 : Int32) : Option (Int32) :=
  (tw_is σ 8 a).bind fun _ =>
  (fX8_isThread σ x1).bind fun v1 =>
  if v1 = 0 then
    some (-1)
  else
    (fX8_many σ a x1).bind fun v11 =>
    (fX8_in σ x2 0 (v11 - 1)).bind fun v16 =>
    if v16 = 0 then
      some (-1)
    else
      (fX8_in σ x3 0 4).bind fun v27 =>
      if v27 = 0 then
        some (-2)
      else
        (fX8_of σ a x1 x2 x3).bind fun v37 =>
        some v37
def rmX8_ofOrder : Room := { frames := 2, cells := 0, slots := 0, locals := 42 }
def fX8_stepsOf_b47 (k5 : (tw_St → Nat → Int32 → Int32 → Int32 → Int32 → Option (Int32))) (σ : tw_St) (a0 : Nat) (x1 : Int32) (x2 : Int32) (x4 : Int32) (z0 : Int32) (z1 : Int32) : Option (Int32) :=
  k5 σ a0 x1 x2 (z1 + z0) (x4 + 1)
def fX8_stepsOf_h5 (k5 : (tw_St → Nat → Int32 → Int32 → Int32 → Int32 → Option (Int32))) (σ : tw_St) (a0 : Nat) (x1 : Int32) (x2 : Int32) (x3 : Int32) (x4 : Int32) : Option (Int32) :=
  (tw_gP σ 8 a0 17).bind fun v8 =>
  (tw_aI σ 20 v8 x1).bind fun v12 =>
  if v12 ≤ x4 then
    some x3
  else
    (tw_gP σ 8 a0 14).bind fun v20 =>
    (tw_aI σ 20 v20 ((100 * x1) + x4)).bind fun v30 =>
    (fX8_of σ a0 x1 v30 0).bind fun v32 =>
    (fX8_roomOf σ v32).bind fun v35 =>
    if v35 = x2 then
      fX8_stepsOf_b47 k5 σ a0 x1 x2 x4 1 x3
    else
      fX8_stepsOf_b47 k5 σ a0 x1 x2 x4 0 x3
def fX8_stepsOf_l5 (n : Nat) : tw_St → Nat → Int32 → Int32 → Int32 → Int32 → Option (Int32) := tw_it (fun _ _ _ _ _ _ => none) (fX8_stepsOf_h5) n
def fX8_stepsOf (σ : tw_St) (a : Nat) (x1 : Int32) (x2 : Int32) : Option (Int32) :=
  (tw_is σ 8 a).bind fun _ =>
  fX8_stepsOf_l5 tw_F σ a x1 x2 0 0
def rmX8_stepsOf : Room := { frames := 1, cells := 0, slots := 0, locals := 23 }
def fX8_ofThread_b158 (σ : tw_St) (a0 : Nat) (x1 : Int32) (x2 : Int32) : Option (Int32 × tw_St) :=
  (fX8_in σ x2 4 7).bind fun v162 =>
  if v162 = 0 then
    some ((-2), σ)
  else
    (tw_gP σ 8 a0 19).bind fun v169 =>
    (tw_aI σ 20 v169 (((5 * x1) + x2) - 3)).bind fun v179 =>
    some (v179, σ)
def fX8_ofThread (σ : tw_St) (a : Nat) (x1 : Int32) (x2 : Int32) : Option (Int32 × tw_St) :=
  (tw_is σ 8 a).bind fun _ =>
  (fX8_isThread σ x1).bind fun v1 =>
  if v1 = 0 then
    some ((-1), σ)
  else
    (fX8_run σ a).bind fun q10 =>
    if x2 = 0 then
      (fX8_many q10.2 a x1).bind fun v74 =>
      some (v74, q10.2)
    else
    if x2 = 1 then
      (tw_gP q10.2 8 a 17).bind fun v79 =>
      (tw_aI q10.2 20 v79 x1).bind fun v83 =>
      some (v83, q10.2)
    else
    if x2 = 2 then
      (fX8_lengthOf q10.2 a x1).bind fun v87 =>
      some (v87, q10.2)
    else
    if x2 = 3 then
      (tw_gP q10.2 8 a 17).bind fun v92 =>
      (tw_aI q10.2 20 v92 x1).bind fun v96 =>
      if v96 = 100 then
        (tw_gP q10.2 8 a 18).bind fun v103 =>
        (tw_aI q10.2 20 v103 x1).bind fun v107 =>
        (fX8_many q10.2 a x1).bind fun v111 =>
        (fX8_in q10.2 v107 0 (v111 - 1)).bind fun v116 =>
        if v116 = 0 then
          some (0, q10.2)
        else
          some (1, q10.2)
      else
        some (0, q10.2)
    else
    if x2 = 8 then
      (tw_gP q10.2 8 a 17).bind fun v129 =>
      (tw_aI q10.2 20 v129 x1).bind fun v133 =>
      if v133 = 0 then
        some ((-6), q10.2)
      else
        (fX8_latest q10.2 a x1).bind fun v144 =>
        some (v144, q10.2)
    else
    if x2 = 9 then
      (fX8_stepsOf q10.2 a x1 (x2 - 9)).bind fun v154 =>
      some (v154, q10.2)
    else
    if x2 = 10 then
      (fX8_stepsOf q10.2 a x1 (x2 - 9)).bind fun v154 =>
      some (v154, q10.2)
    else
      fX8_ofThread_b158 q10.2 a x1 x2
def rmX8_ofThread : Room := { frames := 6, cells := 0, slots := 0, locals := 147 }
def fX8_last (σ : tw_St) (a : Nat) (x1 : Int32) (x2 : Int32) : Option (Int32 × tw_St) :=
  (tw_is σ 8 a).bind fun _ =>
  (fX8_isThread σ x1).bind fun v1 =>
  if v1 = 0 then
    some ((-1), σ)
  else
    (fX8_in σ x2 0 11).bind fun v11 =>
    if v11 = 0 then
      some ((-1), σ)
    else
      (fX8_run σ a).bind fun q20 =>
      (fX8_value q20.2 a x1 x2).bind fun v27 =>
      some (v27, q20.2)
def rmX8_last : Room := { frames := 6, cells := 0, slots := 0, locals := 147 }
def fX8_ofStep (σ : tw_St) (a : Nat) (x1 : Int32) (x2 : Int32) (x3 : Int32) : Option (Int32 × tw_St) :=
  (tw_is σ 8 a).bind fun _ =>
  (fX8_run σ a).bind fun q1 =>
  (fX8_isThread q1.2 x1).bind fun v6 =>
  if v6 = 0 then
    some ((-1), q1.2)
  else
    (tw_gP q1.2 8 a 17).bind fun v15 =>
    (tw_aI q1.2 20 v15 x1).bind fun v19 =>
    (fX8_in q1.2 x2 0 (v19 - 1)).bind fun v22 =>
    if v22 = 0 then
      some ((-1), q1.2)
    else
      if x3 = 0 then
        (tw_gP q1.2 8 a 13).bind fun v43 =>
        (tw_aI q1.2 20 v43 ((100 * x1) + x2)).bind fun v48 =>
        some (v48, q1.2)
      else
        if x3 = 1 then
          (tw_gP q1.2 8 a 14).bind fun v58 =>
          (tw_aI q1.2 20 v58 ((100 * x1) + x2)).bind fun v63 =>
          some (v63, q1.2)
        else
          if x3 = 2 then
            (tw_gP q1.2 8 a 15).bind fun v73 =>
            (tw_aI q1.2 20 v73 ((100 * x1) + x2)).bind fun v78 =>
            some (v78, q1.2)
          else
            if x3 = 3 then
              (tw_gP q1.2 8 a 16).bind fun v88 =>
              (tw_aI q1.2 20 v88 ((100 * x1) + x2)).bind fun v93 =>
              some (v93, q1.2)
            else
              some ((-2), q1.2)
def rmX8_ofStep : Room := { frames := 6, cells := 0, slots := 0, locals := 147 }
def fX8_at_b132 (k23 : (tw_St → Nat → Int32 → Int32 → Int32 → Option (Int32 × tw_St))) (σ : tw_St) (a0 : Nat) (x1 : Int32) (x2 : Int32) (x3 : Int32) : Option (Int32 × tw_St) :=
  k23 σ a0 x1 x2 (x3 + 1)
def fX8_at_b126 (k23 : (tw_St → Nat → Int32 → Int32 → Int32 → Option (Int32 × tw_St))) (k34 : (tw_St → Nat → Int32 → Int32 → Int32 → Int32 → Option (Int32 × tw_St))) (σ : tw_St) (a0 : Nat) (x1 : Int32) (x2 : Int32) (x3 : Int32) (x4 : Int32) : Option (Int32 × tw_St) :=
  k34 σ a0 x1 x2 x3 (x4 + 1)
def fX8_at_b116 (σ : tw_St) (x3 : Int32) : Option (Int32 × tw_St) :=
  some (x3, σ)
def fX8_at_b99 (k23 : (tw_St → Nat → Int32 → Int32 → Int32 → Option (Int32 × tw_St))) (k34 : (tw_St → Nat → Int32 → Int32 → Int32 → Int32 → Option (Int32 × tw_St))) (σ : tw_St) (a0 : Nat) (x1 : Int32) (x2 : Int32) (x3 : Int32) (x4 : Int32) (z0 : Int32) : Option (Int32 × tw_St) :=
  if x2 = 0 then
    (tw_gP σ 8 a0 13).bind fun v106 =>
    (tw_aI σ 20 v106 x4).bind fun v111 =>
    if v111 = x1 then
      fX8_at_b116 σ x3
    else
      fX8_at_b126 k23 k34 σ a0 x1 x2 x3 x4
  else
    if z0 = 0 then
      fX8_at_b126 k23 k34 σ a0 x1 x2 x3 x4
    else
      some (x3, σ)
def fX8_at_b98 (k23 : (tw_St → Nat → Int32 → Int32 → Int32 → Option (Int32 × tw_St))) (k34 : (tw_St → Nat → Int32 → Int32 → Int32 → Int32 → Option (Int32 × tw_St))) (σ : tw_St) (a0 : Nat) (x1 : Int32) (x2 : Int32) (x3 : Int32) (x4 : Int32) : Option (Int32 × tw_St) :=
  fX8_at_b99 k23 k34 σ a0 x1 x2 x3 x4 0
def fX8_at_h34 (k23 : (tw_St → Nat → Int32 → Int32 → Int32 → Option (Int32 × tw_St))) (k34 : (tw_St → Nat → Int32 → Int32 → Int32 → Int32 → Option (Int32 × tw_St))) (σ : tw_St) (a0 : Nat) (x1 : Int32) (x2 : Int32) (x3 : Int32) (x4 : Int32) : Option (Int32 × tw_St) :=
  (tw_gP σ 8 a0 17).bind fun v41 =>
  (tw_aI σ 20 v41 x3).bind fun v45 =>
  if ((100 * x3) + v45) ≤ x4 then
    fX8_at_b132 k23 σ a0 x1 x2 x3
  else
    (tw_gP σ 8 a0 13).bind fun v51 =>
    (tw_aI σ 20 v51 x4).bind fun v56 =>
    if x1 < v56 then
      fX8_at_b98 k23 k34 σ a0 x1 x2 x3 x4
    else
      (tw_gP σ 8 a0 15).bind fun v63 =>
      (tw_aI σ 20 v63 x4).bind fun v68 =>
      if v68 ≤ x1 then
        fX8_at_b98 k23 k34 σ a0 x1 x2 x3 x4
      else
        (tw_gP σ 8 a0 14).bind fun v75 =>
        (tw_aI σ 20 v75 x4).bind fun v80 =>
        (fX8_of σ a0 x3 v80 0).bind fun v82 =>
        (fX8_roomOf σ v82).bind fun v85 =>
        if v85 = (x2 - 1) then
          fX8_at_b99 k23 k34 σ a0 x1 x2 x3 x4 1
        else
          fX8_at_b98 k23 k34 σ a0 x1 x2 x3 x4
def fX8_at_l34 (k23 : (tw_St → Nat → Int32 → Int32 → Int32 → Option (Int32 × tw_St))) (n : Nat) : tw_St → Nat → Int32 → Int32 → Int32 → Int32 → Option (Int32 × tw_St) := tw_it (fun _ _ _ _ _ _ => none) (fX8_at_h34 k23) n
def fX8_at_h23 (k23 : (tw_St → Nat → Int32 → Int32 → Int32 → Option (Int32 × tw_St))) (σ : tw_St) (a0 : Nat) (x1 : Int32) (x2 : Int32) (x3 : Int32) : Option (Int32 × tw_St) :=
  if 2 ≤ x3 then
    some ((-6), σ)
  else
    fX8_at_l34 k23 tw_F σ a0 x1 x2 x3 (100 * x3)
def fX8_at_l23 (n : Nat) : tw_St → Nat → Int32 → Int32 → Int32 → Option (Int32 × tw_St) := tw_it (fun _ _ _ _ _ => none) (fX8_at_h23) n
def fX8_at (σ : tw_St) (a : Nat) (x1 : Int32) (x2 : Int32) : Option (Int32 × tw_St) :=
  (tw_is σ 8 a).bind fun _ =>
  if x1 < 0 then
    some ((-2), σ)
  else
    (fX8_in σ x2 0 2).bind fun v7 =>
    if v7 = 0 then
      some ((-2), σ)
    else
      (fX8_run σ a).bind fun q17 =>
      fX8_at_l23 tw_F q17.2 a x1 x2 0
def rmX8_at : Room := { frames := 6, cells := 0, slots := 0, locals := 147 }
def fX8_count (σ : tw_St) (a : Nat) (x1 : Int32) : Option (Int32 × tw_St) :=
  (tw_is σ 8 a).bind fun _ =>
  (fX8_in σ x1 7 9).bind fun v5 =>
  if v5 = 0 then
    (fX8_run σ a).bind fun q22 =>
    if x1 = 0 then
      some (q22.1, q22.2)
    else
    if x1 = 1 then
      (tw_gP q22.2 8 a 17).bind fun v67 =>
      (tw_aI q22.2 20 v67 0).bind fun v71 =>
      (tw_gP q22.2 8 a 17).bind fun v73 =>
      (tw_aI q22.2 20 v73 1).bind fun v77 =>
      some ((v71 + v77), q22.2)
    else
    if x1 = 2 then
      (tw_gP q22.2 8 a 17).bind fun v82 =>
      (tw_aI q22.2 20 v82 0).bind fun v86 =>
      (tw_gP q22.2 8 a 17).bind fun v89 =>
      (tw_aI q22.2 20 v89 1).bind fun v93 =>
      some (((q22.1 - v86) - v93), q22.2)
    else
    if x1 = 3 then
      (fX8_stepsOf q22.2 a 0 0).bind fun v99 =>
      (fX8_stepsOf q22.2 a 1 0).bind fun v105 =>
      (tw_gP q22.2 8 a 0).bind fun v110 =>
      (tw_aI q22.2 20 v110 1).bind fun v114 =>
      some (((v99 + v105) * v114), q22.2)
    else
    if x1 = 4 then
      (fX8_stepsOf q22.2 a 0 1).bind fun v120 =>
      (fX8_stepsOf q22.2 a 1 1).bind fun v126 =>
      (tw_gP q22.2 8 a 0).bind fun v131 =>
      (tw_aI q22.2 20 v131 2).bind fun v135 =>
      some (((v120 + v126) * v135), q22.2)
    else
    if x1 = 5 then
      (tw_gI q22.2 8 a 6).bind fun v139 =>
      some (v139, q22.2)
    else
      if x1 = 6 then
        (tw_gI q22.2 8 a 2).bind fun v150 =>
        some (v150, q22.2)
      else
        some ((-2), q22.2)
  else
    (tw_gP σ 8 a 0).bind fun v12 =>
    (tw_aI σ 20 v12 (x1 - 7)).bind fun v19 =>
    some (v19, σ)
def rmX8_count : Room := { frames := 6, cells := 0, slots := 0, locals := 147 }
def fX8_alone (σ : tw_St) (a : Nat) (x1 : Int32) : Option (Int32 × tw_St) :=
  (tw_is σ 8 a).bind fun _ =>
  (fX8_isThread σ x1).bind fun v1 =>
  if v1 = 0 then
    some ((-1), σ)
  else
    (tw_gP σ 8 a 0).bind fun v9 =>
    (tw_aI σ 20 v9 0).bind fun v13 =>
    (fX8_goThrough σ a v13 (-6) x1).bind fun q17 =>
    some (q17.1, q17.2)
def rmX8_alone : Room := { frames := 5, cells := 0, slots := 0, locals := 127 }
def fX8_lengthWith (σ : tw_St) (a : Nat) (x1 : Int32) : Option (Int32 × tw_St) :=
  (tw_is σ 8 a).bind fun _ =>
  (fX8_in σ x1 0 2).bind fun v3 =>
  if v3 = 0 then
    some ((-2), σ)
  else
    (fX8_goThrough σ a x1 (-6) (-6)).bind fun q15 =>
    some (q15.1, q15.2)
def rmX8_lengthWith : Room := { frames := 5, cells := 0, slots := 0, locals := 127 }
def fX8_bestTurns_b54 (k14 : (tw_St → Nat → Int32 → Int32 → Int32 → Option (Int32 × tw_St))) (σ : tw_St) (a0 : Nat) (x1 : Int32) (x3 : Int32) (z0 : Int32) : Option (Int32 × tw_St) :=
  k14 σ a0 x1 z0 (x3 + 1)
def fX8_bestTurns_b41 (k14 : (tw_St → Nat → Int32 → Int32 → Int32 → Option (Int32 × tw_St))) (σ : tw_St) (a0 : Nat) (x2 : Int32) (x3 : Int32) (x4 : Int32) (z0 : Int32) : Option (Int32 × tw_St) :=
  if x2 ≤ x4 then
    fX8_bestTurns_b54 k14 σ a0 z0 x3 x2
  else
    fX8_bestTurns_b54 k14 σ a0 z0 x3 x4
def fX8_bestTurns_h14 (k14 : (tw_St → Nat → Int32 → Int32 → Int32 → Option (Int32 × tw_St))) (σ : tw_St) (a0 : Nat) (x1 : Int32) (x2 : Int32) (x3 : Int32) : Option (Int32 × tw_St) :=
  if 3 ≤ x3 then
    some (x1, σ)
  else
    (fX8_goThrough σ a0 x3 (-6) (-6)).bind fun q25 =>
    if x2 ≤ q25.1 then
      fX8_bestTurns_b41 k14 q25.2 a0 x2 x3 q25.1 x1
    else
      fX8_bestTurns_b41 k14 q25.2 a0 x2 x3 q25.1 x3
def fX8_bestTurns_l14 (n : Nat) : tw_St → Nat → Int32 → Int32 → Int32 → Option (Int32 × tw_St) := tw_it (fun _ _ _ _ _ => none) (fX8_bestTurns_h14) n
def fX8_bestTurns (σ : tw_St) (a : Nat) : Option (Int32 × tw_St) :=
  (tw_is σ 8 a).bind fun _ =>
  (fX8_goThrough σ a 0 (-6) (-6)).bind fun q8 =>
  fX8_bestTurns_l14 tw_F q8.2 a 0 q8.1 1
def rmX8_bestTurns : Room := { frames := 5, cells := 0, slots := 0, locals := 127 }
def fX8_lengthWithout (σ : tw_St) (a : Nat) (x1 : Int32) : Option (Int32 × tw_St) :=
  (tw_is σ 8 a).bind fun _ =>
  (fX8_in σ x1 0 1).bind fun v3 =>
  if v3 = 0 then
    some ((-2), σ)
  else
    (tw_gP σ 8 a 0).bind fun v11 =>
    (tw_aI σ 20 v11 0).bind fun v15 =>
    (fX8_goThrough σ a v15 x1 (-6)).bind fun q19 =>
    some (q19.1, q19.2)
def rmX8_lengthWithout : Room := { frames := 5, cells := 0, slots := 0, locals := 127 }
def fX8_isFixed_b65 (k21 : (tw_St → Nat → Int32 → Int32 → Int32 → Int32 → Option (Int32))) (σ : tw_St) (a0 : Nat) (x1 : Int32) (x2 : Int32) (x4 : Int32) (z0 : Int32) : Option (Int32) :=
  k21 σ a0 x1 x2 z0 (x4 + 1)
def fX8_isFixed_b60 (k21 : (tw_St → Nat → Int32 → Int32 → Int32 → Int32 → Option (Int32))) (σ : tw_St) (a0 : Nat) (x1 : Int32) (x2 : Int32) (x4 : Int32) : Option (Int32) :=
  fX8_isFixed_b65 k21 σ a0 x1 x2 x4 1
def fX8_isFixed_b64 (k21 : (tw_St → Nat → Int32 → Int32 → Int32 → Int32 → Option (Int32))) (σ : tw_St) (a0 : Nat) (x1 : Int32) (x2 : Int32) (x4 : Int32) : Option (Int32) :=
  fX8_isFixed_b65 k21 σ a0 x1 x2 x4 0
def fX8_isFixed_h21 (k21 : (tw_St → Nat → Int32 → Int32 → Int32 → Int32 → Option (Int32))) (σ : tw_St) (a0 : Nat) (x1 : Int32) (x2 : Int32) (x3 : Int32) (x4 : Int32) : Option (Int32) :=
  (fX8_many σ a0 x1).bind fun v25 =>
  if v25 ≤ x4 then
    (tw_bz x3).bind fun _ =>
    some x3
  else
    if x3 = 0 then
      (fX8_of σ a0 x1 x4 0).bind fun v40 =>
      if v40 = 6 then
        (fX8_of σ a0 x1 x4 4).bind fun v53 =>
        if v53 = x2 then
          fX8_isFixed_b60 k21 σ a0 x1 x2 x4
        else
          fX8_isFixed_b64 k21 σ a0 x1 x2 x4
      else
        fX8_isFixed_b64 k21 σ a0 x1 x2 x4
    else
      fX8_isFixed_b60 k21 σ a0 x1 x2 x4
def fX8_isFixed_l21 (n : Nat) : tw_St → Nat → Int32 → Int32 → Int32 → Int32 → Option (Int32) := tw_it (fun _ _ _ _ _ _ => none) (fX8_isFixed_h21) n
def fX8_isFixed_b17 (σ : tw_St) (a0 : Nat) (x1 : Int32) (x2 : Int32) (z0 : Int32) : Option (Int32) :=
  fX8_isFixed_l21 tw_F σ a0 x1 x2 z0 0
def fX8_isFixed (σ : tw_St) (a : Nat) (x1 : Int32) (x2 : Int32) : Option (Int32) :=
  (tw_is σ 8 a).bind fun _ =>
  (fX8_of σ a x1 x2 0).bind fun v4 =>
  if v4 = 6 then
    fX8_isFixed_b17 σ a x1 x2 1
  else
    fX8_isFixed_b17 σ a x1 x2 0
def rmX8_isFixed : Room := { frames := 1, cells := 0, slots := 0, locals := 23 }
def fX8_swap_h17 (k17 : (tw_St → Nat → Int32 → Int32 → Option (tw_St))) (σ : tw_St) (a0 : Nat) (x3 : Int32) (x4 : Int32) : Option (tw_St) :=
  if (x3 + 5) ≤ x4 then
    some σ
  else
    (tw_gP σ 8 a0 0).bind fun v26 =>
    (tw_aI σ 20 v26 x4).bind fun v31 =>
    (tw_gP σ 8 a0 0).bind fun v35 =>
    (tw_gP σ 8 a0 0).bind fun v41 =>
    (tw_aI σ 20 v41 (x4 + 5)).bind fun v48 =>
    (tw_wI σ 20 v35 x4 v48).bind fun σ49 =>
    (tw_gP σ49 8 a0 0).bind fun v51 =>
    (tw_wI σ49 20 v51 (x4 + 5) v31).bind fun σ60 =>
    k17 σ60 a0 x3 (x4 + 1)
def fX8_swap_l17 (n : Nat) : tw_St → Nat → Int32 → Int32 → Option (tw_St) := tw_it (fun _ _ _ _ => none) (fX8_swap_h17) n
def fX8_swap (σ : tw_St) (a : Nat) (x1 : Int32) (x2 : Int32) : Option (tw_St) :=
  (tw_is σ 8 a).bind fun _ =>
  fX8_swap_l17 tw_F σ a (((10 + (100 * x1)) + 1) + (5 * x2)) (((10 + (100 * x1)) + 1) + (5 * x2))
def rmX8_swap : Room := { frames := 0, cells := 0, slots := 0, locals := 0 }
def fX8_areValuesSame_b34 (k4 : (tw_St → Nat → Int32 → Int32 → Option (Int32))) (σ : tw_St) (a0 : Nat) (x2 : Int32) (z0 : Int32) : Option (Int32) :=
  k4 σ a0 z0 (x2 + 1)
def fX8_areValuesSame_b33 (k4 : (tw_St → Nat → Int32 → Int32 → Option (Int32))) (σ : tw_St) (a0 : Nat) (x2 : Int32) : Option (Int32) :=
  fX8_areValuesSame_b34 k4 σ a0 x2 0
def fX8_areValuesSame_h4 (k4 : (tw_St → Nat → Int32 → Int32 → Option (Int32))) (σ : tw_St) (a0 : Nat) (x1 : Int32) (x2 : Int32) : Option (Int32) :=
  if 24 ≤ x2 then
    (tw_bz x1).bind fun _ =>
    some x1
  else
    if x1 = 0 then
      fX8_areValuesSame_b33 k4 σ a0 x2
    else
      (tw_gP σ 8 a0 11).bind fun v15 =>
      (tw_aI σ 20 v15 x2).bind fun v19 =>
      (tw_gP σ 8 a0 23).bind fun v21 =>
      (tw_aI σ 20 v21 x2).bind fun v25 =>
      if v19 = v25 then
        fX8_areValuesSame_b34 k4 σ a0 x2 1
      else
        fX8_areValuesSame_b33 k4 σ a0 x2
def fX8_areValuesSame_l4 (n : Nat) : tw_St → Nat → Int32 → Int32 → Option (Int32) := tw_it (fun _ _ _ _ => none) (fX8_areValuesSame_h4) n
def fX8_areValuesSame (σ : tw_St) (a : Nat) : Option (Int32) :=
  (tw_is σ 8 a).bind fun _ =>
  fX8_areValuesSame_l4 tw_F σ a 1 0
def rmX8_areValuesSame : Room := { frames := 0, cells := 0, slots := 0, locals := 0 }
def fX8_bestExchange_b178 (σ : tw_St) (x4 : Int32) : Option (Int32 × tw_St) :=
  some (x4, σ)
def fX8_bestExchange_b169 (σ : tw_St) (x2 : Int32) (x3 : Int32) (x4 : Int32) : Option (Int32 × tw_St) :=
  if x4 < 0 then
    fX8_bestExchange_b178 σ x4
  else
    if x2 = 0 then
      fX8_bestExchange_b178 σ x4
    else
      some (x3, σ)
def fX8_bestExchange_b163 (k63 : (tw_St → Nat → Int32 → Int32 → Int32 → Int32 → Int32 → Option (Int32 × tw_St))) (σ : tw_St) (a0 : Nat) (x1 : Int32) (x2 : Int32) (x3 : Int32) (x4 : Int32) (x5 : Int32) : Option (Int32 × tw_St) :=
  k63 σ a0 x1 x2 x3 x4 (x5 + 1)
def fX8_bestExchange_b162 (k63 : (tw_St → Nat → Int32 → Int32 → Int32 → Int32 → Int32 → Option (Int32 × tw_St))) (σ : tw_St) (a0 : Nat) (x1 : Int32) (x2 : Int32) (x4 : Int32) (x5 : Int32) (z0 : Int32) : Option (Int32 × tw_St) :=
  fX8_bestExchange_b163 k63 σ a0 x1 x2 z0 x4 x5
def fX8_bestExchange_b149 (k63 : (tw_St → Nat → Int32 → Int32 → Int32 → Int32 → Int32 → Option (Int32 × tw_St))) (σ : tw_St) (a0 : Nat) (x1 : Int32) (x2 : Int32) (x3 : Int32) (x5 : Int32) (x6 : Int32) (x7 : Int32) (z0 : Int32) : Option (Int32 × tw_St) :=
  if x7 = 0 then
    fX8_bestExchange_b162 k63 σ a0 x1 x2 z0 x5 x3
  else
    fX8_bestExchange_b162 k63 σ a0 x1 x2 z0 x5 x6
def fX8_bestExchange_b128 (k63 : (tw_St → Nat → Int32 → Int32 → Int32 → Int32 → Int32 → Option (Int32 × tw_St))) (σ : tw_St) (a0 : Nat) (x1 : Int32) (x2 : Int32) (x3 : Int32) (x4 : Int32) (x5 : Int32) (x6 : Int32) (z0 : Int32) : Option (Int32 × tw_St) :=
  (fX8_swap σ a0 x1 x5).bind fun σ134 =>
  if z0 = 0 then
    fX8_bestExchange_b149 k63 σ134 a0 x1 x2 x3 x5 x6 z0 x4
  else
    fX8_bestExchange_b149 k63 σ134 a0 x1 x2 x3 x5 x6 z0 x5
def fX8_bestExchange_b127 (k63 : (tw_St → Nat → Int32 → Int32 → Int32 → Int32 → Int32 → Option (Int32 × tw_St))) (σ : tw_St) (a0 : Nat) (x1 : Int32) (x2 : Int32) (x3 : Int32) (x4 : Int32) (x5 : Int32) (x6 : Int32) : Option (Int32 × tw_St) :=
  fX8_bestExchange_b128 k63 σ a0 x1 x2 x3 x4 x5 x6 0
def fX8_bestExchange_h63 (k63 : (tw_St → Nat → Int32 → Int32 → Int32 → Int32 → Int32 → Option (Int32 × tw_St))) (σ : tw_St) (a0 : Nat) (x1 : Int32) (x2 : Int32) (x3 : Int32) (x4 : Int32) (x5 : Int32) : Option (Int32 × tw_St) :=
  (fX8_many σ a0 x1).bind fun v69 =>
  if v69 ≤ (x5 + 1) then
    fX8_bestExchange_b169 σ x2 x3 x4
  else
    (fX8_isFixed σ a0 x1 x5).bind fun v79 =>
    if v79 = 0 then
      (fX8_isFixed σ a0 x1 (x5 + 1)).bind fun v91 =>
      if v91 = 0 then
        (fX8_swap σ a0 x1 x5).bind fun σ101 =>
        (fX8_run σ101 a0).bind fun q105 =>
        if x3 ≤ q105.1 then
          fX8_bestExchange_b127 k63 q105.2 a0 x1 x2 x3 x4 x5 q105.1
        else
          (fX8_areValuesSame q105.2 a0).bind fun v117 =>
          if v117 = 0 then
            fX8_bestExchange_b127 k63 q105.2 a0 x1 x2 x3 x4 x5 q105.1
          else
            fX8_bestExchange_b128 k63 q105.2 a0 x1 x2 x3 x4 x5 q105.1 1
      else
        fX8_bestExchange_b163 k63 σ a0 x1 x2 x3 x4 x5
    else
      fX8_bestExchange_b163 k63 σ a0 x1 x2 x3 x4 x5
def fX8_bestExchange_l63 (n : Nat) : tw_St → Nat → Int32 → Int32 → Int32 → Int32 → Int32 → Option (Int32 × tw_St) := tw_it (fun _ _ _ _ _ _ _ => none) (fX8_bestExchange_h63) n
def fX8_bestExchange_b60 (σ : tw_St) (a0 : Nat) (x1 : Int32) (x2 : Int32) (x3 : Int32) (x4 : Int32) : Option (Int32 × tw_St) :=
  fX8_bestExchange_l63 tw_F σ a0 x1 x2 x3 x4 0
def fX8_bestExchange_h33 (k33 : (tw_St → Nat → Int32 → Int32 → Int32 → Int32 → Int32 → Option (Int32 × tw_St))) (σ : tw_St) (a0 : Nat) (x1 : Int32) (x2 : Int32) (x3 : Int32) (x4 : Int32) (x5 : Int32) : Option (Int32 × tw_St) :=
  if 24 ≤ x5 then
    fX8_bestExchange_b60 σ a0 x1 x2 x3 x4
  else
    (tw_gP σ 8 a0 23).bind fun v41 =>
    (tw_gP σ 8 a0 11).bind fun v47 =>
    (tw_aI σ 20 v47 x5).bind fun v52 =>
    (tw_wI σ 20 v41 x5 v52).bind fun σ53 =>
    k33 σ53 a0 x1 x2 x3 x4 (x5 + 1)
def fX8_bestExchange_l33 (n : Nat) : tw_St → Nat → Int32 → Int32 → Int32 → Int32 → Int32 → Option (Int32 × tw_St) := tw_it (fun _ _ _ _ _ _ _ => none) (fX8_bestExchange_h33) n
def fX8_bestExchange (σ : tw_St) (a : Nat) (x1 : Int32) (x2 : Int32) : Option (Int32 × tw_St) :=
  (tw_is σ 8 a).bind fun _ =>
  (fX8_isThread σ x1).bind fun v1 =>
  if v1 = 0 then
    some ((-1), σ)
  else
    (fX8_in σ x2 0 1).bind fun v12 =>
    if v12 = 0 then
      some ((-2), σ)
    else
      (fX8_run σ a).bind fun q22 =>
      fX8_bestExchange_l33 tw_F q22.2 a x1 x2 q22.1 (-6) 0
def rmX8_bestExchange : Room := { frames := 6, cells := 0, slots := 0, locals := 147 }
def fX8_undo_b56 (σ : tw_St) (a0 : Nat) : Option (Int32 × tw_St) :=
  (tw_gI σ 8 a0 2).bind fun v57 =>
  some (v57, σ)
def fX8_undo_h22 (k22 : (tw_St → Nat → Int32 → Option (Int32 × tw_St))) (σ : tw_St) (a0 : Nat) (x1 : Int32) : Option (Int32 × tw_St) :=
  if 210 ≤ x1 then
    fX8_undo_b56 σ a0
  else
    (tw_gP σ 8 a0 0).bind fun v30 =>
    (tw_gP σ 8 a0 1).bind fun v35 =>
    (tw_gI σ 8 a0 2).bind fun v39 =>
    (tw_aI σ 20 v35 ((v39 * 210) + x1)).bind fun v48 =>
    (tw_wI σ 20 v30 x1 v48).bind fun σ49 =>
    k22 σ49 a0 (x1 + 1)
def fX8_undo_l22 (n : Nat) : tw_St → Nat → Int32 → Option (Int32 × tw_St) := tw_it (fun _ _ _ => none) (fX8_undo_h22) n
def fX8_undo (σ : tw_St) (a : Nat) : Option (Int32 × tw_St) :=
  (tw_is σ 8 a).bind fun _ =>
  (tw_gI σ 8 a 2).bind fun v1 =>
  if v1 = 0 then
    some ((-5), σ)
  else
    (tw_gI σ 8 a 2).bind fun v12 =>
    (tw_pI σ 8 a 2 (v12 - 1)).bind fun σ17 =>
    fX8_undo_l22 tw_F σ17 a 0
def rmX8_undo : Room := { frames := 0, cells := 0, slots := 0, locals := 0 }
def fX8_save_b45 (σ : tw_St) (a0 : Nat) (x1 : Int32) : Option (Int32 × tw_St) :=
  (tw_gP σ 8 a0 4).bind fun v46 =>
  (tw_bz 1).bind fun _ =>
  (tw_wI σ 22 v46 x1 1).bind fun σ51 =>
  (fX8_run σ51 a0).bind fun q53 =>
  some (q53.1, q53.2)
def fX8_save_h14 (k14 : (tw_St → Nat → Int32 → Int32 → Option (Int32 × tw_St))) (σ : tw_St) (a0 : Nat) (x1 : Int32) (x2 : Int32) : Option (Int32 × tw_St) :=
  if 210 ≤ x2 then
    fX8_save_b45 σ a0 x1
  else
    (tw_gP σ 8 a0 3).bind fun v22 =>
    (tw_gP σ 8 a0 0).bind fun v33 =>
    (tw_aI σ 20 v33 x2).bind fun v37 =>
    (tw_wI σ 20 v22 ((x1 * 210) + x2) v37).bind fun σ38 =>
    k14 σ38 a0 x1 (x2 + 1)
def fX8_save_l14 (n : Nat) : tw_St → Nat → Int32 → Int32 → Option (Int32 × tw_St) := tw_it (fun _ _ _ _ => none) (fX8_save_h14) n
def fX8_save (σ : tw_St) (a : Nat) (x1 : Int32) : Option (Int32 × tw_St) :=
  (tw_is σ 8 a).bind fun _ =>
  (fX8_in σ x1 0 1).bind fun v3 =>
  if v3 = 0 then
    some ((-2), σ)
  else
    fX8_save_l14 tw_F σ a x1 0
def rmX8_save : Room := { frames := 6, cells := 0, slots := 0, locals := 147 }
def fX8_restore_b61 (σ : tw_St) (a0 : Nat) : Option (Int32 × tw_St) :=
  (fX8_run σ a0).bind fun q62 =>
  some (q62.1, q62.2)
def fX8_restore_h30 (k30 : (tw_St → Nat → Int32 → Int32 → Option (Int32 × tw_St))) (σ : tw_St) (a0 : Nat) (x1 : Int32) (x2 : Int32) : Option (Int32 × tw_St) :=
  if 210 ≤ x2 then
    fX8_restore_b61 σ a0
  else
    (tw_gP σ 8 a0 0).bind fun v38 =>
    (tw_gP σ 8 a0 3).bind fun v43 =>
    (tw_aI σ 20 v43 ((x1 * 210) + x2)).bind fun v53 =>
    (tw_wI σ 20 v38 x2 v53).bind fun σ54 =>
    k30 σ54 a0 x1 (x2 + 1)
def fX8_restore_l30 (n : Nat) : tw_St → Nat → Int32 → Int32 → Option (Int32 × tw_St) := tw_it (fun _ _ _ _ => none) (fX8_restore_h30) n
def fX8_restore (σ : tw_St) (a : Nat) (x1 : Int32) : Option (Int32 × tw_St) :=
  (tw_is σ 8 a).bind fun _ =>
  (fX8_in σ x1 0 1).bind fun v3 =>
  if v3 = 0 then
    some ((-2), σ)
  else
    (tw_gP σ 8 a 4).bind fun v13 =>
    (tw_aI σ 22 v13 x1).bind fun v17 =>
    if v17 = 0 then
      some ((-5), σ)
    else
      (fX8_record σ a).bind fun σ25 =>
      fX8_restore_l30 tw_F σ25 a x1 0
def rmX8_restore : Room := { frames := 6, cells := 0, slots := 0, locals := 147 }
end
section
section TW_05a_J9_X3_X1
variable {p : Program} {l : Launch} {e : Env} {s : State} {m : MethodId} {args : Array Value} {below : List Frame} {meth : Method} {c : Code} {G : tw_G}
theorem cfX3_init : tw_CF yX3_init cX3_init 1 none 0 := ⟨tw_w78, tw_w50, by decide +kernel, by decide +kernel, by decide +kernel⟩
theorem kX3_init {σ : tw_St} {a : Nat} {q : tw_St} (h : fX3_init σ a = some q) : tw_is σ 3 a = some () := by
  unfold fX3_init at h
  obtain ⟨_, e1, -⟩ := tw_bd h
  exact e1
set_option maxRecDepth 100000 in
set_option maxHeartbeats 4000000 in
theorem mX3_init (l : Launch) (G : tw_G) {σ : tw_St} {a : Nat} {q : tw_St} (h : fX3_init σ a = some q) : tw_M l G yX3_init cX3_init 1 none rmX3_init 1 60 σ [.ref a] none q := by
  unfold fX3_init at h
  obtain ⟨_, -, h⟩ := tw_bd h
  refine tw_M.of (by decide +kernel) (Nat.le_of_ble_eq_true rfl) (fun p e s m args below meth c hnm hO => ?_)
  have hO : tw_O p s m args meth c cX3_init RX3 1 none G := hO
  refine tw_aload_n 0 hO dX3_init_0 rfl rfl ?_
  refine tw_objI hO dX3_init_1 tw_w79 tw_w65 tw_w66 (Nat.le_of_ble_eq_true rfl) (Nat.le_of_ble_eq_true rfl) ?_
  refine tw_aload_n 0 hO dX3_init_4 rfl rfl ?_
  refine tw_bipush (v := 60) hO dX3_init_5 (by decide) ?_
  refine tw_newA (t := 20) (N := 60) hO dX3_init_7 ⟨by decide, by decide⟩ rfl tw_w90 (by decide) (by decide) (Nat.le_of_ble_eq_true rfl) (Nat.le_of_ble_eq_true rfl) (Nat.le_of_ble_eq_true rfl) ?_
  obtain ⟨σ9, e9, h⟩ := tw_bd h
  refine tw_putP hO hnm dX3_init_9 (t := 3) rfl 1 (by decide) rfl rfl tw_w84 rfl rfl ⟨rfl, rfl⟩ e9 ?_
  refine tw_wide (Nat.le_of_ble_eq_true rfl : _ ≤ 1) (Nat.le_of_ble_eq_true rfl : _ ≤ 60) ?_
  exact tw_vret hO dX3_init_12 h
theorem cfX1_init : tw_CF yX1_init cX1_init 1 none 0 := ⟨tw_w188, tw_w53, by decide +kernel, by decide +kernel, by decide +kernel⟩
theorem kX1_init {σ : tw_St} {a : Nat} {q : tw_St} (h : fX1_init σ a = some q) : tw_is σ 1 a = some () := by
  unfold fX1_init at h
  obtain ⟨_, e1, -⟩ := tw_bd h
  exact e1
set_option maxRecDepth 100000 in
set_option maxHeartbeats 4000000 in
theorem mX1_init (l : Launch) (G : tw_G) {σ : tw_St} {a : Nat} {q : tw_St} (h : fX1_init σ a = some q) : tw_M l G yX1_init cX1_init 1 none rmX1_init 1 80 σ [.ref a] none q := by
  unfold fX1_init at h
  obtain ⟨_, -, h⟩ := tw_bd h
  refine tw_M.of (by decide +kernel) (Nat.le_of_ble_eq_true rfl) (fun p e s m args below meth c hnm hO => ?_)
  have hO : tw_O p s m args meth c cX1_init RX1 1 none G := hO
  refine tw_aload_n 0 hO dX1_init_0 rfl rfl ?_
  refine tw_objI hO dX1_init_1 tw_w189 tw_w65 tw_w66 (Nat.le_of_ble_eq_true rfl) (Nat.le_of_ble_eq_true rfl) ?_
  refine tw_aload_n 0 hO dX1_init_4 rfl rfl ?_
  refine tw_bipush (v := 80) hO dX1_init_5 (by decide) ?_
  refine tw_newA (t := 21) (N := 80) hO dX1_init_7 ⟨by decide, by decide⟩ rfl tw_w199 (by decide) (by decide) (Nat.le_of_ble_eq_true rfl) (Nat.le_of_ble_eq_true rfl) (Nat.le_of_ble_eq_true rfl) ?_
  obtain ⟨σ9, e9, h⟩ := tw_bd h
  refine tw_putP hO hnm dX1_init_9 (t := 1) rfl 1 (by decide) rfl rfl tw_w193 rfl rfl ⟨rfl, rfl⟩ e9 ?_
  refine tw_wide (Nat.le_of_ble_eq_true rfl : _ ≤ 1) (Nat.le_of_ble_eq_true rfl : _ ≤ 80) ?_
  exact tw_vret hO dX1_init_12 h
theorem cfX3_copyFrom : tw_CF yX3_copyFrom cX3_copyFrom 2 none 1 := ⟨tw_w294, tw_w50, by decide +kernel, by decide +kernel, by decide +kernel⟩
theorem kX3_copyFrom {σ : tw_St} {a : Nat} {r1 : Nat} {q : tw_St} (h : fX3_copyFrom σ a r1 = some q) : tw_is σ 3 a = some () := by
  unfold fX3_copyFrom at h
  obtain ⟨_, e1, -⟩ := tw_bd h
  exact e1
set_option maxRecDepth 100000 in
set_option maxHeartbeats 4000000 in
theorem mX3_copyFrom (l : Launch) (G : tw_G) {σ : tw_St} {a : Nat} {r1 : Nat} {q : tw_St} (h : fX3_copyFrom σ a r1 = some q) : tw_M l G yX3_copyFrom cX3_copyFrom 2 none rmX3_copyFrom 0 0 σ [.ref a, .ref r1] none q := by
  unfold fX3_copyFrom at h
  obtain ⟨_, -, h⟩ := tw_bd h
  refine tw_M.of (by decide +kernel) (Nat.le_of_ble_eq_true rfl) (fun p e s m args below meth c hnm hO => ?_)
  have hO : tw_O p s m args meth c cX3_copyFrom RX3 2 none G := hO
  refine tw_aload_n 0 hO dX3_copyFrom_0 rfl rfl ?_
  refine tw_aload_n 1 hO dX3_copyFrom_1 rfl rfl ?_
  obtain ⟨v2, e2, h⟩ := tw_bd h
  refine tw_getI hO dX3_copyFrom_2 (t := 3) rfl 0 (by decide) rfl tw_w81 rfl e2 ?_
  obtain ⟨σ5, e5, h⟩ := tw_bd h
  refine tw_putI hO dX3_copyFrom_5 (t := 3) rfl 0 (by decide) rfl tw_w81 rfl rfl ⟨rfl, rfl⟩ e5 ?_
  refine tw_aload_n 1 hO dX3_copyFrom_8 rfl rfl ?_
  obtain ⟨v9, e9, h⟩ := tw_bd h
  refine tw_getP hO dX3_copyFrom_9 (t := 3) rfl 1 (by decide) rfl tw_w84 rfl e9 ?_
  refine tw_iconst (v := 0) hO dX3_copyFrom_12 (by decide) ?_
  refine tw_aload_n 0 hO dX3_copyFrom_13 rfl rfl ?_
  obtain ⟨v14, e14, h⟩ := tw_bd h
  refine tw_getP hO dX3_copyFrom_14 (t := 3) rfl 1 (by decide) rfl tw_w84 rfl e14 ?_
  refine tw_iconst (v := 0) hO dX3_copyFrom_17 (by decide) ?_
  refine tw_bipush (v := 60) hO dX3_copyFrom_18 (by decide) ?_
  obtain ⟨σ20, e20, h⟩ := tw_bd h
  refine tw_copy hO dX3_copyFrom_20 tw_w295 tw_w290 tw_w289 tw_w57 (Nat.le_of_ble_eq_true rfl) (Nat.le_of_ble_eq_true rfl) e20 ?_
  exact tw_vret hO dX3_copyFrom_23 h
theorem cfX3_told : tw_CF yX3_told cX3_told 3 (some .int) 2 := ⟨tw_w316, tw_w50, by decide +kernel, by decide +kernel, by decide +kernel⟩
theorem kX3_told {σ : tw_St} {a : Nat} {x1 : Int32} {x2 : Int32} {q : Int32} (h : fX3_told σ a x1 x2 = some q) : tw_is σ 3 a = some () := by
  unfold fX3_told at h
  obtain ⟨_, e1, -⟩ := tw_bd h
  exact e1
set_option maxRecDepth 100000 in
set_option maxHeartbeats 4000000 in
theorem mX3_told (l : Launch) (G : tw_G) {σ : tw_St} {a : Nat} {x1 : Int32} {x2 : Int32} {q : Int32} (h : fX3_told σ a x1 x2 = some q) : tw_M l G yX3_told cX3_told 3 (some .int) rmX3_told 0 0 σ [.ref a, .int x1, .int x2] (some (.int q)) σ := by
  unfold fX3_told at h
  obtain ⟨_, -, h⟩ := tw_bd h
  refine tw_M.of (by decide +kernel) (Nat.le_of_ble_eq_true rfl) (fun p e s m args below meth c hnm hO => ?_)
  have hO : tw_O p s m args meth c cX3_told RX3 3 (some .int) G := hO
  refine tw_iload_n 1 hO dX3_told_0 rfl rfl ?_
  refine tw_if_lt (tgt := 21) hO dX3_told_1 (by decide) (fun cc => ?_) (fun cc => ?_)
  · replace h := tw_ifp cc h
    refine tw_bipush (v := (-6)) hO dX3_told_21 (by decide) ?_
    exact tw_iretR hO dX3_told_23 h
  · replace h := tw_ifn cc h
    refine tw_iload_n 1 hO dX3_told_4 rfl rfl ?_
    refine tw_aload_n 0 hO dX3_told_5 rfl rfl ?_
    obtain ⟨v6, e6, h⟩ := tw_bd h
    refine tw_getI hO dX3_told_6 (t := 3) rfl 0 (by decide) rfl tw_w81 rfl e6 ?_
    refine tw_icmp_ge (tgt := 21) hO dX3_told_9 (by decide) (fun cc => ?_) (fun cc => ?_)
    · replace h := tw_ifp cc h
      refine tw_bipush (v := (-6)) hO dX3_told_21 (by decide) ?_
      exact tw_iretR hO dX3_told_23 h
    · replace h := tw_ifn cc h
      refine tw_iload_n 2 hO dX3_told_12 rfl rfl ?_
      refine tw_if_lt (tgt := 21) hO dX3_told_13 (by decide) (fun cc => ?_) (fun cc => ?_)
      · replace h := tw_ifp cc h
        refine tw_bipush (v := (-6)) hO dX3_told_21 (by decide) ?_
        exact tw_iretR hO dX3_told_23 h
      · replace h := tw_ifn cc h
        refine tw_iload_n 2 hO dX3_told_16 rfl rfl ?_
        refine tw_iconst (v := 5) hO dX3_told_17 (by decide) ?_
        refine tw_icmp_lt (tgt := 24) hO dX3_told_18 (by decide) (fun cc => ?_) (fun cc => ?_)
        · replace h := tw_ifp cc h
          refine tw_aload_n 0 hO dX3_told_24 rfl rfl ?_
          obtain ⟨v25, e25, h⟩ := tw_bd h
          refine tw_getP hO dX3_told_25 (t := 3) rfl 1 (by decide) rfl tw_w84 rfl e25 ?_
          refine tw_iload_n 1 hO dX3_told_28 rfl rfl ?_
          refine tw_iconst (v := 5) hO dX3_told_29 (by decide) ?_
          refine tw_imul hO dX3_told_30 ?_
          refine tw_iload_n 2 hO dX3_told_31 rfl rfl ?_
          refine tw_iadd hO dX3_told_32 ?_
          obtain ⟨v33, e33, h⟩ := tw_bd h
          refine tw_iald hO dX3_told_33 e33 ?_
          exact tw_iretR hO dX3_told_34 h
        · replace h := tw_ifn cc h
          refine tw_bipush (v := (-6)) hO dX3_told_21 (by decide) ?_
          exact tw_iretR hO dX3_told_23 h
theorem cfJ9_floorMod : tw_CF yJ9_floorMod_7cf53 cJ9_floorMod_7cf53 3 (some .int) 2 := ⟨tw_w327, tw_w58, by decide +kernel, by decide +kernel, by decide +kernel⟩
set_option maxRecDepth 100000 in
set_option maxHeartbeats 4000000 in
theorem mJ9_floorMod (l : Launch) (G : tw_G) {σ : tw_St} {x0 : Int32} {x1 : Int32} {q : Int32} (h : fJ9_floorMod σ x0 x1 = some q) : tw_M l G yJ9_floorMod_7cf53 cJ9_floorMod_7cf53 3 (some .int) rmJ9_floorMod 0 0 σ [.int x0, .int x1] (some (.int q)) σ := by
  unfold fJ9_floorMod at h
  refine tw_M.ofF (by decide +kernel) (Nat.le_of_ble_eq_true rfl) (fun p e s m args below meth c hnm hO => ?_)
  have hO : tw_O p s m args meth c cJ9_floorMod_7cf53 RJ9 3 (some .int) G := hO
  refine tw_iload_n 0 hO dJ9_floorMod_7cf53_0 rfl rfl ?_
  refine tw_iload_n 1 hO dJ9_floorMod_7cf53_1 rfl rfl ?_
  by_cases c2 : x1 = 0
  · exact absurd (tw_ifp c2 h) (by simp)
  replace h := tw_ifn c2 h
  refine tw_irem hO dJ9_floorMod_7cf53_2 c2 ?_
  refine tw_istore_n (lv' := [(2, .int (x0 - x0 / x1 * x1)), (0, .int x0), (1, .int x1)]) hO dJ9_floorMod_7cf53_3 rfl (by decide) rfl ?_
  refine tw_iload_n 1 hO dJ9_floorMod_7cf53_4 rfl rfl ?_
  refine tw_iload_n 2 hO dJ9_floorMod_7cf53_5 rfl rfl ?_
  refine tw_ixor hO dJ9_floorMod_7cf53_6 ?_
  refine tw_if_ge (tgt := 18) hO dJ9_floorMod_7cf53_7 (by decide) (fun cc => ?_) (fun cc => ?_)
  · replace h := tw_ifp cc h
    refine tw_iload_n 0 hO dJ9_floorMod_7cf53_18 rfl rfl ?_
    exact tw_iretR hO dJ9_floorMod_7cf53_19 h
  · replace h := tw_ifn cc h
    refine tw_iload_n 0 hO dJ9_floorMod_7cf53_10 rfl rfl ?_
    refine tw_if_eq (tgt := 18) hO dJ9_floorMod_7cf53_11 (by decide) (fun cc => ?_) (fun cc => ?_)
    · replace h := tw_ifp cc h
      refine tw_iload_n 0 hO dJ9_floorMod_7cf53_18 rfl rfl ?_
      exact tw_iretR hO dJ9_floorMod_7cf53_19 h
    · replace h := tw_ifn cc h
      refine tw_iload_n 0 hO dJ9_floorMod_7cf53_14 rfl rfl ?_
      refine tw_iload_n 2 hO dJ9_floorMod_7cf53_15 rfl rfl ?_
      refine tw_iadd hO dJ9_floorMod_7cf53_16 ?_
      exact tw_iretR hO dJ9_floorMod_7cf53_17 h
theorem cfX3_roomOf : tw_CF yX3_roomOf cX3_roomOf 2 (some .int) 1 := ⟨tw_w359, tw_w50, by decide +kernel, by decide +kernel, by decide +kernel⟩
theorem kX3_roomOf {σ : tw_St} {a : Nat} {x1 : Int32} {q : Int32} (h : fX3_roomOf σ a x1 = some q) : tw_is σ 3 a = some () := by
  unfold fX3_roomOf at h
  obtain ⟨_, e1, -⟩ := tw_bd h
  exact e1
set_option maxRecDepth 100000 in
set_option maxHeartbeats 4000000 in
theorem mX3_roomOf (l : Launch) (G : tw_G) {σ : tw_St} {a : Nat} {x1 : Int32} {q : Int32} (h : fX3_roomOf σ a x1 = some q) : tw_M l G yX3_roomOf cX3_roomOf 2 (some .int) rmX3_roomOf 0 0 σ [.ref a, .int x1] (some (.int q)) σ := by
  unfold fX3_roomOf at h
  obtain ⟨_, -, h⟩ := tw_bd h
  refine tw_M.of (by decide +kernel) (Nat.le_of_ble_eq_true rfl) (fun p e s m args below meth c hnm hO => ?_)
  have hO : tw_O p s m args meth c cX3_roomOf RX3 2 (some .int) G := hO
  refine tw_aload_n 0 hO dX3_roomOf_0 rfl rfl ?_
  refine tw_iload_n 1 hO dX3_roomOf_1 rfl rfl ?_
  refine tw_iconst (v := 0) hO dX3_roomOf_2 (by decide) ?_
  obtain ⟨v3, e3, h⟩ := tw_bd h
  refine tw_cVi hO (mX3_told l G e3) cfX3_told (t := 3) rfl (kX3_told e3) tw_w360 tw_w314 tw_w315 rfl rfl rfl rfl ⟨(Nat.le_of_ble_eq_true rfl), (Nat.le_of_ble_eq_true rfl)⟩ (Nat.le_of_ble_eq_true rfl) ⟨(Nat.le_of_ble_eq_true rfl), (Nat.le_of_ble_eq_true rfl)⟩ dX3_roomOf_3 ?_
  by_cases s3 : v3 = 3
  · replace h := tw_ifp s3 h
    refine tw_tableIn (off := 26) (tgt := 32) hO dX3_roomOf_6 (by rw [s3]; decide) (by rw [s3]; decide) (by rw [s3]; rfl) (by decide) ?_
    refine tw_iconst (v := 0) hO dX3_roomOf_32 (by decide) ?_
    exact tw_iretR hO dX3_roomOf_33 h
  replace h := tw_ifn s3 h
  by_cases s4 : v3 = 4
  · replace h := tw_ifp s4 h
    refine tw_tableIn (off := 28) (tgt := 34) hO dX3_roomOf_6 (by rw [s4]; decide) (by rw [s4]; decide) (by rw [s4]; rfl) (by decide) ?_
    refine tw_iconst (v := 1) hO dX3_roomOf_34 (by decide) ?_
    exact tw_iretR hO dX3_roomOf_35 h
  replace h := tw_ifn s4 h
  by_cases s5 : v3 = 5
  · replace h := tw_ifp s5 h
    refine tw_tableIn (off := 28) (tgt := 34) hO dX3_roomOf_6 (by rw [s5]; decide) (by rw [s5]; decide) (by rw [s5]; rfl) (by decide) ?_
    refine tw_iconst (v := 1) hO dX3_roomOf_34 (by decide) ?_
    exact tw_iretR hO dX3_roomOf_35 h
  replace h := tw_ifn s5 h
  refine tw_tableOut (tgt := 36) hO dX3_roomOf_6 (by have n3 := lv_neT (a := 3) s3 rfl; have n4 := lv_neT (a := 4) s4 rfl; have n5 := lv_neT (a := 5) s5 rfl; omega) (by decide) ?_
  refine tw_bipush (v := (-6)) hO dX3_roomOf_36 (by decide) ?_
  exact tw_iretR hO dX3_roomOf_38 h
theorem cfJ9_max : tw_CF yJ9_max_7cf53 cJ9_max_7cf53 2 (some .int) 2 := ⟨tw_w380, tw_w58, by decide +kernel, by decide +kernel, by decide +kernel⟩
set_option maxRecDepth 100000 in
set_option maxHeartbeats 4000000 in
theorem mJ9_max (l : Launch) (G : tw_G) {σ : tw_St} {x0 : Int32} {x1 : Int32} {q : Int32} (h : fJ9_max σ x0 x1 = some q) : tw_M l G yJ9_max_7cf53 cJ9_max_7cf53 2 (some .int) rmJ9_max 0 0 σ [.int x0, .int x1] (some (.int q)) σ := by
  unfold fJ9_max at h
  refine tw_M.ofF (by decide +kernel) (Nat.le_of_ble_eq_true rfl) (fun p e s m args below meth c hnm hO => ?_)
  have hO : tw_O p s m args meth c cJ9_max_7cf53 RJ9 2 (some .int) G := hO
  refine tw_iload_n 0 hO dJ9_max_7cf53_0 rfl rfl ?_
  refine tw_iload_n 1 hO dJ9_max_7cf53_1 rfl rfl ?_
  refine tw_icmp_lt (tgt := 9) hO dJ9_max_7cf53_2 (by decide) (fun cc => ?_) (fun cc => ?_)
  · replace h := tw_ifp cc h
    refine tw_iload_n 1 hO dJ9_max_7cf53_9 rfl rfl ?_
    exact tw_iretR hO dJ9_max_7cf53_10 h
  · replace h := tw_ifn cc h
    refine tw_iload_n 0 hO dJ9_max_7cf53_5 rfl rfl ?_
    refine tw_goto (tgt := 10) hO dJ9_max_7cf53_6 (by decide) ?_
    exact tw_iretR hO dJ9_max_7cf53_10 h
theorem cfX3_givenBy : tw_CF yX3_givenBy cX3_givenBy 3 (some .int) 1 := ⟨tw_w384, tw_w50, by decide +kernel, by decide +kernel, by decide +kernel⟩
theorem kX3_givenBy {σ : tw_St} {a : Nat} {x1 : Int32} {q : Int32} (h : fX3_givenBy σ a x1 = some q) : tw_is σ 3 a = some () := by
  unfold fX3_givenBy at h
  obtain ⟨_, e1, -⟩ := tw_bd h
  exact e1
set_option maxRecDepth 100000 in
set_option maxHeartbeats 4000000 in
theorem wX3_givenBy_b18 (hO : tw_O p s m args meth c cX3_givenBy RX3 3 (some .int) G) {σ : tw_St} {q : Int32} (h : fX3_givenBy_b18 σ = some q) : tw_X p l e rmX3_givenBy s m args below meth c 3 G σ 0 0 (tw_Q below args s G 0 0 (some (.int q)) σ) 18 [] [] := by
  unfold fX3_givenBy_b18 at h
  refine tw_bipush (v := (-6)) hO dX3_givenBy_18 (by decide) ?_
  refine tw_goto (tgt := 29) hO dX3_givenBy_20 (by decide) ?_
  exact tw_iretR hO dX3_givenBy_29 h
set_option maxRecDepth 100000 in
set_option maxHeartbeats 4000000 in
theorem mX3_givenBy (l : Launch) (G : tw_G) {σ : tw_St} {a : Nat} {x1 : Int32} {q : Int32} (h : fX3_givenBy σ a x1 = some q) : tw_M l G yX3_givenBy cX3_givenBy 3 (some .int) rmX3_givenBy 0 0 σ [.ref a, .int x1] (some (.int q)) σ := by
  unfold fX3_givenBy at h
  obtain ⟨_, -, h⟩ := tw_bd h
  refine tw_M.of (by decide +kernel) (Nat.le_of_ble_eq_true rfl) (fun p e s m args below meth c hnm hO => ?_)
  have hO : tw_O p s m args meth c cX3_givenBy RX3 3 (some .int) G := hO
  refine tw_aload_n 0 hO dX3_givenBy_0 rfl rfl ?_
  refine tw_iload_n 1 hO dX3_givenBy_1 rfl rfl ?_
  refine tw_iconst (v := 0) hO dX3_givenBy_2 (by decide) ?_
  obtain ⟨v3, e3, h⟩ := tw_bd h
  refine tw_cVi hO (mX3_told l G e3) cfX3_told (t := 3) rfl (kX3_told e3) tw_w360 tw_w314 tw_w315 rfl rfl rfl rfl ⟨(Nat.le_of_ble_eq_true rfl), (Nat.le_of_ble_eq_true rfl)⟩ (Nat.le_of_ble_eq_true rfl) ⟨(Nat.le_of_ble_eq_true rfl), (Nat.le_of_ble_eq_true rfl)⟩ dX3_givenBy_3 ?_
  refine tw_istore_n (lv' := [(2, .int v3), (0, .ref a), (1, .int x1)]) hO dX3_givenBy_6 rfl (by decide) rfl ?_
  refine tw_iload_n 0 hO dX3_givenBy_7 rfl rfl ?_
  refine tw_iconst (v := 5) hO dX3_givenBy_8 (by decide) ?_
  refine tw_icmp_eq (tgt := 18) hO dX3_givenBy_9 (by decide) (fun cc => ?_) (fun cc => ?_)
  · replace h := tw_ifp cc h
    refine tw_sub [] rfl ?_
    exact wX3_givenBy_b18 hO h
  · replace h := tw_ifn cc h
    refine tw_iload_n 0 hO dX3_givenBy_12 rfl rfl ?_
    refine tw_bipush (v := 6) hO dX3_givenBy_13 (by decide) ?_
    refine tw_icmp_ne (tgt := 23) hO dX3_givenBy_15 (by decide) (fun cc => ?_) (fun cc => ?_)
    · replace h := tw_ifn cc h
      refine tw_aload_n 1 hO dX3_givenBy_23 rfl rfl ?_
      refine tw_iload_n 2 hO dX3_givenBy_24 rfl rfl ?_
      refine tw_iconst (v := 1) hO dX3_givenBy_25 (by decide) ?_
      obtain ⟨v26, e26, h⟩ := tw_bd h
      refine tw_cVi hO (mX3_told l G e26) cfX3_told (t := 3) rfl (kX3_told e26) tw_w360 tw_w314 tw_w315 rfl rfl rfl rfl ⟨(Nat.le_of_ble_eq_true rfl), (Nat.le_of_ble_eq_true rfl)⟩ (Nat.le_of_ble_eq_true rfl) ⟨(Nat.le_of_ble_eq_true rfl), (Nat.le_of_ble_eq_true rfl)⟩ dX3_givenBy_26 ?_
      exact tw_iretR hO dX3_givenBy_29 h
    · replace h := tw_ifp cc h
      refine tw_sub [] rfl ?_
      exact wX3_givenBy_b18 hO h
theorem cfX1_charactersIn : tw_CF yX1_charactersIn cX1_charactersIn 7 (some .int) 1 := ⟨tw_w391, tw_w53, by decide +kernel, by decide +kernel, by decide +kernel⟩
set_option maxRecDepth 100000 in
set_option maxHeartbeats 4000000 in
theorem wX1_charactersIn_b60 (hO : tw_O p s m args meth c cX1_charactersIn RX1 7 (some .int) G) {σ : tw_St} {y2 : Int64} {x4 : Int32} {q : Int32} (h : fX1_charactersIn_b60 σ y2 x4 = some q) : tw_X p l e rmX1_charactersIn s m args below meth c 7 G σ 0 0 (tw_Q below args s G 0 0 (some (.int q)) σ) 60 [(2, .long y2), (4, .int x4)] [] := by
  unfold fX1_charactersIn_b60 at h
  refine tw_lload_n 0 hO dX1_charactersIn_60 rfl rfl ?_
  refine tw_lconst (v := 0) hO dX1_charactersIn_61 (by decide) ?_
  refine tw_lcmp hO dX1_charactersIn_62 ?_
  refine tw_if_ne (tgt := 71) hO dX1_charactersIn_63 (by decide) (fun cc => ?_) (fun cc => ?_)
  · replace h := tw_ifn cc h
    refine tw_iconst (v := 0) hO dX1_charactersIn_71 (by decide) ?_
    exact tw_iretR hO dX1_charactersIn_72 h
  · replace h := tw_ifp cc h
    refine tw_iload 1 hO dX1_charactersIn_66 rfl ?_
    refine tw_goto (tgt := 72) hO dX1_charactersIn_68 (by decide) ?_
    exact tw_iretR hO dX1_charactersIn_72 h
set_option maxRecDepth 100000 in
set_option maxHeartbeats 4000000 in
theorem wX1_charactersIn_h5 (hO : tw_O p s m args meth c cX1_charactersIn RX1 7 (some .int) G) {k5 : (tw_St → Int64 → Int32 → Option (Int32))} (hk5 : ∀ (σ : tw_St) (y2 : Int64) (x4 : Int32) (q : Int32), k5 σ y2 x4 = some q → tw_X p l e rmX1_charactersIn s m args below meth c 7 G σ 0 0 (tw_Q below args s G 0 0 (some (.int q)) σ) 5 [(2, .long y2), (4, .int x4)] []) {σ : tw_St} {y2 : Int64} {x4 : Int32} {q : Int32} (h : fX1_charactersIn_h5 k5 σ y2 x4 = some q) : tw_X p l e rmX1_charactersIn s m args below meth c 7 G σ 0 0 (tw_Q below args s G 0 0 (some (.int q)) σ) 5 [(2, .long y2), (4, .int x4)] [] := by
  unfold fX1_charactersIn_h5 at h
  refine tw_iload 1 hO dX1_charactersIn_5 rfl ?_
  refine tw_bipush (v := 8) hO dX1_charactersIn_7 (by decide) ?_
  refine tw_icmp_ge (tgt := 60) hO dX1_charactersIn_9 (by decide) (fun cc => ?_) (fun cc => ?_)
  · replace h := tw_ifp cc h
    exact wX1_charactersIn_b60 hO h
  · replace h := tw_ifn cc h
    refine tw_lload_n 0 hO dX1_charactersIn_12 rfl rfl ?_
    refine tw_ldc2 hO tw_w392 dX1_charactersIn_13 ?_
    refine tw_land hO dX1_charactersIn_16 ?_
    refine tw_lconst (v := 0) hO dX1_charactersIn_17 (by decide) ?_
    refine tw_lcmp hO dX1_charactersIn_18 ?_
    refine tw_if_eq (tgt := 60) hO dX1_charactersIn_19 (by decide) (fun cc => ?_) (fun cc => ?_)
    · replace h := tw_ifp cc h
      exact wX1_charactersIn_b60 hO h
    · replace h := tw_ifn cc h
      refine tw_lload_n 0 hO dX1_charactersIn_22 rfl rfl ?_
      refine tw_ldc2 hO tw_w392 dX1_charactersIn_23 ?_
      refine tw_land hO dX1_charactersIn_26 ?_
      refine tw_lstore (lv' := [(5, .long (y2 &&& 255)), (2, .long y2), (4, .int x4)]) hO dX1_charactersIn_27 (by decide) rfl ?_
      refine tw_lload 0 hO dX1_charactersIn_29 rfl ?_
      refine tw_ldc2 hO tw_w393 dX1_charactersIn_31 ?_
      refine tw_lcmp hO dX1_charactersIn_34 ?_
      refine tw_if_lt (tgt := 47) hO dX1_charactersIn_35 (by decide) (fun cc => ?_) (fun cc => ?_)
      · replace h := tw_ifp cc h
        refine tw_iconst (v := 0) hO dX1_charactersIn_47 (by decide) ?_
        exact tw_iretR hO dX1_charactersIn_48 h
      · replace h := tw_ifn cc h
        refine tw_lload 0 hO dX1_charactersIn_38 rfl ?_
        refine tw_ldc2 hO tw_w394 dX1_charactersIn_40 ?_
        refine tw_lcmp hO dX1_charactersIn_43 ?_
        refine tw_if_le (tgt := 49) hO dX1_charactersIn_44 (by decide) (fun cc => ?_) (fun cc => ?_)
        · replace h := tw_ifp cc h
          refine tw_lload_n 1 hO dX1_charactersIn_49 rfl rfl ?_
          refine tw_bipush (v := 8) hO dX1_charactersIn_50 (by decide) ?_
          refine tw_lushr hO dX1_charactersIn_52 ?_
          refine tw_lstore_n (lv' := [(2, .long ((y2.toUInt64 >>> ((8 : Int32).toInt64.toUInt64 &&& Int64.toUInt64 63)).toInt64)), (5, .long (y2 &&& 255)), (4, .int x4)]) hO dX1_charactersIn_53 rfl (by decide) rfl ?_
          refine tw_iinc (q := 2) (v := (x4 + 1)) (lv' := [(4, .int (x4 + 1)), (2, .long ((y2.toUInt64 >>> ((8 : Int32).toInt64.toUInt64 &&& Int64.toUInt64 63)).toInt64)), (5, .long (y2 &&& 255))]) hO dX1_charactersIn_54 rfl rfl (by decide) rfl ?_
          refine tw_goto (tgt := 5) hO dX1_charactersIn_57 (by decide) ?_
          refine tw_sub [1, 0] rfl ?_
          exact hk5 _ _ _ _ h
        · replace h := tw_ifn cc h
          refine tw_iconst (v := 0) hO dX1_charactersIn_47 (by decide) ?_
          exact tw_iretR hO dX1_charactersIn_48 h
set_option maxRecDepth 100000 in
set_option maxHeartbeats 4000000 in
theorem wX1_charactersIn_l5 (hO : tw_O p s m args meth c cX1_charactersIn RX1 7 (some .int) G) : ∀ (n : Nat) (σ : tw_St) (y2 : Int64) (x4 : Int32) (q : Int32), fX1_charactersIn_l5 n σ y2 x4 = some q → tw_X p l e rmX1_charactersIn s m args below meth c 7 G σ 0 0 (tw_Q below args s G 0 0 (some (.int q)) σ) 5 [(2, .long y2), (4, .int x4)] [] := by
  intro n
  induction n with
  | zero => intro _ _ _ q h; cases (show (none : Option (Int32)) = some q from h)
  | succ n ih => intro _ _ _ q h; exact wX1_charactersIn_h5 hO ih h
set_option maxRecDepth 100000 in
set_option maxHeartbeats 4000000 in
theorem mX1_charactersIn (l : Launch) (G : tw_G) {σ : tw_St} {y0 : Int64} {q : Int32} (h : fX1_charactersIn σ y0 = some q) : tw_M l G yX1_charactersIn cX1_charactersIn 7 (some .int) rmX1_charactersIn 0 0 σ [.long y0] (some (.int q)) σ := by
  unfold fX1_charactersIn at h
  refine tw_M.of (by decide +kernel) (Nat.le_of_ble_eq_true rfl) (fun p e s m args below meth c hnm hO => ?_)
  have hO : tw_O p s m args meth c cX1_charactersIn RX1 7 (some .int) G := hO
  refine tw_lload_n 0 hO dX1_charactersIn_0 rfl rfl ?_
  refine tw_lstore_n (lv' := [(2, .long y0), (0, .long y0)]) hO dX1_charactersIn_1 rfl (by decide) rfl ?_
  refine tw_iconst (v := 0) hO dX1_charactersIn_2 (by decide) ?_
  refine tw_istore (lv' := [(4, .int 0), (2, .long y0), (0, .long y0)]) hO dX1_charactersIn_3 (by decide) rfl ?_
  refine tw_sub [1, 0] rfl ?_
  exact wX1_charactersIn_l5 hO _ _ _ _ _ h
theorem cfX1_append : tw_CF yX1_append cX1_append 5 none 2 := ⟨tw_w398, tw_w53, by decide +kernel, by decide +kernel, by decide +kernel⟩
theorem kX1_append {σ : tw_St} {a : Nat} {y1 : Int64} {x3 : Int32} {q : tw_St} (h : fX1_append σ a y1 x3 = some q) : tw_is σ 1 a = some () := by
  unfold fX1_append at h
  obtain ⟨_, e1, -⟩ := tw_bd h
  exact e1
set_option maxRecDepth 100000 in
set_option maxHeartbeats 4000000 in
theorem wX1_append_h5 (hO : tw_O p s m args meth c cX1_append RX1 5 none G) {k5 : (tw_St → Nat → Int64 → Int32 → Option (tw_St))} (hk5 : ∀ (σ : tw_St) (a0 : Nat) (y1 : Int64) (x4 : Int32) (q : tw_St), k5 σ a0 y1 x4 = some q → tw_X p l e rmX1_append s m args below meth c 5 G σ 0 0 (tw_Q below args s G 0 0 none q) 5 [(0, .ref a0), (1, .long y1), (4, .int x4)] []) {σ : tw_St} {a0 : Nat} {y1 : Int64} {x4 : Int32} {q : tw_St} (h : fX1_append_h5 k5 σ a0 y1 x4 = some q) : tw_X p l e rmX1_append s m args below meth c 5 G σ 0 0 (tw_Q below args s G 0 0 none q) 5 [(0, .ref a0), (1, .long y1), (4, .int x4)] [] := by
  unfold fX1_append_h5 at h
  refine tw_iload 2 hO dX1_append_5 rfl ?_
  refine tw_if_lt (tgt := 57) hO dX1_append_7 (by decide) (fun cc => ?_) (fun cc => ?_)
  · replace h := tw_ifp cc h
    exact tw_vret hO dX1_append_57 h
  · replace h := tw_ifn cc h
    refine tw_aload_n 0 hO dX1_append_10 rfl rfl ?_
    obtain ⟨v11, e11, h⟩ := tw_bd h
    refine tw_getI hO dX1_append_11 (t := 1) rfl 0 (by decide) rfl tw_w191 rfl e11 ?_
    refine tw_bipush (v := 80) hO dX1_append_14 (by decide) ?_
    refine tw_icmp_ge (tgt := 57) hO dX1_append_16 (by decide) (fun cc => ?_) (fun cc => ?_)
    · replace h := tw_ifp cc h
      exact tw_vret hO dX1_append_57 h
    · replace h := tw_ifn cc h
      refine tw_aload_n 0 hO dX1_append_19 rfl rfl ?_
      obtain ⟨v20, e20, h⟩ := tw_bd h
      refine tw_getP hO dX1_append_20 (t := 1) rfl 1 (by decide) rfl tw_w193 rfl e20 ?_
      refine tw_aload_n 0 hO dX1_append_23 rfl rfl ?_
      obtain ⟨v24, e24, h⟩ := tw_bd h
      refine tw_getI hO dX1_append_24 (t := 1) rfl 0 (by decide) rfl tw_w191 rfl e24 ?_
      refine tw_lload_n 1 hO dX1_append_27 rfl rfl ?_
      refine tw_bipush (v := 8) hO dX1_append_28 (by decide) ?_
      refine tw_iload 2 hO dX1_append_30 rfl ?_
      refine tw_imul hO dX1_append_32 ?_
      refine tw_lushr hO dX1_append_33 ?_
      refine tw_ldc2 hO tw_w392 dX1_append_34 ?_
      refine tw_land hO dX1_append_37 ?_
      refine tw_l2i hO dX1_append_38 ?_
      refine tw_i2c hO dX1_append_39 ?_
      obtain ⟨_, hz40, h⟩ := tw_bd h
      obtain ⟨σ40, e40, h⟩ := tw_bd h
      refine tw_cast hO dX1_append_40 hz40 e40 ?_
      refine tw_aload_n 0 hO dX1_append_41 rfl rfl ?_
      refine tw_dup hO dX1_append_42 rfl ?_
      obtain ⟨v43, e43, h⟩ := tw_bd h
      refine tw_getI hO dX1_append_43 (t := 1) rfl 0 (by decide) rfl tw_w191 rfl e43 ?_
      refine tw_iconst (v := 1) hO dX1_append_46 (by decide) ?_
      refine tw_iadd hO dX1_append_47 ?_
      obtain ⟨σ48, e48, h⟩ := tw_bd h
      refine tw_putI hO dX1_append_48 (t := 1) rfl 0 (by decide) rfl tw_w191 rfl rfl ⟨rfl, rfl⟩ e48 ?_
      refine tw_iinc (q := 2) (v := (x4 + (-1))) (lv' := [(4, .int (x4 + (-1))), (0, .ref a0), (1, .long y1)]) hO dX1_append_51 rfl rfl (by decide) rfl ?_
      refine tw_goto (tgt := 5) hO dX1_append_54 (by decide) ?_
      refine tw_sub [1, 2, 0] rfl ?_
      exact hk5 _ _ _ _ _ h
set_option maxRecDepth 100000 in
set_option maxHeartbeats 4000000 in
theorem wX1_append_l5 (hO : tw_O p s m args meth c cX1_append RX1 5 none G) : ∀ (n : Nat) (σ : tw_St) (a0 : Nat) (y1 : Int64) (x4 : Int32) (q : tw_St), fX1_append_l5 n σ a0 y1 x4 = some q → tw_X p l e rmX1_append s m args below meth c 5 G σ 0 0 (tw_Q below args s G 0 0 none q) 5 [(0, .ref a0), (1, .long y1), (4, .int x4)] [] := by
  intro n
  induction n with
  | zero => intro _ _ _ _ q h; cases (show (none : Option (tw_St)) = some q from h)
  | succ n ih => intro _ _ _ _ q h; exact wX1_append_h5 hO ih h
set_option maxRecDepth 100000 in
set_option maxHeartbeats 4000000 in
theorem mX1_append (l : Launch) (G : tw_G) {σ : tw_St} {a : Nat} {y1 : Int64} {x3 : Int32} {q : tw_St} (h : fX1_append σ a y1 x3 = some q) : tw_M l G yX1_append cX1_append 5 none rmX1_append 0 0 σ [.ref a, .long y1, .int x3] none q := by
  unfold fX1_append at h
  obtain ⟨_, -, h⟩ := tw_bd h
  refine tw_M.of (by decide +kernel) (Nat.le_of_ble_eq_true rfl) (fun p e s m args below meth c hnm hO => ?_)
  have hO : tw_O p s m args meth c cX1_append RX1 5 none G := hO
  refine tw_iload_n 2 hO dX1_append_0 rfl rfl ?_
  refine tw_iconst (v := 1) hO dX1_append_1 (by decide) ?_
  refine tw_isub hO dX1_append_2 ?_
  refine tw_istore (lv' := [(4, .int (x3 - 1)), (0, .ref a), (1, .long y1), (3, .int x3)]) hO dX1_append_3 (by decide) rfl ?_
  refine tw_sub [1, 2, 0] rfl ?_
  exact wX1_append_l5 hO _ _ _ _ _ _ h
theorem cfX1_charAt : tw_CF yX1_charAt cX1_charAt 2 (some .char) 1 := ⟨tw_w422, tw_w53, by decide +kernel, by decide +kernel, by decide +kernel⟩
theorem kX1_charAt {σ : tw_St} {a : Nat} {x1 : Int32} {q : Int32} (h : fX1_charAt σ a x1 = some q) : tw_is σ 1 a = some () := by
  unfold fX1_charAt at h
  obtain ⟨_, e1, -⟩ := tw_bd h
  exact e1
set_option maxRecDepth 100000 in
set_option maxHeartbeats 4000000 in
theorem mX1_charAt (l : Launch) (G : tw_G) {σ : tw_St} {a : Nat} {x1 : Int32} {q : Int32} (h : fX1_charAt σ a x1 = some q) : tw_M l G yX1_charAt cX1_charAt 2 (some .char) rmX1_charAt 0 0 σ [.ref a, .int x1] (some (.int q)) σ := by
  unfold fX1_charAt at h
  obtain ⟨_, -, h⟩ := tw_bd h
  refine tw_M.of (by decide +kernel) (Nat.le_of_ble_eq_true rfl) (fun p e s m args below meth c hnm hO => ?_)
  have hO : tw_O p s m args meth c cX1_charAt RX1 2 (some .char) G := hO
  refine tw_iload_n 1 hO dX1_charAt_0 rfl rfl ?_
  refine tw_if_lt (tgt := 27) hO dX1_charAt_1 (by decide) (fun cc => ?_) (fun cc => ?_)
  · replace h := tw_ifp cc h
    refine tw_iconst (v := 0) hO dX1_charAt_27 (by decide) ?_
    exact tw_zretR hO rfl dX1_charAt_28 h
  · replace h := tw_ifn cc h
    refine tw_iload_n 1 hO dX1_charAt_4 rfl rfl ?_
    refine tw_aload_n 0 hO dX1_charAt_5 rfl rfl ?_
    obtain ⟨v6, e6, h⟩ := tw_bd h
    refine tw_getI hO dX1_charAt_6 (t := 1) rfl 0 (by decide) rfl tw_w191 rfl e6 ?_
    refine tw_icmp_ge (tgt := 27) hO dX1_charAt_9 (by decide) (fun cc => ?_) (fun cc => ?_)
    · replace h := tw_ifp cc h
      refine tw_iconst (v := 0) hO dX1_charAt_27 (by decide) ?_
      exact tw_zretR hO rfl dX1_charAt_28 h
    · replace h := tw_ifn cc h
      refine tw_iload_n 1 hO dX1_charAt_12 rfl rfl ?_
      refine tw_bipush (v := 80) hO dX1_charAt_13 (by decide) ?_
      refine tw_icmp_ge (tgt := 27) hO dX1_charAt_15 (by decide) (fun cc => ?_) (fun cc => ?_)
      · replace h := tw_ifp cc h
        refine tw_iconst (v := 0) hO dX1_charAt_27 (by decide) ?_
        exact tw_zretR hO rfl dX1_charAt_28 h
      · replace h := tw_ifn cc h
        refine tw_aload_n 0 hO dX1_charAt_18 rfl rfl ?_
        obtain ⟨v19, e19, h⟩ := tw_bd h
        refine tw_getP hO dX1_charAt_19 (t := 1) rfl 1 (by decide) rfl tw_w193 rfl e19 ?_
        refine tw_iload_n 1 hO dX1_charAt_22 rfl rfl ?_
        obtain ⟨v23, e23, h⟩ := tw_bd h
        refine tw_cald hO dX1_charAt_23 e23 ?_
        refine tw_goto (tgt := 28) hO dX1_charAt_24 (by decide) ?_
        obtain ⟨_, hz, h⟩ := tw_bd h
        exact tw_zretR hO (tw_bc_sp hz).2.1 dX1_charAt_28 h
theorem cfX3_add : tw_CF yX3_add cX3_add 7 none 5 := ⟨tw_w438, tw_w50, by decide +kernel, by decide +kernel, by decide +kernel⟩
theorem kX3_add {σ : tw_St} {a : Nat} {x1 : Int32} {x2 : Int32} {x3 : Int32} {x4 : Int32} {x5 : Int32} {q : tw_St} (h : fX3_add σ a x1 x2 x3 x4 x5 = some q) : tw_is σ 3 a = some () := by
  unfold fX3_add at h
  obtain ⟨_, e1, -⟩ := tw_bd h
  exact e1
set_option maxRecDepth 100000 in
set_option maxHeartbeats 4000000 in
theorem mX3_add (l : Launch) (G : tw_G) {σ : tw_St} {a : Nat} {x1 : Int32} {x2 : Int32} {x3 : Int32} {x4 : Int32} {x5 : Int32} {q : tw_St} (h : fX3_add σ a x1 x2 x3 x4 x5 = some q) : tw_M l G yX3_add cX3_add 7 none rmX3_add 0 0 σ [.ref a, .int x1, .int x2, .int x3, .int x4, .int x5] none q := by
  unfold fX3_add at h
  obtain ⟨_, -, h⟩ := tw_bd h
  refine tw_M.of (by decide +kernel) (Nat.le_of_ble_eq_true rfl) (fun p e s m args below meth c hnm hO => ?_)
  have hO : tw_O p s m args meth c cX3_add RX3 7 none G := hO
  refine tw_aload_n 0 hO dX3_add_0 rfl rfl ?_
  obtain ⟨v1, e1, h⟩ := tw_bd h
  refine tw_getI hO dX3_add_1 (t := 3) rfl 0 (by decide) rfl tw_w81 rfl e1 ?_
  refine tw_if_lt (tgt := 16) hO dX3_add_4 (by decide) (fun cc => ?_) (fun cc => ?_)
  · replace h := tw_ifp cc h
    exact tw_vret hO dX3_add_16 h
  · replace h := tw_ifn cc h
    refine tw_aload_n 0 hO dX3_add_7 rfl rfl ?_
    obtain ⟨v8, e8, h⟩ := tw_bd h
    refine tw_getI hO dX3_add_8 (t := 3) rfl 0 (by decide) rfl tw_w81 rfl e8 ?_
    refine tw_bipush (v := 12) hO dX3_add_11 (by decide) ?_
    refine tw_icmp_lt (tgt := 17) hO dX3_add_13 (by decide) (fun cc => ?_) (fun cc => ?_)
    · replace h := tw_ifp cc h
      refine tw_aload_n 0 hO dX3_add_17 rfl rfl ?_
      obtain ⟨v18, e18, h⟩ := tw_bd h
      refine tw_getI hO dX3_add_18 (t := 3) rfl 0 (by decide) rfl tw_w81 rfl e18 ?_
      refine tw_iconst (v := 5) hO dX3_add_21 (by decide) ?_
      refine tw_imul hO dX3_add_22 ?_
      refine tw_istore (lv' := [(6, .int (v18 * 5)), (0, .ref a), (1, .int x1), (2, .int x2), (3, .int x3), (4, .int x4), (5, .int x5)]) hO dX3_add_23 (by decide) rfl ?_
      refine tw_aload_n 1 hO dX3_add_25 rfl rfl ?_
      obtain ⟨v26, e26, h⟩ := tw_bd h
      refine tw_getP hO dX3_add_26 (t := 3) rfl 1 (by decide) rfl tw_w84 rfl e26 ?_
      refine tw_iload 0 hO dX3_add_29 rfl ?_
      refine tw_iconst (v := 0) hO dX3_add_31 (by decide) ?_
      refine tw_iadd hO dX3_add_32 ?_
      refine tw_iload_n 2 hO dX3_add_33 rfl rfl ?_
      obtain ⟨σ34, e34, h⟩ := tw_bd h
      refine tw_iast hO dX3_add_34 e34 ?_
      refine tw_aload_n 1 hO dX3_add_35 rfl rfl ?_
      obtain ⟨v36, e36, h⟩ := tw_bd h
      refine tw_getP hO dX3_add_36 (t := 3) rfl 1 (by decide) rfl tw_w84 rfl e36 ?_
      refine tw_iload 0 hO dX3_add_39 rfl ?_
      refine tw_iconst (v := 1) hO dX3_add_41 (by decide) ?_
      refine tw_iadd hO dX3_add_42 ?_
      refine tw_iload_n 3 hO dX3_add_43 rfl rfl ?_
      obtain ⟨σ44, e44, h⟩ := tw_bd h
      refine tw_iast hO dX3_add_44 e44 ?_
      refine tw_aload_n 1 hO dX3_add_45 rfl rfl ?_
      obtain ⟨v46, e46, h⟩ := tw_bd h
      refine tw_getP hO dX3_add_46 (t := 3) rfl 1 (by decide) rfl tw_w84 rfl e46 ?_
      refine tw_iload 0 hO dX3_add_49 rfl ?_
      refine tw_iconst (v := 2) hO dX3_add_51 (by decide) ?_
      refine tw_iadd hO dX3_add_52 ?_
      refine tw_iload_n 4 hO dX3_add_53 rfl rfl ?_
      obtain ⟨σ54, e54, h⟩ := tw_bd h
      refine tw_iast hO dX3_add_54 e54 ?_
      refine tw_aload_n 1 hO dX3_add_55 rfl rfl ?_
      obtain ⟨v56, e56, h⟩ := tw_bd h
      refine tw_getP hO dX3_add_56 (t := 3) rfl 1 (by decide) rfl tw_w84 rfl e56 ?_
      refine tw_iload 0 hO dX3_add_59 rfl ?_
      refine tw_iconst (v := 3) hO dX3_add_61 (by decide) ?_
      refine tw_iadd hO dX3_add_62 ?_
      refine tw_iload 5 hO dX3_add_63 rfl ?_
      obtain ⟨σ65, e65, h⟩ := tw_bd h
      refine tw_iast hO dX3_add_65 e65 ?_
      refine tw_aload_n 1 hO dX3_add_66 rfl rfl ?_
      obtain ⟨v67, e67, h⟩ := tw_bd h
      refine tw_getP hO dX3_add_67 (t := 3) rfl 1 (by decide) rfl tw_w84 rfl e67 ?_
      refine tw_iload 0 hO dX3_add_70 rfl ?_
      refine tw_iconst (v := 4) hO dX3_add_72 (by decide) ?_
      refine tw_iadd hO dX3_add_73 ?_
      refine tw_iload 6 hO dX3_add_74 rfl ?_
      obtain ⟨σ76, e76, h⟩ := tw_bd h
      refine tw_iast hO dX3_add_76 e76 ?_
      refine tw_aload_n 1 hO dX3_add_77 rfl rfl ?_
      refine tw_dup hO dX3_add_78 rfl ?_
      obtain ⟨v79, e79, h⟩ := tw_bd h
      refine tw_getI hO dX3_add_79 (t := 3) rfl 0 (by decide) rfl tw_w81 rfl e79 ?_
      refine tw_iconst (v := 1) hO dX3_add_82 (by decide) ?_
      refine tw_iadd hO dX3_add_83 ?_
      obtain ⟨σ84, e84, h⟩ := tw_bd h
      refine tw_putI hO dX3_add_84 (t := 3) rfl 0 (by decide) rfl tw_w81 rfl rfl ⟨rfl, rfl⟩ e84 ?_
      exact tw_vret hO dX3_add_87 h
    · replace h := tw_ifn cc h
      exact tw_vret hO dX3_add_16 h
theorem cfX3_mayMove : tw_CF yX3_mayMove cX3_mayMove 3 (some .boolean) 1 := ⟨tw_w558, tw_w50, by decide +kernel, by decide +kernel, by decide +kernel⟩
theorem kX3_mayMove {σ : tw_St} {a : Nat} {x1 : Int32} {q : Int32} (h : fX3_mayMove σ a x1 = some q) : tw_is σ 3 a = some () := by
  unfold fX3_mayMove at h
  obtain ⟨_, e1, -⟩ := tw_bd h
  exact e1
set_option maxRecDepth 100000 in
set_option maxHeartbeats 4000000 in
theorem wX3_mayMove_b46 (hO : tw_O p s m args meth c cX3_mayMove RX3 3 (some .boolean) G) {k15 : (tw_St → Nat → Int32 → Int32 → Option (Int32))} (hk15 : ∀ (σ : tw_St) (a0 : Nat) (x1 : Int32) (x2 : Int32) (q : Int32), k15 σ a0 x1 x2 = some q → tw_X p l e rmX3_mayMove s m args below meth c 3 G σ 0 0 (tw_Q below args s G 0 0 (some (.int q)) σ) 15 [(0, .ref a0), (1, .int x1), (2, .int x2)] []) {σ : tw_St} {a0 : Nat} {x1 : Int32} {x2 : Int32} {q : Int32} (h : fX3_mayMove_b46 k15 σ a0 x1 x2 = some q) : tw_X p l e rmX3_mayMove s m args below meth c 3 G σ 0 0 (tw_Q below args s G 0 0 (some (.int q)) σ) 46 [(0, .ref a0), (1, .int x1), (2, .int x2)] [] := by
  unfold fX3_mayMove_b46 at h
  refine tw_iinc (q := 2) (v := (x2 + 1)) (lv' := [(2, .int (x2 + 1)), (0, .ref a0), (1, .int x1)]) hO dX3_mayMove_46 rfl rfl (by decide) rfl ?_
  refine tw_goto (tgt := 15) hO dX3_mayMove_49 (by decide) ?_
  refine tw_sub [1, 2, 0] rfl ?_
  exact hk15 _ _ _ _ _ h
set_option maxRecDepth 100000 in
set_option maxHeartbeats 4000000 in
theorem wX3_mayMove_h15 (hO : tw_O p s m args meth c cX3_mayMove RX3 3 (some .boolean) G) {k15 : (tw_St → Nat → Int32 → Int32 → Option (Int32))} (hk15 : ∀ (σ : tw_St) (a0 : Nat) (x1 : Int32) (x2 : Int32) (q : Int32), k15 σ a0 x1 x2 = some q → tw_X p l e rmX3_mayMove s m args below meth c 3 G σ 0 0 (tw_Q below args s G 0 0 (some (.int q)) σ) 15 [(0, .ref a0), (1, .int x1), (2, .int x2)] []) {σ : tw_St} {a0 : Nat} {x1 : Int32} {x2 : Int32} {q : Int32} (h : fX3_mayMove_h15 k15 σ a0 x1 x2 = some q) : tw_X p l e rmX3_mayMove s m args below meth c 3 G σ 0 0 (tw_Q below args s G 0 0 (some (.int q)) σ) 15 [(0, .ref a0), (1, .int x1), (2, .int x2)] [] := by
  unfold fX3_mayMove_h15 at h
  refine tw_iload_n 2 hO dX3_mayMove_15 rfl rfl ?_
  refine tw_aload_n 0 hO dX3_mayMove_16 rfl rfl ?_
  obtain ⟨v17, e17, h⟩ := tw_bd h
  refine tw_getI hO dX3_mayMove_17 (t := 3) rfl 0 (by decide) rfl tw_w81 rfl e17 ?_
  refine tw_icmp_ge (tgt := 52) hO dX3_mayMove_20 (by decide) (fun cc => ?_) (fun cc => ?_)
  · replace h := tw_ifp cc h
    refine tw_iconst (v := 1) hO dX3_mayMove_52 (by decide) ?_
    exact tw_zretR hO rfl dX3_mayMove_53 h
  · replace h := tw_ifn cc h
    refine tw_aload_n 0 hO dX3_mayMove_23 rfl rfl ?_
    refine tw_iload_n 2 hO dX3_mayMove_24 rfl rfl ?_
    refine tw_iconst (v := 0) hO dX3_mayMove_25 (by decide) ?_
    obtain ⟨v26, e26, h⟩ := tw_bd h
    refine tw_cVi hO (mX3_told l G e26) cfX3_told (t := 3) rfl (kX3_told e26) tw_w360 tw_w314 tw_w315 rfl rfl rfl rfl ⟨(Nat.le_of_ble_eq_true rfl), (Nat.le_of_ble_eq_true rfl)⟩ (Nat.le_of_ble_eq_true rfl) ⟨(Nat.le_of_ble_eq_true rfl), (Nat.le_of_ble_eq_true rfl)⟩ dX3_mayMove_26 ?_
    refine tw_bipush (v := 6) hO dX3_mayMove_29 (by decide) ?_
    refine tw_icmp_ne (tgt := 46) hO dX3_mayMove_31 (by decide) (fun cc => ?_) (fun cc => ?_)
    · replace h := tw_ifn cc h
      exact wX3_mayMove_b46 hO hk15 h
    · replace h := tw_ifp cc h
      refine tw_aload_n 0 hO dX3_mayMove_34 rfl rfl ?_
      refine tw_iload_n 2 hO dX3_mayMove_35 rfl rfl ?_
      refine tw_iconst (v := 4) hO dX3_mayMove_36 (by decide) ?_
      obtain ⟨v37, e37, h⟩ := tw_bd h
      refine tw_cVi hO (mX3_told l G e37) cfX3_told (t := 3) rfl (kX3_told e37) tw_w360 tw_w314 tw_w315 rfl rfl rfl rfl ⟨(Nat.le_of_ble_eq_true rfl), (Nat.le_of_ble_eq_true rfl)⟩ (Nat.le_of_ble_eq_true rfl) ⟨(Nat.le_of_ble_eq_true rfl), (Nat.le_of_ble_eq_true rfl)⟩ dX3_mayMove_37 ?_
      refine tw_iload_n 1 hO dX3_mayMove_40 rfl rfl ?_
      refine tw_icmp_ne (tgt := 46) hO dX3_mayMove_41 (by decide) (fun cc => ?_) (fun cc => ?_)
      · replace h := tw_ifn cc h
        exact wX3_mayMove_b46 hO hk15 h
      · replace h := tw_ifp cc h
        refine tw_iconst (v := 0) hO dX3_mayMove_44 (by decide) ?_
        exact tw_zretR hO rfl dX3_mayMove_45 h
set_option maxRecDepth 100000 in
set_option maxHeartbeats 4000000 in
theorem wX3_mayMove_l15 (hO : tw_O p s m args meth c cX3_mayMove RX3 3 (some .boolean) G) : ∀ (n : Nat) (σ : tw_St) (a0 : Nat) (x1 : Int32) (x2 : Int32) (q : Int32), fX3_mayMove_l15 n σ a0 x1 x2 = some q → tw_X p l e rmX3_mayMove s m args below meth c 3 G σ 0 0 (tw_Q below args s G 0 0 (some (.int q)) σ) 15 [(0, .ref a0), (1, .int x1), (2, .int x2)] [] := by
  intro n
  induction n with
  | zero => intro _ _ _ _ q h; cases (show (none : Option (Int32)) = some q from h)
  | succ n ih => intro _ _ _ _ q h; exact wX3_mayMove_h15 hO ih h
set_option maxRecDepth 100000 in
set_option maxHeartbeats 4000000 in
theorem mX3_mayMove (l : Launch) (G : tw_G) {σ : tw_St} {a : Nat} {x1 : Int32} {q : Int32} (h : fX3_mayMove σ a x1 = some q) : tw_M l G yX3_mayMove cX3_mayMove 3 (some .boolean) rmX3_mayMove 0 0 σ [.ref a, .int x1] (some (.int q)) σ := by
  unfold fX3_mayMove at h
  obtain ⟨_, -, h⟩ := tw_bd h
  refine tw_M.of (by decide +kernel) (Nat.le_of_ble_eq_true rfl) (fun p e s m args below meth c hnm hO => ?_)
  have hO : tw_O p s m args meth c cX3_mayMove RX3 3 (some .boolean) G := hO
  refine tw_aload_n 0 hO dX3_mayMove_0 rfl rfl ?_
  refine tw_iload_n 1 hO dX3_mayMove_1 rfl rfl ?_
  refine tw_iconst (v := 0) hO dX3_mayMove_2 (by decide) ?_
  obtain ⟨v3, e3, h⟩ := tw_bd h
  refine tw_cVi hO (mX3_told l G e3) cfX3_told (t := 3) rfl (kX3_told e3) tw_w360 tw_w314 tw_w315 rfl rfl rfl rfl ⟨(Nat.le_of_ble_eq_true rfl), (Nat.le_of_ble_eq_true rfl)⟩ (Nat.le_of_ble_eq_true rfl) ⟨(Nat.le_of_ble_eq_true rfl), (Nat.le_of_ble_eq_true rfl)⟩ dX3_mayMove_3 ?_
  refine tw_bipush (v := 6) hO dX3_mayMove_6 (by decide) ?_
  refine tw_icmp_ne (tgt := 13) hO dX3_mayMove_8 (by decide) (fun cc => ?_) (fun cc => ?_)
  · replace h := tw_ifn cc h
    refine tw_iconst (v := 0) hO dX3_mayMove_13 (by decide) ?_
    refine tw_istore_n (lv' := [(2, .int 0), (0, .ref a), (1, .int x1)]) hO dX3_mayMove_14 rfl (by decide) rfl ?_
    refine tw_sub [1, 2, 0] rfl ?_
    exact wX3_mayMove_l15 hO _ _ _ _ _ _ h
  · replace h := tw_ifp cc h
    refine tw_iconst (v := 0) hO dX3_mayMove_11 (by decide) ?_
    exact tw_zretR hO rfl dX3_mayMove_12 h
theorem cfX3_exchangeWithNext : tw_CF yX3_exchangeWithNext cX3_exchangeWithNext 5 none 1 := ⟨tw_w566, tw_w50, by decide +kernel, by decide +kernel, by decide +kernel⟩
theorem kX3_exchangeWithNext {σ : tw_St} {a : Nat} {x1 : Int32} {q : tw_St} (h : fX3_exchangeWithNext σ a x1 = some q) : tw_is σ 3 a = some () := by
  unfold fX3_exchangeWithNext at h
  obtain ⟨_, e1, -⟩ := tw_bd h
  exact e1
set_option maxRecDepth 100000 in
set_option maxHeartbeats 4000000 in
theorem wX3_exchangeWithNext_h21 (hO : tw_O p s m args meth c cX3_exchangeWithNext RX3 5 none G) {k21 : (tw_St → Nat → Int32 → Int32 → Option (tw_St))} (hk21 : ∀ (σ : tw_St) (a0 : Nat) (x2 : Int32) (x3 : Int32) (q : tw_St), k21 σ a0 x2 x3 = some q → tw_X p l e rmX3_exchangeWithNext s m args below meth c 5 G σ 0 0 (tw_Q below args s G 0 0 none q) 21 [(0, .ref a0), (2, .int x2), (3, .int x3)] []) {σ : tw_St} {a0 : Nat} {x2 : Int32} {x3 : Int32} {q : tw_St} (h : fX3_exchangeWithNext_h21 k21 σ a0 x2 x3 = some q) : tw_X p l e rmX3_exchangeWithNext s m args below meth c 5 G σ 0 0 (tw_Q below args s G 0 0 none q) 21 [(0, .ref a0), (2, .int x2), (3, .int x3)] [] := by
  unfold fX3_exchangeWithNext_h21 at h
  refine tw_iload_n 2 hO dX3_exchangeWithNext_21 rfl rfl ?_
  refine tw_iconst (v := 5) hO dX3_exchangeWithNext_22 (by decide) ?_
  refine tw_icmp_ge (tgt := 72) hO dX3_exchangeWithNext_23 (by decide) (fun cc => ?_) (fun cc => ?_)
  · replace h := tw_ifp cc h
    exact tw_vret hO dX3_exchangeWithNext_72 h
  · replace h := tw_ifn cc h
    refine tw_aload_n 0 hO dX3_exchangeWithNext_26 rfl rfl ?_
    obtain ⟨v27, e27, h⟩ := tw_bd h
    refine tw_getP hO dX3_exchangeWithNext_27 (t := 3) rfl 1 (by decide) rfl tw_w84 rfl e27 ?_
    refine tw_iload_n 1 hO dX3_exchangeWithNext_30 rfl rfl ?_
    refine tw_iload_n 2 hO dX3_exchangeWithNext_31 rfl rfl ?_
    refine tw_iadd hO dX3_exchangeWithNext_32 ?_
    obtain ⟨v33, e33, h⟩ := tw_bd h
    refine tw_iald hO dX3_exchangeWithNext_33 e33 ?_
    refine tw_istore (lv' := [(4, .int v33), (0, .ref a0), (2, .int x2), (3, .int x3)]) hO dX3_exchangeWithNext_34 (by decide) rfl ?_
    refine tw_aload_n 1 hO dX3_exchangeWithNext_36 rfl rfl ?_
    obtain ⟨v37, e37, h⟩ := tw_bd h
    refine tw_getP hO dX3_exchangeWithNext_37 (t := 3) rfl 1 (by decide) rfl tw_w84 rfl e37 ?_
    refine tw_iload_n 2 hO dX3_exchangeWithNext_40 rfl rfl ?_
    refine tw_iload_n 3 hO dX3_exchangeWithNext_41 rfl rfl ?_
    refine tw_iadd hO dX3_exchangeWithNext_42 ?_
    refine tw_aload_n 1 hO dX3_exchangeWithNext_43 rfl rfl ?_
    obtain ⟨v44, e44, h⟩ := tw_bd h
    refine tw_getP hO dX3_exchangeWithNext_44 (t := 3) rfl 1 (by decide) rfl tw_w84 rfl e44 ?_
    refine tw_iload_n 2 hO dX3_exchangeWithNext_47 rfl rfl ?_
    refine tw_iconst (v := 5) hO dX3_exchangeWithNext_48 (by decide) ?_
    refine tw_iadd hO dX3_exchangeWithNext_49 ?_
    refine tw_iload_n 3 hO dX3_exchangeWithNext_50 rfl rfl ?_
    refine tw_iadd hO dX3_exchangeWithNext_51 ?_
    obtain ⟨v52, e52, h⟩ := tw_bd h
    refine tw_iald hO dX3_exchangeWithNext_52 e52 ?_
    obtain ⟨σ53, e53, h⟩ := tw_bd h
    refine tw_iast hO dX3_exchangeWithNext_53 e53 ?_
    refine tw_aload_n 1 hO dX3_exchangeWithNext_54 rfl rfl ?_
    obtain ⟨v55, e55, h⟩ := tw_bd h
    refine tw_getP hO dX3_exchangeWithNext_55 (t := 3) rfl 1 (by decide) rfl tw_w84 rfl e55 ?_
    refine tw_iload_n 2 hO dX3_exchangeWithNext_58 rfl rfl ?_
    refine tw_iconst (v := 5) hO dX3_exchangeWithNext_59 (by decide) ?_
    refine tw_iadd hO dX3_exchangeWithNext_60 ?_
    refine tw_iload_n 3 hO dX3_exchangeWithNext_61 rfl rfl ?_
    refine tw_iadd hO dX3_exchangeWithNext_62 ?_
    refine tw_iload 0 hO dX3_exchangeWithNext_63 rfl ?_
    obtain ⟨σ65, e65, h⟩ := tw_bd h
    refine tw_iast hO dX3_exchangeWithNext_65 e65 ?_
    refine tw_iinc (q := 3) (v := (x3 + 1)) (lv' := [(3, .int (x3 + 1)), (4, .int v33), (0, .ref a0), (2, .int x2)]) hO dX3_exchangeWithNext_66 rfl rfl (by decide) rfl ?_
    refine tw_goto (tgt := 21) hO dX3_exchangeWithNext_69 (by decide) ?_
    refine tw_sub [2, 3, 0] rfl ?_
    exact hk21 _ _ _ _ _ h
set_option maxRecDepth 100000 in
set_option maxHeartbeats 4000000 in
theorem wX3_exchangeWithNext_l21 (hO : tw_O p s m args meth c cX3_exchangeWithNext RX3 5 none G) : ∀ (n : Nat) (σ : tw_St) (a0 : Nat) (x2 : Int32) (x3 : Int32) (q : tw_St), fX3_exchangeWithNext_l21 n σ a0 x2 x3 = some q → tw_X p l e rmX3_exchangeWithNext s m args below meth c 5 G σ 0 0 (tw_Q below args s G 0 0 none q) 21 [(0, .ref a0), (2, .int x2), (3, .int x3)] [] := by
  intro n
  induction n with
  | zero => intro _ _ _ _ q h; cases (show (none : Option (tw_St)) = some q from h)
  | succ n ih => intro _ _ _ _ q h; exact wX3_exchangeWithNext_h21 hO ih h
set_option maxRecDepth 100000 in
set_option maxHeartbeats 4000000 in
theorem mX3_exchangeWithNext (l : Launch) (G : tw_G) {σ : tw_St} {a : Nat} {x1 : Int32} {q : tw_St} (h : fX3_exchangeWithNext σ a x1 = some q) : tw_M l G yX3_exchangeWithNext cX3_exchangeWithNext 5 none rmX3_exchangeWithNext 0 0 σ [.ref a, .int x1] none q := by
  unfold fX3_exchangeWithNext at h
  obtain ⟨_, -, h⟩ := tw_bd h
  refine tw_M.of (by decide +kernel) (Nat.le_of_ble_eq_true rfl) (fun p e s m args below meth c hnm hO => ?_)
  have hO : tw_O p s m args meth c cX3_exchangeWithNext RX3 5 none G := hO
  refine tw_iload_n 1 hO dX3_exchangeWithNext_0 rfl rfl ?_
  refine tw_if_lt (tgt := 14) hO dX3_exchangeWithNext_1 (by decide) (fun cc => ?_) (fun cc => ?_)
  · replace h := tw_ifp cc h
    exact tw_vret hO dX3_exchangeWithNext_14 h
  · replace h := tw_ifn cc h
    refine tw_iload_n 1 hO dX3_exchangeWithNext_4 rfl rfl ?_
    refine tw_iconst (v := 1) hO dX3_exchangeWithNext_5 (by decide) ?_
    refine tw_iadd hO dX3_exchangeWithNext_6 ?_
    refine tw_aload_n 0 hO dX3_exchangeWithNext_7 rfl rfl ?_
    obtain ⟨v8, e8, h⟩ := tw_bd h
    refine tw_getI hO dX3_exchangeWithNext_8 (t := 3) rfl 0 (by decide) rfl tw_w81 rfl e8 ?_
    refine tw_icmp_lt (tgt := 15) hO dX3_exchangeWithNext_11 (by decide) (fun cc => ?_) (fun cc => ?_)
    · replace h := tw_ifp cc h
      refine tw_iload_n 1 hO dX3_exchangeWithNext_15 rfl rfl ?_
      refine tw_iconst (v := 5) hO dX3_exchangeWithNext_16 (by decide) ?_
      refine tw_imul hO dX3_exchangeWithNext_17 ?_
      refine tw_istore_n (lv' := [(2, .int (x1 * 5)), (0, .ref a), (1, .int x1)]) hO dX3_exchangeWithNext_18 rfl (by decide) rfl ?_
      refine tw_iconst (v := 0) hO dX3_exchangeWithNext_19 (by decide) ?_
      refine tw_istore_n (lv' := [(3, .int 0), (2, .int (x1 * 5)), (0, .ref a), (1, .int x1)]) hO dX3_exchangeWithNext_20 rfl (by decide) rfl ?_
      refine tw_sub [2, 1, 0] rfl ?_
      exact wX3_exchangeWithNext_l21 hO _ _ _ _ _ _ h
    · replace h := tw_ifn cc h
      exact tw_vret hO dX3_exchangeWithNext_14 h
end TW_05a_J9_X3_X1
end
