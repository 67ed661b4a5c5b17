-- ===== PART A: goes FIRST, ahead of the names: the tables' words, and 'selects' of the private methods out of them =====
/-- a private method of a class that the tables say can be made, by its rows of tables_1 -/
def lw_okq (q : MethodName × Nat) : Prop := (q.1.cls ≠ "java/lang/invoke/MethodHandle" ∧ q.1.cls ≠ "java/lang/invoke/VarHandle") ∧ Cond.instantiable q.1.cls q.2 ∈ tables_1 ∧ Cond.privateMethod q.1 ∈ tables_1 ∧ Cond.instanceMethod q.1 ∈ tables_1
theorem lw_p0 : lw_okq (⟨"RunStore$Blocks", "sumOf", "(I)I"⟩, 4) := ⟨⟨by decide +kernel, by decide +kernel⟩, List.mem_of_getElem? (i := 105) (by decide +kernel), List.mem_of_getElem? (i := 197) (by decide +kernel), List.mem_of_getElem? (i := 198) (by decide +kernel)⟩
theorem lw_p1 : lw_okq (⟨"RunStore", "entriesOfTables", "()I"⟩, 10) := ⟨⟨by decide +kernel, by decide +kernel⟩, List.mem_of_getElem? (i := 19) (by decide +kernel), List.mem_of_getElem? (i := 210) (by decide +kernel), List.mem_of_getElem? (i := 211) (by decide +kernel)⟩
theorem lw_p2 : lw_okq (⟨"java/lang/Throwable", "fillInStackTrace", "(I)Ljava/lang/Throwable;"⟩, 6) := ⟨⟨by decide +kernel, by decide +kernel⟩, List.mem_of_getElem? (i := 265) (by decide +kernel), List.mem_of_getElem? (i := 263) (by decide +kernel), List.mem_of_getElem? (i := 264) (by decide +kernel)⟩
theorem lw_p3 : lw_okq (⟨"RunStore", "enter", "(JIJ)I"⟩, 10) := ⟨⟨by decide +kernel, by decide +kernel⟩, List.mem_of_getElem? (i := 19) (by decide +kernel), List.mem_of_getElem? (i := 297) (by decide +kernel), List.mem_of_getElem? (i := 298) (by decide +kernel)⟩
theorem lw_p4 : lw_okq (⟨"RunStore$Log", "appendByte", "(I)V"⟩, 7) := ⟨⟨by decide +kernel, by decide +kernel⟩, List.mem_of_getElem? (i := 58) (by decide +kernel), List.mem_of_getElem? (i := 341) (by decide +kernel), List.mem_of_getElem? (i := 342) (by decide +kernel)⟩
theorem lw_p5 : lw_okq (⟨"RunStore$Rows", "insert", "(IJIJ)Z"⟩, 4) := ⟨⟨by decide +kernel, by decide +kernel⟩, List.mem_of_getElem? (i := 30) (by decide +kernel), List.mem_of_getElem? (i := 349) (by decide +kernel), List.mem_of_getElem? (i := 350) (by decide +kernel)⟩
theorem lw_p6 : lw_okq (⟨"RunStore$Rows", "write", "(IJIJ)V"⟩, 4) := ⟨⟨by decide +kernel, by decide +kernel⟩, List.mem_of_getElem? (i := 30) (by decide +kernel), List.mem_of_getElem? (i := 356) (by decide +kernel), List.mem_of_getElem? (i := 357) (by decide +kernel)⟩
theorem lw_p7 : lw_okq (⟨"RunStore$Blocks", "take", "(I)[I"⟩, 4) := ⟨⟨by decide +kernel, by decide +kernel⟩, List.mem_of_getElem? (i := 105) (by decide +kernel), List.mem_of_getElem? (i := 413) (by decide +kernel), List.mem_of_getElem? (i := 414) (by decide +kernel)⟩
theorem lw_p8 : lw_okq (⟨"RunStore$Blocks", "fill", "(LRunStore$Table;LRunStore$Rows;)V"⟩, 4) := ⟨⟨by decide +kernel, by decide +kernel⟩, List.mem_of_getElem? (i := 105) (by decide +kernel), List.mem_of_getElem? (i := 440) (by decide +kernel), List.mem_of_getElem? (i := 441) (by decide +kernel)⟩
theorem lw_p9 : lw_okq (⟨"RunStore", "insertTable", "(ILRunStore$Table;)V"⟩, 10) := ⟨⟨by decide +kernel, by decide +kernel⟩, List.mem_of_getElem? (i := 19) (by decide +kernel), List.mem_of_getElem? (i := 459) (by decide +kernel), List.mem_of_getElem? (i := 460) (by decide +kernel)⟩
theorem lw_p10 : lw_okq (⟨"RunStore", "tablesUpTo", "(I)I"⟩, 10) := ⟨⟨by decide +kernel, by decide +kernel⟩, List.mem_of_getElem? (i := 19) (by decide +kernel), List.mem_of_getElem? (i := 479) (by decide +kernel), List.mem_of_getElem? (i := 480) (by decide +kernel)⟩
theorem lw_p11 : lw_okq (⟨"RunStore", "inspectTables", "(II)V"⟩, 10) := ⟨⟨by decide +kernel, by decide +kernel⟩, List.mem_of_getElem? (i := 19) (by decide +kernel), List.mem_of_getElem? (i := 484) (by decide +kernel), List.mem_of_getElem? (i := 485) (by decide +kernel)⟩
theorem lw_p12 : lw_okq (⟨"RunStore", "refuseFault", "(I)V"⟩, 10) := ⟨⟨by decide +kernel, by decide +kernel⟩, List.mem_of_getElem? (i := 19) (by decide +kernel), List.mem_of_getElem? (i := 496) (by decide +kernel), List.mem_of_getElem? (i := 497) (by decide +kernel)⟩
theorem lw_p13 : lw_okq (⟨"RunStore", "gatherTables", "(IIZ)V"⟩, 10) := ⟨⟨by decide +kernel, by decide +kernel⟩, List.mem_of_getElem? (i := 19) (by decide +kernel), List.mem_of_getElem? (i := 501) (by decide +kernel), List.mem_of_getElem? (i := 502) (by decide +kernel)⟩
theorem lw_p14 : lw_okq (⟨"RunStore$TableReader", "start", "(LRunStore$Table;Z)V"⟩, 8) := ⟨⟨by decide +kernel, by decide +kernel⟩, List.mem_of_getElem? (i := 126) (by decide +kernel), List.mem_of_getElem? (i := 509) (by decide +kernel), List.mem_of_getElem? (i := 510) (by decide +kernel)⟩
theorem lw_p15 : lw_okq (⟨"RunStore", "removeTables", "(II)V"⟩, 10) := ⟨⟨by decide +kernel, by decide +kernel⟩, List.mem_of_getElem? (i := 19) (by decide +kernel), List.mem_of_getElem? (i := 556) (by decide +kernel), List.mem_of_getElem? (i := 557) (by decide +kernel)⟩
def lw_privs_1 : List (MethodName × Nat) := [(⟨"RunStore$Blocks", "sumOf", "(I)I"⟩, 4), (⟨"RunStore", "entriesOfTables", "()I"⟩, 10), (⟨"java/lang/Throwable", "fillInStackTrace", "(I)Ljava/lang/Throwable;"⟩, 6), (⟨"RunStore", "enter", "(JIJ)I"⟩, 10), (⟨"RunStore$Log", "appendByte", "(I)V"⟩, 7), (⟨"RunStore$Rows", "insert", "(IJIJ)Z"⟩, 4), (⟨"RunStore$Rows", "write", "(IJIJ)V"⟩, 4), (⟨"RunStore$Blocks", "take", "(I)[I"⟩, 4), (⟨"RunStore$Blocks", "fill", "(LRunStore$Table;LRunStore$Rows;)V"⟩, 4), (⟨"RunStore", "insertTable", "(ILRunStore$Table;)V"⟩, 10), (⟨"RunStore", "tablesUpTo", "(I)I"⟩, 10), (⟨"RunStore", "inspectTables", "(II)V"⟩, 10), (⟨"RunStore", "refuseFault", "(I)V"⟩, 10), (⟨"RunStore", "gatherTables", "(IIZ)V"⟩, 10), (⟨"RunStore$TableReader", "start", "(LRunStore$Table;Z)V"⟩, 8), (⟨"RunStore", "removeTables", "(II)V"⟩, 10)]
theorem lw_r1 : ∀ q ∈ lw_privs_1, lw_okq q := List.forall_mem_cons.mpr ⟨lw_p0, List.forall_mem_cons.mpr ⟨lw_p1, List.forall_mem_cons.mpr ⟨lw_p2, List.forall_mem_cons.mpr ⟨lw_p3, List.forall_mem_cons.mpr ⟨lw_p4, List.forall_mem_cons.mpr ⟨lw_p5, List.forall_mem_cons.mpr ⟨lw_p6, List.forall_mem_cons.mpr ⟨lw_p7, List.forall_mem_cons.mpr ⟨lw_p8, List.forall_mem_cons.mpr ⟨lw_p9, List.forall_mem_cons.mpr ⟨lw_p10, List.forall_mem_cons.mpr ⟨lw_p11, List.forall_mem_cons.mpr ⟨lw_p12, List.forall_mem_cons.mpr ⟨lw_p13, List.forall_mem_cons.mpr ⟨lw_p14, List.forall_mem_cons.mpr ⟨lw_p15, fun _ h => absurd h List.not_mem_nil⟩⟩⟩⟩⟩⟩⟩⟩⟩⟩⟩⟩⟩⟩⟩⟩
theorem lw_p16 : lw_okq (⟨"RunStore", "seek", "(J)I"⟩, 10) := ⟨⟨by decide +kernel, by decide +kernel⟩, List.mem_of_getElem? (i := 19) (by decide +kernel), List.mem_of_getElem? (i := 571) (by decide +kernel), List.mem_of_getElem? (i := 572) (by decide +kernel)⟩
theorem lw_p17 : lw_okq (⟨"RunStore", "sought", "(IJ)I"⟩, 10) := ⟨⟨by decide +kernel, by decide +kernel⟩, List.mem_of_getElem? (i := 19) (by decide +kernel), List.mem_of_getElem? (i := 576) (by decide +kernel), List.mem_of_getElem? (i := 577) (by decide +kernel)⟩
theorem lw_p18 : lw_okq (⟨"RunStore", "tableNumbered", "(I)LRunStore$Table;"⟩, 10) := ⟨⟨by decide +kernel, by decide +kernel⟩, List.mem_of_getElem? (i := 19) (by decide +kernel), List.mem_of_getElem? (i := 620) (by decide +kernel), List.mem_of_getElem? (i := 621) (by decide +kernel)⟩
theorem lw_p19 : lw_okq (⟨"RunStore", "refuseNoByte", "(II)V"⟩, 10) := ⟨⟨by decide +kernel, by decide +kernel⟩, List.mem_of_getElem? (i := 19) (by decide +kernel), List.mem_of_getElem? (i := 656) (by decide +kernel), List.mem_of_getElem? (i := 657) (by decide +kernel)⟩
theorem lw_p20 : lw_okq (⟨"RunStore$Log", "readSummed", "()Z"⟩, 7) := ⟨⟨by decide +kernel, by decide +kernel⟩, List.mem_of_getElem? (i := 58) (by decide +kernel), List.mem_of_getElem? (i := 710) (by decide +kernel), List.mem_of_getElem? (i := 711) (by decide +kernel)⟩
theorem lw_p21 : lw_okq (⟨"RunStoreModel", "fail", "(I)I"⟩, 34) := ⟨⟨by decide +kernel, by decide +kernel⟩, List.mem_of_getElem? (i := 719) (by decide +kernel), List.mem_of_getElem? (i := 840) (by decide +kernel), List.mem_of_getElem? (i := 841) (by decide +kernel)⟩
theorem lw_p22 : lw_okq (⟨"RunStoreModel", "hasRoom", "(JI)Z"⟩, 34) := ⟨⟨by decide +kernel, by decide +kernel⟩, List.mem_of_getElem? (i := 719) (by decide +kernel), List.mem_of_getElem? (i := 844) (by decide +kernel), List.mem_of_getElem? (i := 845) (by decide +kernel)⟩
theorem lw_p23 : lw_okq (⟨"RunStoreModel", "hasKey", "(J)Z"⟩, 34) := ⟨⟨by decide +kernel, by decide +kernel⟩, List.mem_of_getElem? (i := 719) (by decide +kernel), List.mem_of_getElem? (i := 848) (by decide +kernel), List.mem_of_getElem? (i := 849) (by decide +kernel)⟩
theorem lw_p24 : lw_okq (⟨"RunStoreModel", "placeOf", "(J)I"⟩, 34) := ⟨⟨by decide +kernel, by decide +kernel⟩, List.mem_of_getElem? (i := 719) (by decide +kernel), List.mem_of_getElem? (i := 852) (by decide +kernel), List.mem_of_getElem? (i := 853) (by decide +kernel)⟩
theorem lw_p25 : lw_okq (⟨"RunStoreModel", "tell", "(JJI)V"⟩, 34) := ⟨⟨by decide +kernel, by decide +kernel⟩, List.mem_of_getElem? (i := 719) (by decide +kernel), List.mem_of_getElem? (i := 862) (by decide +kernel), List.mem_of_getElem? (i := 863) (by decide +kernel)⟩
theorem lw_p26 : lw_okq (⟨"RunStoreModel", "note", "(I)V"⟩, 34) := ⟨⟨by decide +kernel, by decide +kernel⟩, List.mem_of_getElem? (i := 719) (by decide +kernel), List.mem_of_getElem? (i := 870) (by decide +kernel), List.mem_of_getElem? (i := 871) (by decide +kernel)⟩
theorem lw_p27 : lw_okq (⟨"RunStoreModel", "logSum", "(II)I"⟩, 34) := ⟨⟨by decide +kernel, by decide +kernel⟩, List.mem_of_getElem? (i := 719) (by decide +kernel), List.mem_of_getElem? (i := 874) (by decide +kernel), List.mem_of_getElem? (i := 875) (by decide +kernel)⟩
theorem lw_p28 : lw_okq (⟨"RunStoreModel", "set", "(JJI)V"⟩, 34) := ⟨⟨by decide +kernel, by decide +kernel⟩, List.mem_of_getElem? (i := 719) (by decide +kernel), List.mem_of_getElem? (i := 878) (by decide +kernel), List.mem_of_getElem? (i := 879) (by decide +kernel)⟩
theorem lw_p29 : lw_okq (⟨"RunStoreModel", "sayEntry", "(JJI)V"⟩, 34) := ⟨⟨by decide +kernel, by decide +kernel⟩, List.mem_of_getElem? (i := 719) (by decide +kernel), List.mem_of_getElem? (i := 890) (by decide +kernel), List.mem_of_getElem? (i := 891) (by decide +kernel)⟩
theorem lw_p30 : lw_okq (⟨"RunStoreModel", "say", "(I)V"⟩, 34) := ⟨⟨by decide +kernel, by decide +kernel⟩, List.mem_of_getElem? (i := 719) (by decide +kernel), List.mem_of_getElem? (i := 894) (by decide +kernel), List.mem_of_getElem? (i := 895) (by decide +kernel)⟩
theorem lw_p31 : lw_okq (⟨"RunStoreModel", "freeBlocks", "()I"⟩, 34) := ⟨⟨by decide +kernel, by decide +kernel⟩, List.mem_of_getElem? (i := 719) (by decide +kernel), List.mem_of_getElem? (i := 905) (by decide +kernel), List.mem_of_getElem? (i := 906) (by decide +kernel)⟩
def lw_privs_2 : List (MethodName × Nat) := [(⟨"RunStore", "seek", "(J)I"⟩, 10), (⟨"RunStore", "sought", "(IJ)I"⟩, 10), (⟨"RunStore", "tableNumbered", "(I)LRunStore$Table;"⟩, 10), (⟨"RunStore", "refuseNoByte", "(II)V"⟩, 10), (⟨"RunStore$Log", "readSummed", "()Z"⟩, 7), (⟨"RunStoreModel", "fail", "(I)I"⟩, 34), (⟨"RunStoreModel", "hasRoom", "(JI)Z"⟩, 34), (⟨"RunStoreModel", "hasKey", "(J)Z"⟩, 34), (⟨"RunStoreModel", "placeOf", "(J)I"⟩, 34), (⟨"RunStoreModel", "tell", "(JJI)V"⟩, 34), (⟨"RunStoreModel", "note", "(I)V"⟩, 34), (⟨"RunStoreModel", "logSum", "(II)I"⟩, 34), (⟨"RunStoreModel", "set", "(JJI)V"⟩, 34), (⟨"RunStoreModel", "sayEntry", "(JJI)V"⟩, 34), (⟨"RunStoreModel", "say", "(I)V"⟩, 34), (⟨"RunStoreModel", "freeBlocks", "()I"⟩, 34)]
theorem lw_r2 : ∀ q ∈ lw_privs_2, lw_okq q := List.forall_mem_cons.mpr ⟨lw_p16, List.forall_mem_cons.mpr ⟨lw_p17, List.forall_mem_cons.mpr ⟨lw_p18, List.forall_mem_cons.mpr ⟨lw_p19, List.forall_mem_cons.mpr ⟨lw_p20, List.forall_mem_cons.mpr ⟨lw_p21, List.forall_mem_cons.mpr ⟨lw_p22, List.forall_mem_cons.mpr ⟨lw_p23, List.forall_mem_cons.mpr ⟨lw_p24, List.forall_mem_cons.mpr ⟨lw_p25, List.forall_mem_cons.mpr ⟨lw_p26, List.forall_mem_cons.mpr ⟨lw_p27, List.forall_mem_cons.mpr ⟨lw_p28, List.forall_mem_cons.mpr ⟨lw_p29, List.forall_mem_cons.mpr ⟨lw_p30, List.forall_mem_cons.mpr ⟨lw_p31, fun _ h => absurd h List.not_mem_nil⟩⟩⟩⟩⟩⟩⟩⟩⟩⟩⟩⟩⟩⟩⟩⟩
theorem lw_p32 : lw_okq (⟨"RunStoreModel", "pick", "()V"⟩, 34) := ⟨⟨by decide +kernel, by decide +kernel⟩, List.mem_of_getElem? (i := 719) (by decide +kernel), List.mem_of_getElem? (i := 909) (by decide +kernel), List.mem_of_getElem? (i := 910) (by decide +kernel)⟩
theorem lw_p33 : lw_okq (⟨"RunStoreModel", "openPlace", "(I)V"⟩, 34) := ⟨⟨by decide +kernel, by decide +kernel⟩, List.mem_of_getElem? (i := 719) (by decide +kernel), List.mem_of_getElem? (i := 913) (by decide +kernel), List.mem_of_getElem? (i := 914) (by decide +kernel)⟩
theorem lw_p34 : lw_okq (⟨"RunStoreModel", "copyTable", "(II)V"⟩, 34) := ⟨⟨by decide +kernel, by decide +kernel⟩, List.mem_of_getElem? (i := 719) (by decide +kernel), List.mem_of_getElem? (i := 917) (by decide +kernel), List.mem_of_getElem? (i := 918) (by decide +kernel)⟩
theorem lw_p35 : lw_okq (⟨"RunStoreModel", "fill", "(IIIJ)V"⟩, 34) := ⟨⟨by decide +kernel, by decide +kernel⟩, List.mem_of_getElem? (i := 719) (by decide +kernel), List.mem_of_getElem? (i := 921) (by decide +kernel), List.mem_of_getElem? (i := 922) (by decide +kernel)⟩
theorem lw_p36 : lw_okq (⟨"RunStoreModel", "sumOf", "(II)I"⟩, 34) := ⟨⟨by decide +kernel, by decide +kernel⟩, List.mem_of_getElem? (i := 719) (by decide +kernel), List.mem_of_getElem? (i := 925) (by decide +kernel), List.mem_of_getElem? (i := 926) (by decide +kernel)⟩
theorem lw_p37 : lw_okq (⟨"RunStoreModel", "look", "(J)Z"⟩, 34) := ⟨⟨by decide +kernel, by decide +kernel⟩, List.mem_of_getElem? (i := 719) (by decide +kernel), List.mem_of_getElem? (i := 934) (by decide +kernel), List.mem_of_getElem? (i := 935) (by decide +kernel)⟩
theorem lw_p38 : lw_okq (⟨"RunStoreModel", "hasIt", "(IJ)Z"⟩, 34) := ⟨⟨by decide +kernel, by decide +kernel⟩, List.mem_of_getElem? (i := 719) (by decide +kernel), List.mem_of_getElem? (i := 938) (by decide +kernel), List.mem_of_getElem? (i := 939) (by decide +kernel)⟩
theorem lw_p39 : lw_okq (⟨"RunStoreModel", "begin", "(Z)V"⟩, 34) := ⟨⟨by decide +kernel, by decide +kernel⟩, List.mem_of_getElem? (i := 719) (by decide +kernel), List.mem_of_getElem? (i := 942) (by decide +kernel), List.mem_of_getElem? (i := 943) (by decide +kernel)⟩
theorem lw_p40 : lw_okq (⟨"RunStoreModel", "readEntry", "(I)V"⟩, 34) := ⟨⟨by decide +kernel, by decide +kernel⟩, List.mem_of_getElem? (i := 719) (by decide +kernel), List.mem_of_getElem? (i := 946) (by decide +kernel), List.mem_of_getElem? (i := 947) (by decide +kernel)⟩
theorem lw_p41 : lw_okq (⟨"RunStoreModel", "readKey", "(I)V"⟩, 34) := ⟨⟨by decide +kernel, by decide +kernel⟩, List.mem_of_getElem? (i := 719) (by decide +kernel), List.mem_of_getElem? (i := 950) (by decide +kernel), List.mem_of_getElem? (i := 951) (by decide +kernel)⟩
theorem lw_p42 : lw_okq (⟨"RunStoreModel", "next", "(I)I"⟩, 34) := ⟨⟨by decide +kernel, by decide +kernel⟩, List.mem_of_getElem? (i := 719) (by decide +kernel), List.mem_of_getElem? (i := 954) (by decide +kernel), List.mem_of_getElem? (i := 955) (by decide +kernel)⟩
theorem lw_p43 : lw_okq (⟨"RunStoreModel", "fault", "(II)V"⟩, 34) := ⟨⟨by decide +kernel, by decide +kernel⟩, List.mem_of_getElem? (i := 719) (by decide +kernel), List.mem_of_getElem? (i := 958) (by decide +kernel), List.mem_of_getElem? (i := 959) (by decide +kernel)⟩
theorem lw_p44 : lw_okq (⟨"RunStoreModel", "isRight", "(II)Z"⟩, 34) := ⟨⟨by decide +kernel, by decide +kernel⟩, List.mem_of_getElem? (i := 719) (by decide +kernel), List.mem_of_getElem? (i := 962) (by decide +kernel), List.mem_of_getElem? (i := 963) (by decide +kernel)⟩
theorem lw_p45 : lw_okq (⟨"RunStoreModel", "readLength", "(I)V"⟩, 34) := ⟨⟨by decide +kernel, by decide +kernel⟩, List.mem_of_getElem? (i := 719) (by decide +kernel), List.mem_of_getElem? (i := 966) (by decide +kernel), List.mem_of_getElem? (i := 967) (by decide +kernel)⟩
theorem lw_p46 : lw_okq (⟨"RunStoreModel", "readValue", "(I)V"⟩, 34) := ⟨⟨by decide +kernel, by decide +kernel⟩, List.mem_of_getElem? (i := 719) (by decide +kernel), List.mem_of_getElem? (i := 970) (by decide +kernel), List.mem_of_getElem? (i := 971) (by decide +kernel)⟩
theorem lw_p47 : lw_okq (⟨"RunStoreModel", "come", "(JJI)V"⟩, 34) := ⟨⟨by decide +kernel, by decide +kernel⟩, List.mem_of_getElem? (i := 719) (by decide +kernel), List.mem_of_getElem? (i := 982) (by decide +kernel), List.mem_of_getElem? (i := 983) (by decide +kernel)⟩
def lw_privs_3 : List (MethodName × Nat) := [(⟨"RunStoreModel", "pick", "()V"⟩, 34), (⟨"RunStoreModel", "openPlace", "(I)V"⟩, 34), (⟨"RunStoreModel", "copyTable", "(II)V"⟩, 34), (⟨"RunStoreModel", "fill", "(IIIJ)V"⟩, 34), (⟨"RunStoreModel", "sumOf", "(II)I"⟩, 34), (⟨"RunStoreModel", "look", "(J)Z"⟩, 34), (⟨"RunStoreModel", "hasIt", "(IJ)Z"⟩, 34), (⟨"RunStoreModel", "begin", "(Z)V"⟩, 34), (⟨"RunStoreModel", "readEntry", "(I)V"⟩, 34), (⟨"RunStoreModel", "readKey", "(I)V"⟩, 34), (⟨"RunStoreModel", "next", "(I)I"⟩, 34), (⟨"RunStoreModel", "fault", "(II)V"⟩, 34), (⟨"RunStoreModel", "isRight", "(II)Z"⟩, 34), (⟨"RunStoreModel", "readLength", "(I)V"⟩, 34), (⟨"RunStoreModel", "readValue", "(I)V"⟩, 34), (⟨"RunStoreModel", "come", "(JJI)V"⟩, 34)]
theorem lw_r3 : ∀ q ∈ lw_privs_3, lw_okq q := List.forall_mem_cons.mpr ⟨lw_p32, List.forall_mem_cons.mpr ⟨lw_p33, List.forall_mem_cons.mpr ⟨lw_p34, List.forall_mem_cons.mpr ⟨lw_p35, List.forall_mem_cons.mpr ⟨lw_p36, List.forall_mem_cons.mpr ⟨lw_p37, List.forall_mem_cons.mpr ⟨lw_p38, List.forall_mem_cons.mpr ⟨lw_p39, List.forall_mem_cons.mpr ⟨lw_p40, List.forall_mem_cons.mpr ⟨lw_p41, List.forall_mem_cons.mpr ⟨lw_p42, List.forall_mem_cons.mpr ⟨lw_p43, List.forall_mem_cons.mpr ⟨lw_p44, List.forall_mem_cons.mpr ⟨lw_p45, List.forall_mem_cons.mpr ⟨lw_p46, List.forall_mem_cons.mpr ⟨lw_p47, fun _ h => absurd h List.not_mem_nil⟩⟩⟩⟩⟩⟩⟩⟩⟩⟩⟩⟩⟩⟩⟩⟩
theorem lw_p48 : lw_okq (⟨"RunStoreModel", "readAll", "(IZ)V"⟩, 34) := ⟨⟨by decide +kernel, by decide +kernel⟩, List.mem_of_getElem? (i := 719) (by decide +kernel), List.mem_of_getElem? (i := 986) (by decide +kernel), List.mem_of_getElem? (i := 987) (by decide +kernel)⟩
theorem lw_p49 : lw_okq (⟨"RunStoreModel", "tablesOf", "(I)I"⟩, 34) := ⟨⟨by decide +kernel, by decide +kernel⟩, List.mem_of_getElem? (i := 719) (by decide +kernel), List.mem_of_getElem? (i := 994) (by decide +kernel), List.mem_of_getElem? (i := 995) (by decide +kernel)⟩
theorem lw_p50 : lw_okq (⟨"RunStoreModel", "gather", "(I)V"⟩, 34) := ⟨⟨by decide +kernel, by decide +kernel⟩, List.mem_of_getElem? (i := 719) (by decide +kernel), List.mem_of_getElem? (i := 998) (by decide +kernel), List.mem_of_getElem? (i := 999) (by decide +kernel)⟩
theorem lw_p51 : lw_okq (⟨"RunStoreModel", "isOf", "(II)Z"⟩, 34) := ⟨⟨by decide +kernel, by decide +kernel⟩, List.mem_of_getElem? (i := 719) (by decide +kernel), List.mem_of_getElem? (i := 1002) (by decide +kernel), List.mem_of_getElem? (i := 1003) (by decide +kernel)⟩
theorem lw_p52 : lw_okq (⟨"RunStoreModel", "anyBehind", "(I)Z"⟩, 34) := ⟨⟨by decide +kernel, by decide +kernel⟩, List.mem_of_getElem? (i := 719) (by decide +kernel), List.mem_of_getElem? (i := 1006) (by decide +kernel), List.mem_of_getElem? (i := 1007) (by decide +kernel)⟩
theorem lw_p53 : lw_okq (⟨"RunStoreModel", "removeTable", "(I)V"⟩, 34) := ⟨⟨by decide +kernel, by decide +kernel⟩, List.mem_of_getElem? (i := 719) (by decide +kernel), List.mem_of_getElem? (i := 1010) (by decide +kernel), List.mem_of_getElem? (i := 1011) (by decide +kernel)⟩
theorem lw_p54 : lw_okq (⟨"RunStoreModel", "isByte", "(II)Z"⟩, 34) := ⟨⟨by decide +kernel, by decide +kernel⟩, List.mem_of_getElem? (i := 719) (by decide +kernel), List.mem_of_getElem? (i := 1026) (by decide +kernel), List.mem_of_getElem? (i := 1027) (by decide +kernel)⟩
theorem lw_p55 : lw_okq (⟨"RunStoreModel", "wholeAt", "(II)I"⟩, 34) := ⟨⟨by decide +kernel, by decide +kernel⟩, List.mem_of_getElem? (i := 719) (by decide +kernel), List.mem_of_getElem? (i := 1046) (by decide +kernel), List.mem_of_getElem? (i := 1047) (by decide +kernel)⟩
def lw_privs_4 : List (MethodName × Nat) := [(⟨"RunStoreModel", "readAll", "(IZ)V"⟩, 34), (⟨"RunStoreModel", "tablesOf", "(I)I"⟩, 34), (⟨"RunStoreModel", "gather", "(I)V"⟩, 34), (⟨"RunStoreModel", "isOf", "(II)Z"⟩, 34), (⟨"RunStoreModel", "anyBehind", "(I)Z"⟩, 34), (⟨"RunStoreModel", "removeTable", "(I)V"⟩, 34), (⟨"RunStoreModel", "isByte", "(II)Z"⟩, 34), (⟨"RunStoreModel", "wholeAt", "(II)I"⟩, 34)]
theorem lw_r4 : ∀ q ∈ lw_privs_4, lw_okq q := List.forall_mem_cons.mpr ⟨lw_p48, List.forall_mem_cons.mpr ⟨lw_p49, List.forall_mem_cons.mpr ⟨lw_p50, List.forall_mem_cons.mpr ⟨lw_p51, List.forall_mem_cons.mpr ⟨lw_p52, List.forall_mem_cons.mpr ⟨lw_p53, List.forall_mem_cons.mpr ⟨lw_p54, List.forall_mem_cons.mpr ⟨lw_p55, fun _ h => absurd h List.not_mem_nil⟩⟩⟩⟩⟩⟩⟩⟩
def lw_privs : List (MethodName × Nat) := lw_privs_1 ++ (lw_privs_2 ++ (lw_privs_3 ++ (lw_privs_4)))
def lw_tbl : List Cond := k2_sels lw_privs ++ tables_1
theorem lw_privs_ok : ∀ q ∈ lw_privs, lw_okq q := by
  show ∀ q ∈ lw_privs_1 ++ (lw_privs_2 ++ (lw_privs_3 ++ (lw_privs_4))), lw_okq q
  exact List.forall_mem_append.mpr ⟨lw_r1, List.forall_mem_append.mpr ⟨lw_r2, List.forall_mem_append.mpr ⟨lw_r3, lw_r4⟩⟩⟩
/-! THE CLASSES: fields in the order of their slots' words -/
def fhT : List Cond := lw_tbl.filter fh_okw
def R_RS : String := "RunStore"
def R_BL : String := "RunStore$Blocks"
def R_LG : String := "RunStore$Log"
def R_RW : String := "RunStore$Rows"
def R_TB : String := "RunStore$Table"
def R_TR : String := "RunStore$TableReader"
def R_ER : String := "RunStore$EntryReader"
def R_MD : String := "RunStoreModel"
def R_LW : String := "RunStoreLaw"
def R_MA : String := "java/lang/Math"
def T_BL : u_T := fun k => match k with
  | 0 => ("RunStore$Blocks", "bytes", "[B", true)
  | 1 => ("RunStore$Blocks", "sums", "[I", true)
  | 2 => ("RunStore$Blocks", "turns", "[I", true)
  | _ => ("RunStore$Blocks", "inspected", "I", false)
def t_BL : Nat → FieldType := fun k => match k with
  | 0 => .array .byte
  | 1 => .array .int
  | 2 => .array .int
  | _ => .int
def T_LG : u_T := fun k => match k with
  | 0 => ("RunStore$Log", "bytes", "[B", true)
  | 1 => ("RunStore$Log", "used", "I", false)
  | 2 => ("RunStore$Log", "at", "I", false)
  | 3 => ("RunStore$Log", "entrySum", "I", false)
  | 4 => ("RunStore$EntryReader", "key", "J", false)
  | 5 => ("RunStore$EntryReader", "size", "I", false)
  | _ => ("RunStore$EntryReader", "value", "J", false)
def t_LG : Nat → FieldType := fun k => match k with
  | 0 => .array .byte
  | 1 => .int
  | 2 => .int
  | 3 => .int
  | 4 => .long
  | 5 => .int
  | _ => .long
def T_RW : u_T := fun k => match k with
  | 0 => ("RunStore$Rows", "keys", "[J", true)
  | 1 => ("RunStore$Rows", "sizes", "[I", true)
  | 2 => ("RunStore$Rows", "values", "[J", true)
  | _ => ("RunStore$Rows", "used", "I", false)
def t_RW : Nat → FieldType := fun k => match k with
  | 0 => .array .long
  | 1 => .array .int
  | 2 => .array .long
  | _ => .int
def T_TB : u_T := fun k => match k with
  | 0 => ("RunStore$Table", "level", "I", true)
  | 1 => ("RunStore$Table", "entries", "I", true)
  | 2 => ("RunStore$Table", "filter", "J", true)
  | _ => ("RunStore$Table", "ids", "[I", true)
def t_TB : Nat → FieldType := fun k => match k with
  | 0 => .int
  | 1 => .int
  | 2 => .long
  | _ => .array .int
def T_TR : u_T := fun k => match k with
  | 0 => ("RunStore$TableReader", "store", "LRunStore$Blocks;", true)
  | 1 => ("RunStore$TableReader", "table", "LRunStore$Table;", false)
  | 2 => ("RunStore$TableReader", "inspecting", "Z", false)
  | 3 => ("RunStore$TableReader", "at", "I", false)
  | 4 => ("RunStore$TableReader", "fault", "I", false)
  | 5 => ("RunStore$EntryReader", "key", "J", false)
  | 6 => ("RunStore$EntryReader", "size", "I", false)
  | _ => ("RunStore$EntryReader", "value", "J", false)
def t_TR : Nat → FieldType := fun k => match k with
  | 0 => .object "RunStore$Blocks"
  | 1 => .object "RunStore$Table"
  | 2 => .boolean
  | 3 => .int
  | 4 => .int
  | 5 => .long
  | 6 => .int
  | _ => .long
def T_RS : u_T := fun k => match k with
  | 0 => ("RunStore", "memory", "LRunStore$Rows;", true)
  | 1 => ("RunStore", "log", "LRunStore$Log;", true)
  | 2 => ("RunStore", "store", "LRunStore$Blocks;", true)
  | 3 => ("RunStore", "reader", "LRunStore$TableReader;", true)
  | 4 => ("RunStore", "tables", "[LRunStore$Table;", true)
  | 5 => ("RunStore", "tableCount", "I", false)
  | 6 => ("RunStore", "gathered", "LRunStore$Rows;", true)
  | 7 => ("RunStore", "soughtValue", "J", false)
  | 8 => ("RunStore", "passedBy", "I", false)
  | _ => ("RunStore", "bad", "I", false)
def t_RS : Nat → FieldType := fun k => match k with
  | 0 => .object "RunStore$Rows"
  | 1 => .object "RunStore$Log"
  | 2 => .object "RunStore$Blocks"
  | 3 => .object "RunStore$TableReader"
  | 4 => .array (.object "RunStore$Table")
  | 5 => .int
  | 6 => .object "RunStore$Rows"
  | 7 => .long
  | 8 => .int
  | _ => .int
def T_MD : u_T := fun k => match k with
  | 0 => ("RunStoreModel", "thrown", "I", false)
  | 1 => ("RunStoreModel", "blocks", "I", true)
  | 2 => ("RunStoreModel", "keys", "I", false)
  | 3 => ("RunStoreModel", "key", "[J", true)
  | 4 => ("RunStoreModel", "value", "[J", true)
  | 5 => ("RunStoreModel", "length", "[I", true)
  | 6 => ("RunStoreModel", "logged", "I", false)
  | 7 => ("RunStoreModel", "log", "[I", true)
  | 8 => ("RunStoreModel", "data", "[I", true)
  | 9 => ("RunStoreModel", "sums", "[I", true)
  | 10 => ("RunStoreModel", "isTaken", "[Z", true)
  | 11 => ("RunStoreModel", "tables", "I", false)
  | 12 => ("RunStoreModel", "level", "[I", true)
  | 13 => ("RunStoreModel", "entries", "[I", true)
  | 14 => ("RunStoreModel", "many", "[I", true)
  | 15 => ("RunStoreModel", "block", "[I", true)
  | 16 => ("RunStoreModel", "filter", "[J", true)
  | 17 => ("RunStoreModel", "bad", "I", false)
  | 18 => ("RunStoreModel", "checked", "I", false)
  | 19 => ("RunStoreModel", "passed", "I", false)
  | 20 => ("RunStoreModel", "at", "I", false)
  | 21 => ("RunStoreModel", "lastChecked", "I", false)
  | 22 => ("RunStoreModel", "isFault", "Z", false)
  | 23 => ("RunStoreModel", "entryKey", "J", false)
  | 24 => ("RunStoreModel", "entryValue", "J", false)
  | 25 => ("RunStoreModel", "entryLength", "I", false)
  | 26 => ("RunStoreModel", "found", "I", false)
  | 27 => ("RunStoreModel", "foundKey", "[J", true)
  | 28 => ("RunStoreModel", "foundValue", "[J", true)
  | 29 => ("RunStoreModel", "foundLength", "[I", true)
  | 30 => ("RunStoreModel", "joined", "[I", true)
  | 31 => ("RunStoreModel", "joinedSize", "I", false)
  | 32 => ("RunStoreModel", "picked", "[I", true)
  | _ => ("RunStoreModel", "isChecking", "Z", false)
def t_MD : Nat → FieldType := fun k => match k with
  | 0 => .int
  | 1 => .int
  | 2 => .int
  | 3 => .array .long
  | 4 => .array .long
  | 5 => .array .int
  | 6 => .int
  | 7 => .array .int
  | 8 => .array .int
  | 9 => .array .int
  | 10 => .array .boolean
  | 11 => .int
  | 12 => .array .int
  | 13 => .array .int
  | 14 => .array .int
  | 15 => .array .int
  | 16 => .array .long
  | 17 => .int
  | 18 => .int
  | 19 => .int
  | 20 => .int
  | 21 => .int
  | 22 => .boolean
  | 23 => .long
  | 24 => .long
  | 25 => .int
  | 26 => .int
  | 27 => .array .long
  | 28 => .array .long
  | 29 => .array .int
  | 30 => .array .int
  | 31 => .int
  | 32 => .array .int
  | _ => .boolean
abbrev fhCl : List vw_C := [(R_BL, T_BL, 4), (R_LG, T_LG, 7), (R_RW, T_RW, 4), (R_TB, T_TB, 4), (R_TR, T_TR, 8), (R_RS, T_RS, 10), (R_MD, T_MD, 34)]
/-! WORDS of the tables, by their places -/
theorem k_se_BL_sumOf : Cond.selects "RunStore$Blocks" ⟨"RunStore$Blocks", "sumOf", "(I)I"⟩ ⟨"RunStore$Blocks", "sumOf", "(I)I"⟩ ∈ fhT := List.mem_filter.mpr ⟨List.mem_of_getElem? (i := 0) (by decide +kernel), by decide +kernel⟩
theorem k_se_RS_entriesOfTables : Cond.selects "RunStore" ⟨"RunStore", "entriesOfTables", "()I"⟩ ⟨"RunStore", "entriesOfTables", "()I"⟩ ∈ fhT := List.mem_filter.mpr ⟨List.mem_of_getElem? (i := 1) (by decide +kernel), by decide +kernel⟩
theorem k_se_RS_enter : Cond.selects "RunStore" ⟨"RunStore", "enter", "(JIJ)I"⟩ ⟨"RunStore", "enter", "(JIJ)I"⟩ ∈ fhT := List.mem_filter.mpr ⟨List.mem_of_getElem? (i := 3) (by decide +kernel), by decide +kernel⟩
theorem k_se_LG_appendByte : Cond.selects "RunStore$Log" ⟨"RunStore$Log", "appendByte", "(I)V"⟩ ⟨"RunStore$Log", "appendByte", "(I)V"⟩ ∈ fhT := List.mem_filter.mpr ⟨List.mem_of_getElem? (i := 4) (by decide +kernel), by decide +kernel⟩
theorem k_se_RW_insert : Cond.selects "RunStore$Rows" ⟨"RunStore$Rows", "insert", "(IJIJ)Z"⟩ ⟨"RunStore$Rows", "insert", "(IJIJ)Z"⟩ ∈ fhT := List.mem_filter.mpr ⟨List.mem_of_getElem? (i := 5) (by decide +kernel), by decide +kernel⟩
theorem k_se_RW_write : Cond.selects "RunStore$Rows" ⟨"RunStore$Rows", "write", "(IJIJ)V"⟩ ⟨"RunStore$Rows", "write", "(IJIJ)V"⟩ ∈ fhT := List.mem_filter.mpr ⟨List.mem_of_getElem? (i := 6) (by decide +kernel), by decide +kernel⟩
theorem k_se_BL_take : Cond.selects "RunStore$Blocks" ⟨"RunStore$Blocks", "take", "(I)[I"⟩ ⟨"RunStore$Blocks", "take", "(I)[I"⟩ ∈ fhT := List.mem_filter.mpr ⟨List.mem_of_getElem? (i := 7) (by decide +kernel), by decide +kernel⟩
theorem k_se_BL_fill : Cond.selects "RunStore$Blocks" ⟨"RunStore$Blocks", "fill", "(LRunStore$Table;LRunStore$Rows;)V"⟩ ⟨"RunStore$Blocks", "fill", "(LRunStore$Table;LRunStore$Rows;)V"⟩ ∈ fhT := List.mem_filter.mpr ⟨List.mem_of_getElem? (i := 8) (by decide +kernel), by decide +kernel⟩
theorem k_se_RS_insertTable : Cond.selects "RunStore" ⟨"RunStore", "insertTable", "(ILRunStore$Table;)V"⟩ ⟨"RunStore", "insertTable", "(ILRunStore$Table;)V"⟩ ∈ fhT := List.mem_filter.mpr ⟨List.mem_of_getElem? (i := 9) (by decide +kernel), by decide +kernel⟩
theorem k_se_RS_tablesUpTo : Cond.selects "RunStore" ⟨"RunStore", "tablesUpTo", "(I)I"⟩ ⟨"RunStore", "tablesUpTo", "(I)I"⟩ ∈ fhT := List.mem_filter.mpr ⟨List.mem_of_getElem? (i := 10) (by decide +kernel), by decide +kernel⟩
theorem k_se_RS_inspectTables : Cond.selects "RunStore" ⟨"RunStore", "inspectTables", "(II)V"⟩ ⟨"RunStore", "inspectTables", "(II)V"⟩ ∈ fhT := List.mem_filter.mpr ⟨List.mem_of_getElem? (i := 11) (by decide +kernel), by decide +kernel⟩
theorem k_se_RS_refuseFault : Cond.selects "RunStore" ⟨"RunStore", "refuseFault", "(I)V"⟩ ⟨"RunStore", "refuseFault", "(I)V"⟩ ∈ fhT := List.mem_filter.mpr ⟨List.mem_of_getElem? (i := 12) (by decide +kernel), by decide +kernel⟩
theorem k_se_RS_gatherTables : Cond.selects "RunStore" ⟨"RunStore", "gatherTables", "(IIZ)V"⟩ ⟨"RunStore", "gatherTables", "(IIZ)V"⟩ ∈ fhT := List.mem_filter.mpr ⟨List.mem_of_getElem? (i := 13) (by decide +kernel), by decide +kernel⟩
theorem k_se_TR_start : Cond.selects "RunStore$TableReader" ⟨"RunStore$TableReader", "start", "(LRunStore$Table;Z)V"⟩ ⟨"RunStore$TableReader", "start", "(LRunStore$Table;Z)V"⟩ ∈ fhT := List.mem_filter.mpr ⟨List.mem_of_getElem? (i := 14) (by decide +kernel), by decide +kernel⟩
theorem k_se_RS_removeTables : Cond.selects "RunStore" ⟨"RunStore", "removeTables", "(II)V"⟩ ⟨"RunStore", "removeTables", "(II)V"⟩ ∈ fhT := List.mem_filter.mpr ⟨List.mem_of_getElem? (i := 15) (by decide +kernel), by decide +kernel⟩
theorem k_se_RS_seek : Cond.selects "RunStore" ⟨"RunStore", "seek", "(J)I"⟩ ⟨"RunStore", "seek", "(J)I"⟩ ∈ fhT := List.mem_filter.mpr ⟨List.mem_of_getElem? (i := 16) (by decide +kernel), by decide +kernel⟩
theorem k_se_RS_sought : Cond.selects "RunStore" ⟨"RunStore", "sought", "(IJ)I"⟩ ⟨"RunStore", "sought", "(IJ)I"⟩ ∈ fhT := List.mem_filter.mpr ⟨List.mem_of_getElem? (i := 17) (by decide +kernel), by decide +kernel⟩
theorem k_se_RS_tableNumbered : Cond.selects "RunStore" ⟨"RunStore", "tableNumbered", "(I)LRunStore$Table;"⟩ ⟨"RunStore", "tableNumbered", "(I)LRunStore$Table;"⟩ ∈ fhT := List.mem_filter.mpr ⟨List.mem_of_getElem? (i := 18) (by decide +kernel), by decide +kernel⟩
theorem k_se_RS_refuseNoByte : Cond.selects "RunStore" ⟨"RunStore", "refuseNoByte", "(II)V"⟩ ⟨"RunStore", "refuseNoByte", "(II)V"⟩ ∈ fhT := List.mem_filter.mpr ⟨List.mem_of_getElem? (i := 19) (by decide +kernel), by decide +kernel⟩
theorem k_se_LG_readSummed : Cond.selects "RunStore$Log" ⟨"RunStore$Log", "readSummed", "()Z"⟩ ⟨"RunStore$Log", "readSummed", "()Z"⟩ ∈ fhT := List.mem_filter.mpr ⟨List.mem_of_getElem? (i := 20) (by decide +kernel), by decide +kernel⟩
theorem k_se_MD_fail : Cond.selects "RunStoreModel" ⟨"RunStoreModel", "fail", "(I)I"⟩ ⟨"RunStoreModel", "fail", "(I)I"⟩ ∈ fhT := List.mem_filter.mpr ⟨List.mem_of_getElem? (i := 21) (by decide +kernel), by decide +kernel⟩
theorem k_se_MD_hasRoom : Cond.selects "RunStoreModel" ⟨"RunStoreModel", "hasRoom", "(JI)Z"⟩ ⟨"RunStoreModel", "hasRoom", "(JI)Z"⟩ ∈ fhT := List.mem_filter.mpr ⟨List.mem_of_getElem? (i := 22) (by decide +kernel), by decide +kernel⟩
theorem k_se_MD_hasKey : Cond.selects "RunStoreModel" ⟨"RunStoreModel", "hasKey", "(J)Z"⟩ ⟨"RunStoreModel", "hasKey", "(J)Z"⟩ ∈ fhT := List.mem_filter.mpr ⟨List.mem_of_getElem? (i := 23) (by decide +kernel), by decide +kernel⟩
theorem k_se_MD_placeOf : Cond.selects "RunStoreModel" ⟨"RunStoreModel", "placeOf", "(J)I"⟩ ⟨"RunStoreModel", "placeOf", "(J)I"⟩ ∈ fhT := List.mem_filter.mpr ⟨List.mem_of_getElem? (i := 24) (by decide +kernel), by decide +kernel⟩
theorem k_se_MD_tell : Cond.selects "RunStoreModel" ⟨"RunStoreModel", "tell", "(JJI)V"⟩ ⟨"RunStoreModel", "tell", "(JJI)V"⟩ ∈ fhT := List.mem_filter.mpr ⟨List.mem_of_getElem? (i := 25) (by decide +kernel), by decide +kernel⟩
theorem k_se_MD_note : Cond.selects "RunStoreModel" ⟨"RunStoreModel", "note", "(I)V"⟩ ⟨"RunStoreModel", "note", "(I)V"⟩ ∈ fhT := List.mem_filter.mpr ⟨List.mem_of_getElem? (i := 26) (by decide +kernel), by decide +kernel⟩
theorem k_se_MD_logSum : Cond.selects "RunStoreModel" ⟨"RunStoreModel", "logSum", "(II)I"⟩ ⟨"RunStoreModel", "logSum", "(II)I"⟩ ∈ fhT := List.mem_filter.mpr ⟨List.mem_of_getElem? (i := 27) (by decide +kernel), by decide +kernel⟩
theorem k_se_MD_set : Cond.selects "RunStoreModel" ⟨"RunStoreModel", "set", "(JJI)V"⟩ ⟨"RunStoreModel", "set", "(JJI)V"⟩ ∈ fhT := List.mem_filter.mpr ⟨List.mem_of_getElem? (i := 28) (by decide +kernel), by decide +kernel⟩
theorem k_se_MD_sayEntry : Cond.selects "RunStoreModel" ⟨"RunStoreModel", "sayEntry", "(JJI)V"⟩ ⟨"RunStoreModel", "sayEntry", "(JJI)V"⟩ ∈ fhT := List.mem_filter.mpr ⟨List.mem_of_getElem? (i := 29) (by decide +kernel), by decide +kernel⟩
theorem k_se_MD_say : Cond.selects "RunStoreModel" ⟨"RunStoreModel", "say", "(I)V"⟩ ⟨"RunStoreModel", "say", "(I)V"⟩ ∈ fhT := List.mem_filter.mpr ⟨List.mem_of_getElem? (i := 30) (by decide +kernel), by decide +kernel⟩
theorem k_se_MD_freeBlocks : Cond.selects "RunStoreModel" ⟨"RunStoreModel", "freeBlocks", "()I"⟩ ⟨"RunStoreModel", "freeBlocks", "()I"⟩ ∈ fhT := List.mem_filter.mpr ⟨List.mem_of_getElem? (i := 31) (by decide +kernel), by decide +kernel⟩
theorem k_se_MD_pick : Cond.selects "RunStoreModel" ⟨"RunStoreModel", "pick", "()V"⟩ ⟨"RunStoreModel", "pick", "()V"⟩ ∈ fhT := List.mem_filter.mpr ⟨List.mem_of_getElem? (i := 32) (by decide +kernel), by decide +kernel⟩
theorem k_se_MD_openPlace : Cond.selects "RunStoreModel" ⟨"RunStoreModel", "openPlace", "(I)V"⟩ ⟨"RunStoreModel", "openPlace", "(I)V"⟩ ∈ fhT := List.mem_filter.mpr ⟨List.mem_of_getElem? (i := 33) (by decide +kernel), by decide +kernel⟩
theorem k_se_MD_copyTable : Cond.selects "RunStoreModel" ⟨"RunStoreModel", "copyTable", "(II)V"⟩ ⟨"RunStoreModel", "copyTable", "(II)V"⟩ ∈ fhT := List.mem_filter.mpr ⟨List.mem_of_getElem? (i := 34) (by decide +kernel), by decide +kernel⟩
theorem k_se_MD_fill : Cond.selects "RunStoreModel" ⟨"RunStoreModel", "fill", "(IIIJ)V"⟩ ⟨"RunStoreModel", "fill", "(IIIJ)V"⟩ ∈ fhT := List.mem_filter.mpr ⟨List.mem_of_getElem? (i := 35) (by decide +kernel), by decide +kernel⟩
theorem k_se_MD_sumOf : Cond.selects "RunStoreModel" ⟨"RunStoreModel", "sumOf", "(II)I"⟩ ⟨"RunStoreModel", "sumOf", "(II)I"⟩ ∈ fhT := List.mem_filter.mpr ⟨List.mem_of_getElem? (i := 36) (by decide +kernel), by decide +kernel⟩
theorem k_se_MD_look : Cond.selects "RunStoreModel" ⟨"RunStoreModel", "look", "(J)Z"⟩ ⟨"RunStoreModel", "look", "(J)Z"⟩ ∈ fhT := List.mem_filter.mpr ⟨List.mem_of_getElem? (i := 37) (by decide +kernel), by decide +kernel⟩
theorem k_se_MD_hasIt : Cond.selects "RunStoreModel" ⟨"RunStoreModel", "hasIt", "(IJ)Z"⟩ ⟨"RunStoreModel", "hasIt", "(IJ)Z"⟩ ∈ fhT := List.mem_filter.mpr ⟨List.mem_of_getElem? (i := 38) (by decide +kernel), by decide +kernel⟩
theorem k_se_MD_begin : Cond.selects "RunStoreModel" ⟨"RunStoreModel", "begin", "(Z)V"⟩ ⟨"RunStoreModel", "begin", "(Z)V"⟩ ∈ fhT := List.mem_filter.mpr ⟨List.mem_of_getElem? (i := 39) (by decide +kernel), by decide +kernel⟩
theorem k_se_MD_readEntry : Cond.selects "RunStoreModel" ⟨"RunStoreModel", "readEntry", "(I)V"⟩ ⟨"RunStoreModel", "readEntry", "(I)V"⟩ ∈ fhT := List.mem_filter.mpr ⟨List.mem_of_getElem? (i := 40) (by decide +kernel), by decide +kernel⟩
theorem k_se_MD_readKey : Cond.selects "RunStoreModel" ⟨"RunStoreModel", "readKey", "(I)V"⟩ ⟨"RunStoreModel", "readKey", "(I)V"⟩ ∈ fhT := List.mem_filter.mpr ⟨List.mem_of_getElem? (i := 41) (by decide +kernel), by decide +kernel⟩
theorem k_se_MD_next : Cond.selects "RunStoreModel" ⟨"RunStoreModel", "next", "(I)I"⟩ ⟨"RunStoreModel", "next", "(I)I"⟩ ∈ fhT := List.mem_filter.mpr ⟨List.mem_of_getElem? (i := 42) (by decide +kernel), by decide +kernel⟩
theorem k_se_MD_fault : Cond.selects "RunStoreModel" ⟨"RunStoreModel", "fault", "(II)V"⟩ ⟨"RunStoreModel", "fault", "(II)V"⟩ ∈ fhT := List.mem_filter.mpr ⟨List.mem_of_getElem? (i := 43) (by decide +kernel), by decide +kernel⟩
theorem k_se_MD_isRight : Cond.selects "RunStoreModel" ⟨"RunStoreModel", "isRight", "(II)Z"⟩ ⟨"RunStoreModel", "isRight", "(II)Z"⟩ ∈ fhT := List.mem_filter.mpr ⟨List.mem_of_getElem? (i := 44) (by decide +kernel), by decide +kernel⟩
theorem k_se_MD_readLength : Cond.selects "RunStoreModel" ⟨"RunStoreModel", "readLength", "(I)V"⟩ ⟨"RunStoreModel", "readLength", "(I)V"⟩ ∈ fhT := List.mem_filter.mpr ⟨List.mem_of_getElem? (i := 45) (by decide +kernel), by decide +kernel⟩
theorem k_se_MD_readValue : Cond.selects "RunStoreModel" ⟨"RunStoreModel", "readValue", "(I)V"⟩ ⟨"RunStoreModel", "readValue", "(I)V"⟩ ∈ fhT := List.mem_filter.mpr ⟨List.mem_of_getElem? (i := 46) (by decide +kernel), by decide +kernel⟩
theorem k_se_MD_come : Cond.selects "RunStoreModel" ⟨"RunStoreModel", "come", "(JJI)V"⟩ ⟨"RunStoreModel", "come", "(JJI)V"⟩ ∈ fhT := List.mem_filter.mpr ⟨List.mem_of_getElem? (i := 47) (by decide +kernel), by decide +kernel⟩
theorem k_se_MD_readAll : Cond.selects "RunStoreModel" ⟨"RunStoreModel", "readAll", "(IZ)V"⟩ ⟨"RunStoreModel", "readAll", "(IZ)V"⟩ ∈ fhT := List.mem_filter.mpr ⟨List.mem_of_getElem? (i := 48) (by decide +kernel), by decide +kernel⟩
theorem k_se_MD_tablesOf : Cond.selects "RunStoreModel" ⟨"RunStoreModel", "tablesOf", "(I)I"⟩ ⟨"RunStoreModel", "tablesOf", "(I)I"⟩ ∈ fhT := List.mem_filter.mpr ⟨List.mem_of_getElem? (i := 49) (by decide +kernel), by decide +kernel⟩
theorem k_se_MD_gather : Cond.selects "RunStoreModel" ⟨"RunStoreModel", "gather", "(I)V"⟩ ⟨"RunStoreModel", "gather", "(I)V"⟩ ∈ fhT := List.mem_filter.mpr ⟨List.mem_of_getElem? (i := 50) (by decide +kernel), by decide +kernel⟩
theorem k_se_MD_isOf : Cond.selects "RunStoreModel" ⟨"RunStoreModel", "isOf", "(II)Z"⟩ ⟨"RunStoreModel", "isOf", "(II)Z"⟩ ∈ fhT := List.mem_filter.mpr ⟨List.mem_of_getElem? (i := 51) (by decide +kernel), by decide +kernel⟩
theorem k_se_MD_anyBehind : Cond.selects "RunStoreModel" ⟨"RunStoreModel", "anyBehind", "(I)Z"⟩ ⟨"RunStoreModel", "anyBehind", "(I)Z"⟩ ∈ fhT := List.mem_filter.mpr ⟨List.mem_of_getElem? (i := 52) (by decide +kernel), by decide +kernel⟩
theorem k_se_MD_removeTable : Cond.selects "RunStoreModel" ⟨"RunStoreModel", "removeTable", "(I)V"⟩ ⟨"RunStoreModel", "removeTable", "(I)V"⟩ ∈ fhT := List.mem_filter.mpr ⟨List.mem_of_getElem? (i := 53) (by decide +kernel), by decide +kernel⟩
theorem k_se_MD_isByte : Cond.selects "RunStoreModel" ⟨"RunStoreModel", "isByte", "(II)Z"⟩ ⟨"RunStoreModel", "isByte", "(II)Z"⟩ ∈ fhT := List.mem_filter.mpr ⟨List.mem_of_getElem? (i := 54) (by decide +kernel), by decide +kernel⟩
theorem k_se_MD_wholeAt : Cond.selects "RunStoreModel" ⟨"RunStoreModel", "wholeAt", "(II)I"⟩ ⟨"RunStoreModel", "wholeAt", "(II)I"⟩ ∈ fhT := List.mem_filter.mpr ⟨List.mem_of_getElem? (i := 55) (by decide +kernel), by decide +kernel⟩
theorem k_in_LW : Cond.initialized "RunStoreLaw" ∈ fhT := List.mem_filter.mpr ⟨List.mem_of_getElem? (i := 56) (by decide +kernel), by decide +kernel⟩
theorem k_in_RS : Cond.initialized "RunStore" ∈ fhT := List.mem_filter.mpr ⟨List.mem_of_getElem? (i := 57) (by decide +kernel), by decide +kernel⟩
theorem k_in_MA : Cond.initialized "java/lang/Math" ∈ fhT := List.mem_filter.mpr ⟨List.mem_of_getElem? (i := 58) (by decide +kernel), by decide +kernel⟩
theorem k_in_RW : Cond.initialized "RunStore$Rows" ∈ fhT := List.mem_filter.mpr ⟨List.mem_of_getElem? (i := 59) (by decide +kernel), by decide +kernel⟩
theorem k_in_ER : Cond.initialized "RunStore$EntryReader" ∈ fhT := List.mem_filter.mpr ⟨List.mem_of_getElem? (i := 60) (by decide +kernel), by decide +kernel⟩
theorem k_in_LG : Cond.initialized "RunStore$Log" ∈ fhT := List.mem_filter.mpr ⟨List.mem_of_getElem? (i := 61) (by decide +kernel), by decide +kernel⟩
theorem k_in_BL : Cond.initialized "RunStore$Blocks" ∈ fhT := List.mem_filter.mpr ⟨List.mem_of_getElem? (i := 62) (by decide +kernel), by decide +kernel⟩
theorem k_in_TR : Cond.initialized "RunStore$TableReader" ∈ fhT := List.mem_filter.mpr ⟨List.mem_of_getElem? (i := 63) (by decide +kernel), by decide +kernel⟩
theorem k_in_MD : Cond.initialized "RunStoreModel" ∈ fhT := List.mem_filter.mpr ⟨List.mem_of_getElem? (i := 64) (by decide +kernel), by decide +kernel⟩
theorem k_in_EA : Cond.initialized "java/lang/IllegalArgumentException" ∈ fhT := List.mem_filter.mpr ⟨List.mem_of_getElem? (i := 68) (by decide +kernel), by decide +kernel⟩
theorem k_in_EU : Cond.initialized "java/lang/UnsupportedOperationException" ∈ fhT := List.mem_filter.mpr ⟨List.mem_of_getElem? (i := 69) (by decide +kernel), by decide +kernel⟩
theorem k_in_SY : Cond.initialized "java/lang/System" ∈ fhT := List.mem_filter.mpr ⟨List.mem_of_getElem? (i := 70) (by decide +kernel), by decide +kernel⟩
theorem k_in_ES : Cond.initialized "java/lang/IllegalStateException" ∈ fhT := List.mem_filter.mpr ⟨List.mem_of_getElem? (i := 71) (by decide +kernel), by decide +kernel⟩
theorem k_in_TB : Cond.initialized "RunStore$Table" ∈ fhT := List.mem_filter.mpr ⟨List.mem_of_getElem? (i := 72) (by decide +kernel), by decide +kernel⟩
theorem k_in_EI : Cond.initialized "java/lang/IndexOutOfBoundsException" ∈ fhT := List.mem_filter.mpr ⟨List.mem_of_getElem? (i := 73) (by decide +kernel), by decide +kernel⟩
theorem k_cl_LW_8 : Cond.classLink "RunStoreLaw" 8 "RunStore" ∈ fhT := List.mem_filter.mpr ⟨List.mem_of_getElem? (i := 74) (by decide +kernel), by decide +kernel⟩
theorem k_it_RS : Cond.instantiable "RunStore" 10 ∈ fhT := List.mem_filter.mpr ⟨List.mem_of_getElem? (i := 75) (by decide +kernel), by decide +kernel⟩
theorem k_ml_LW_73 : Cond.methodLink "RunStoreLaw" 73 ⟨"RunStore", "<init>", "(I)V"⟩ ∈ fhT := List.mem_filter.mpr ⟨List.mem_of_getElem? (i := 76) (by decide +kernel), by decide +kernel⟩
theorem k_im_RS_init : Cond.instanceMethod ⟨"RunStore", "<init>", "(I)V"⟩ ∈ fhT := List.mem_filter.mpr ⟨List.mem_of_getElem? (i := 77) (by decide +kernel), by decide +kernel⟩
theorem k_cd_RS_init : Cond.code ⟨"RunStore", "<init>", "(I)V"⟩ prog_1_method_1_code 3 none ∈ fhT := List.mem_filter.mpr ⟨List.mem_of_getElem? (i := 78) (by decide +kernel), by decide +kernel⟩
theorem k_ml_RS_3 : Cond.methodLink "RunStore" 3 ⟨"java/lang/Object", "<init>", "()V"⟩ ∈ fhT := List.mem_filter.mpr ⟨List.mem_of_getElem? (i := 79) (by decide +kernel), by decide +kernel⟩
theorem k_im_OB_init : Cond.instanceMethod ⟨"java/lang/Object", "<init>", "()V"⟩ ∈ fhT := List.mem_filter.mpr ⟨List.mem_of_getElem? (i := 80) (by decide +kernel), by decide +kernel⟩
theorem k_cd_OB_init : Cond.code ⟨"java/lang/Object", "<init>", "()V"⟩ object_method_1_code 1 none ∈ fhT := List.mem_filter.mpr ⟨List.mem_of_getElem? (i := 81) (by decide +kernel), by decide +kernel⟩
theorem k_ml_RS_9 : Cond.methodLink "RunStore" 9 ⟨"java/lang/Math", "floorMod", "(II)I"⟩ ∈ fhT := List.mem_filter.mpr ⟨List.mem_of_getElem? (i := 82) (by decide +kernel), by decide +kernel⟩
theorem k_st_MA_floorMod : Cond.static ⟨"java/lang/Math", "floorMod", "(II)I"⟩ ∈ fhT := List.mem_filter.mpr ⟨List.mem_of_getElem? (i := 83) (by decide +kernel), by decide +kernel⟩
theorem k_cd_MA_floorMod : Cond.code ⟨"java/lang/Math", "floorMod", "(II)I"⟩ prog_14_method_50_code 3 (some .int) ∈ fhT := List.mem_filter.mpr ⟨List.mem_of_getElem? (i := 84) (by decide +kernel), by decide +kernel⟩
theorem k_cl_RS_15 : Cond.classLink "RunStore" 15 "RunStore$Rows" ∈ fhT := List.mem_filter.mpr ⟨List.mem_of_getElem? (i := 85) (by decide +kernel), by decide +kernel⟩
theorem k_it_RW : Cond.instantiable "RunStore$Rows" 4 ∈ fhT := List.mem_filter.mpr ⟨List.mem_of_getElem? (i := 86) (by decide +kernel), by decide +kernel⟩
theorem k_ml_RS_17 : Cond.methodLink "RunStore" 17 ⟨"RunStore$Rows", "<init>", "(I)V"⟩ ∈ fhT := List.mem_filter.mpr ⟨List.mem_of_getElem? (i := 87) (by decide +kernel), by decide +kernel⟩
theorem k_im_RW_init : Cond.instanceMethod ⟨"RunStore$Rows", "<init>", "(I)V"⟩ ∈ fhT := List.mem_filter.mpr ⟨List.mem_of_getElem? (i := 88) (by decide +kernel), by decide +kernel⟩
theorem k_cd_RW_init : Cond.code ⟨"RunStore$Rows", "<init>", "(I)V"⟩ prog_5_method_1_code 2 none ∈ fhT := List.mem_filter.mpr ⟨List.mem_of_getElem? (i := 89) (by decide +kernel), by decide +kernel⟩
theorem k_ml_RW_3 : Cond.methodLink "RunStore$Rows" 3 ⟨"java/lang/Object", "<init>", "()V"⟩ ∈ fhT := List.mem_filter.mpr ⟨List.mem_of_getElem? (i := 90) (by decide +kernel), by decide +kernel⟩
theorem k_fl_RW_9 : Cond.fieldLink "RunStore$Rows" 9 "RunStore$Rows" "keys" "[J" ∈ fhT := List.mem_filter.mpr ⟨List.mem_of_getElem? (i := 91) (by decide +kernel), by decide +kernel⟩
theorem k_fl_BL_68 : Cond.fieldLinkNest "RunStore$Blocks" 68 "RunStore$Rows" "keys" "[J" "RunStore" ∈ fhT := List.mem_filter.mpr ⟨List.mem_of_getElem? (i := 92) (by decide +kernel), by decide +kernel⟩
theorem k_fl_RW_15 : Cond.fieldLink "RunStore$Rows" 15 "RunStore$Rows" "sizes" "[I" ∈ fhT := List.mem_filter.mpr ⟨List.mem_of_getElem? (i := 93) (by decide +kernel), by decide +kernel⟩
theorem k_fl_BL_62 : Cond.fieldLinkNest "RunStore$Blocks" 62 "RunStore$Rows" "sizes" "[I" "RunStore" ∈ fhT := List.mem_filter.mpr ⟨List.mem_of_getElem? (i := 94) (by decide +kernel), by decide +kernel⟩
theorem k_fl_RS_242 : Cond.fieldLinkNest "RunStore" 242 "RunStore$Rows" "sizes" "[I" "RunStore" ∈ fhT := List.mem_filter.mpr ⟨List.mem_of_getElem? (i := 95) (by decide +kernel), by decide +kernel⟩
theorem k_fl_RW_19 : Cond.fieldLink "RunStore$Rows" 19 "RunStore$Rows" "values" "[J" ∈ fhT := List.mem_filter.mpr ⟨List.mem_of_getElem? (i := 96) (by decide +kernel), by decide +kernel⟩
theorem k_fl_BL_72 : Cond.fieldLinkNest "RunStore$Blocks" 72 "RunStore$Rows" "values" "[J" "RunStore" ∈ fhT := List.mem_filter.mpr ⟨List.mem_of_getElem? (i := 97) (by decide +kernel), by decide +kernel⟩
theorem k_fl_RS_245 : Cond.fieldLinkNest "RunStore" 245 "RunStore$Rows" "values" "[J" "RunStore" ∈ fhT := List.mem_filter.mpr ⟨List.mem_of_getElem? (i := 98) (by decide +kernel), by decide +kernel⟩
theorem k_fl_RW_22 : Cond.fieldLink "RunStore$Rows" 22 "RunStore$Rows" "used" "I" ∈ fhT := List.mem_filter.mpr ⟨List.mem_of_getElem? (i := 99) (by decide +kernel), by decide +kernel⟩
theorem k_fl_RS_75 : Cond.fieldLinkNest "RunStore" 75 "RunStore$Rows" "used" "I" "RunStore" ∈ fhT := List.mem_filter.mpr ⟨List.mem_of_getElem? (i := 100) (by decide +kernel), by decide +kernel⟩
theorem k_fl_BL_36 : Cond.fieldLinkNest "RunStore$Blocks" 36 "RunStore$Rows" "used" "I" "RunStore" ∈ fhT := List.mem_filter.mpr ⟨List.mem_of_getElem? (i := 101) (by decide +kernel), by decide +kernel⟩
theorem k_ac_long : Cond.arrayClass .long ∈ fhT := List.mem_filter.mpr ⟨List.mem_of_getElem? (i := 111) (by decide +kernel), by decide +kernel⟩
theorem k_ac_int : Cond.arrayClass .int ∈ fhT := List.mem_filter.mpr ⟨List.mem_of_getElem? (i := 112) (by decide +kernel), by decide +kernel⟩
theorem k_cl_RS_24 : Cond.classLink "RunStore" 24 "RunStore$Log" ∈ fhT := List.mem_filter.mpr ⟨List.mem_of_getElem? (i := 113) (by decide +kernel), by decide +kernel⟩
theorem k_it_LG : Cond.instantiable "RunStore$Log" 7 ∈ fhT := List.mem_filter.mpr ⟨List.mem_of_getElem? (i := 114) (by decide +kernel), by decide +kernel⟩
theorem k_ml_RS_26 : Cond.methodLinkNest "RunStore" 26 ⟨"RunStore$Log", "<init>", "()V"⟩ "RunStore" ∈ fhT := List.mem_filter.mpr ⟨List.mem_of_getElem? (i := 115) (by decide +kernel), by decide +kernel⟩
theorem k_im_LG_init : Cond.instanceMethod ⟨"RunStore$Log", "<init>", "()V"⟩ ∈ fhT := List.mem_filter.mpr ⟨List.mem_of_getElem? (i := 116) (by decide +kernel), by decide +kernel⟩
theorem k_cd_LG_init : Cond.code ⟨"RunStore$Log", "<init>", "()V"⟩ prog_4_method_1_code 1 none ∈ fhT := List.mem_filter.mpr ⟨List.mem_of_getElem? (i := 117) (by decide +kernel), by decide +kernel⟩
theorem k_ml_LG_3 : Cond.methodLinkNest "RunStore$Log" 3 ⟨"RunStore$EntryReader", "<init>", "()V"⟩ "RunStore" ∈ fhT := List.mem_filter.mpr ⟨List.mem_of_getElem? (i := 118) (by decide +kernel), by decide +kernel⟩
theorem k_im_ER_init : Cond.instanceMethod ⟨"RunStore$EntryReader", "<init>", "()V"⟩ ∈ fhT := List.mem_filter.mpr ⟨List.mem_of_getElem? (i := 119) (by decide +kernel), by decide +kernel⟩
theorem k_cd_ER_init : Cond.code ⟨"RunStore$EntryReader", "<init>", "()V"⟩ prog_3_method_1_code 1 none ∈ fhT := List.mem_filter.mpr ⟨List.mem_of_getElem? (i := 120) (by decide +kernel), by decide +kernel⟩
theorem k_ml_ER_3 : Cond.methodLink "RunStore$EntryReader" 3 ⟨"java/lang/Object", "<init>", "()V"⟩ ∈ fhT := List.mem_filter.mpr ⟨List.mem_of_getElem? (i := 121) (by decide +kernel), by decide +kernel⟩
theorem k_fl_LG_9 : Cond.fieldLink "RunStore$Log" 9 "RunStore$Log" "bytes" "[B" ∈ fhT := List.mem_filter.mpr ⟨List.mem_of_getElem? (i := 122) (by decide +kernel), by decide +kernel⟩
theorem k_fl_LG_15 : Cond.fieldLink "RunStore$Log" 15 "RunStore$Log" "used" "I" ∈ fhT := List.mem_filter.mpr ⟨List.mem_of_getElem? (i := 123) (by decide +kernel), by decide +kernel⟩
theorem k_fl_RS_188 : Cond.fieldLinkNest "RunStore" 188 "RunStore$Log" "used" "I" "RunStore" ∈ fhT := List.mem_filter.mpr ⟨List.mem_of_getElem? (i := 124) (by decide +kernel), by decide +kernel⟩
theorem k_fl_LG_36 : Cond.fieldLink "RunStore$Log" 36 "RunStore$Log" "at" "I" ∈ fhT := List.mem_filter.mpr ⟨List.mem_of_getElem? (i := 125) (by decide +kernel), by decide +kernel⟩
theorem k_fl_LG_57 : Cond.fieldLink "RunStore$Log" 57 "RunStore$Log" "entrySum" "I" ∈ fhT := List.mem_filter.mpr ⟨List.mem_of_getElem? (i := 126) (by decide +kernel), by decide +kernel⟩
theorem k_fl_TR_43 : Cond.fieldLink "RunStore$TableReader" 43 "RunStore$TableReader" "key" "J" ∈ fhT := List.mem_filter.mpr ⟨List.mem_of_getElem? (i := 127) (by decide +kernel), by decide +kernel⟩
theorem k_sf_TR_key : Cond.sameField "RunStore$TableReader" "RunStore$EntryReader" "key" "J" ∈ fhT := List.mem_filter.mpr ⟨List.mem_of_getElem? (i := 128) (by decide +kernel), by decide +kernel⟩
theorem k_fl_ER_9 : Cond.fieldLink "RunStore$EntryReader" 9 "RunStore$EntryReader" "key" "J" ∈ fhT := List.mem_filter.mpr ⟨List.mem_of_getElem? (i := 129) (by decide +kernel), by decide +kernel⟩
theorem k_fl_LG_43 : Cond.fieldLink "RunStore$Log" 43 "RunStore$Log" "key" "J" ∈ fhT := List.mem_filter.mpr ⟨List.mem_of_getElem? (i := 130) (by decide +kernel), by decide +kernel⟩
theorem k_sf_LG_key : Cond.sameField "RunStore$Log" "RunStore$EntryReader" "key" "J" ∈ fhT := List.mem_filter.mpr ⟨List.mem_of_getElem? (i := 131) (by decide +kernel), by decide +kernel⟩
theorem k_fl_ER_15 : Cond.fieldLink "RunStore$EntryReader" 15 "RunStore$EntryReader" "size" "I" ∈ fhT := List.mem_filter.mpr ⟨List.mem_of_getElem? (i := 132) (by decide +kernel), by decide +kernel⟩
theorem k_fl_TR_47 : Cond.fieldLink "RunStore$TableReader" 47 "RunStore$TableReader" "size" "I" ∈ fhT := List.mem_filter.mpr ⟨List.mem_of_getElem? (i := 133) (by decide +kernel), by decide +kernel⟩
theorem k_sf_TR_size : Cond.sameField "RunStore$TableReader" "RunStore$EntryReader" "size" "I" ∈ fhT := List.mem_filter.mpr ⟨List.mem_of_getElem? (i := 134) (by decide +kernel), by decide +kernel⟩
theorem k_fl_LG_47 : Cond.fieldLink "RunStore$Log" 47 "RunStore$Log" "size" "I" ∈ fhT := List.mem_filter.mpr ⟨List.mem_of_getElem? (i := 135) (by decide +kernel), by decide +kernel⟩
theorem k_sf_LG_size : Cond.sameField "RunStore$Log" "RunStore$EntryReader" "size" "I" ∈ fhT := List.mem_filter.mpr ⟨List.mem_of_getElem? (i := 136) (by decide +kernel), by decide +kernel⟩
theorem k_fl_RS_257 : Cond.fieldLink "RunStore" 257 "RunStore$TableReader" "size" "I" ∈ fhT := List.mem_filter.mpr ⟨List.mem_of_getElem? (i := 137) (by decide +kernel), by decide +kernel⟩
theorem k_fl_ER_19 : Cond.fieldLink "RunStore$EntryReader" 19 "RunStore$EntryReader" "value" "J" ∈ fhT := List.mem_filter.mpr ⟨List.mem_of_getElem? (i := 138) (by decide +kernel), by decide +kernel⟩
theorem k_fl_TR_50 : Cond.fieldLink "RunStore$TableReader" 50 "RunStore$TableReader" "value" "J" ∈ fhT := List.mem_filter.mpr ⟨List.mem_of_getElem? (i := 139) (by decide +kernel), by decide +kernel⟩
theorem k_sf_TR_value : Cond.sameField "RunStore$TableReader" "RunStore$EntryReader" "value" "J" ∈ fhT := List.mem_filter.mpr ⟨List.mem_of_getElem? (i := 140) (by decide +kernel), by decide +kernel⟩
theorem k_fl_LG_50 : Cond.fieldLink "RunStore$Log" 50 "RunStore$Log" "value" "J" ∈ fhT := List.mem_filter.mpr ⟨List.mem_of_getElem? (i := 141) (by decide +kernel), by decide +kernel⟩
theorem k_sf_LG_value : Cond.sameField "RunStore$Log" "RunStore$EntryReader" "value" "J" ∈ fhT := List.mem_filter.mpr ⟨List.mem_of_getElem? (i := 142) (by decide +kernel), by decide +kernel⟩
theorem k_fl_RS_260 : Cond.fieldLink "RunStore" 260 "RunStore$TableReader" "value" "J" ∈ fhT := List.mem_filter.mpr ⟨List.mem_of_getElem? (i := 143) (by decide +kernel), by decide +kernel⟩
theorem k_ac_byte : Cond.arrayClass .byte ∈ fhT := List.mem_filter.mpr ⟨List.mem_of_getElem? (i := 159) (by decide +kernel), by decide +kernel⟩
theorem k_cl_RS_31 : Cond.classLink "RunStore" 31 "RunStore$Blocks" ∈ fhT := List.mem_filter.mpr ⟨List.mem_of_getElem? (i := 160) (by decide +kernel), by decide +kernel⟩
theorem k_it_BL : Cond.instantiable "RunStore$Blocks" 4 ∈ fhT := List.mem_filter.mpr ⟨List.mem_of_getElem? (i := 161) (by decide +kernel), by decide +kernel⟩
theorem k_ml_RS_33 : Cond.methodLink "RunStore" 33 ⟨"RunStore$Blocks", "<init>", "(I)V"⟩ ∈ fhT := List.mem_filter.mpr ⟨List.mem_of_getElem? (i := 162) (by decide +kernel), by decide +kernel⟩
theorem k_im_BL_init : Cond.instanceMethod ⟨"RunStore$Blocks", "<init>", "(I)V"⟩ ∈ fhT := List.mem_filter.mpr ⟨List.mem_of_getElem? (i := 163) (by decide +kernel), by decide +kernel⟩
theorem k_cd_BL_init : Cond.code ⟨"RunStore$Blocks", "<init>", "(I)V"⟩ prog_2_method_1_code 3 none ∈ fhT := List.mem_filter.mpr ⟨List.mem_of_getElem? (i := 164) (by decide +kernel), by decide +kernel⟩
theorem k_ml_BL_3 : Cond.methodLink "RunStore$Blocks" 3 ⟨"java/lang/Object", "<init>", "()V"⟩ ∈ fhT := List.mem_filter.mpr ⟨List.mem_of_getElem? (i := 165) (by decide +kernel), by decide +kernel⟩
theorem k_fl_BL_9 : Cond.fieldLink "RunStore$Blocks" 9 "RunStore$Blocks" "bytes" "[B" ∈ fhT := List.mem_filter.mpr ⟨List.mem_of_getElem? (i := 166) (by decide +kernel), by decide +kernel⟩
theorem k_fl_BL_15 : Cond.fieldLink "RunStore$Blocks" 15 "RunStore$Blocks" "sums" "[I" ∈ fhT := List.mem_filter.mpr ⟨List.mem_of_getElem? (i := 167) (by decide +kernel), by decide +kernel⟩
theorem k_fl_RS_185 : Cond.fieldLinkNest "RunStore" 185 "RunStore$Blocks" "sums" "[I" "RunStore" ∈ fhT := List.mem_filter.mpr ⟨List.mem_of_getElem? (i := 168) (by decide +kernel), by decide +kernel⟩
theorem k_fl_BL_19 : Cond.fieldLink "RunStore$Blocks" 19 "RunStore$Blocks" "turns" "[I" ∈ fhT := List.mem_filter.mpr ⟨List.mem_of_getElem? (i := 169) (by decide +kernel), by decide +kernel⟩
theorem k_fl_BL_86 : Cond.fieldLink "RunStore$Blocks" 86 "RunStore$Blocks" "inspected" "I" ∈ fhT := List.mem_filter.mpr ⟨List.mem_of_getElem? (i := 170) (by decide +kernel), by decide +kernel⟩
theorem k_fl_RS_213 : Cond.fieldLinkNest "RunStore" 213 "RunStore$Blocks" "inspected" "I" "RunStore" ∈ fhT := List.mem_filter.mpr ⟨List.mem_of_getElem? (i := 171) (by decide +kernel), by decide +kernel⟩
theorem k_cl_RS_38 : Cond.classLink "RunStore" 38 "RunStore$TableReader" ∈ fhT := List.mem_filter.mpr ⟨List.mem_of_getElem? (i := 181) (by decide +kernel), by decide +kernel⟩
theorem k_it_TR : Cond.instantiable "RunStore$TableReader" 8 ∈ fhT := List.mem_filter.mpr ⟨List.mem_of_getElem? (i := 182) (by decide +kernel), by decide +kernel⟩
theorem k_ml_RS_40 : Cond.methodLink "RunStore" 40 ⟨"RunStore$TableReader", "<init>", "(LRunStore$Blocks;)V"⟩ ∈ fhT := List.mem_filter.mpr ⟨List.mem_of_getElem? (i := 183) (by decide +kernel), by decide +kernel⟩
theorem k_im_TR_init : Cond.instanceMethod ⟨"RunStore$TableReader", "<init>", "(LRunStore$Blocks;)V"⟩ ∈ fhT := List.mem_filter.mpr ⟨List.mem_of_getElem? (i := 184) (by decide +kernel), by decide +kernel⟩
theorem k_cd_TR_init : Cond.code ⟨"RunStore$TableReader", "<init>", "(LRunStore$Blocks;)V"⟩ prog_7_method_1_code 2 none ∈ fhT := List.mem_filter.mpr ⟨List.mem_of_getElem? (i := 185) (by decide +kernel), by decide +kernel⟩
theorem k_ml_TR_3 : Cond.methodLinkNest "RunStore$TableReader" 3 ⟨"RunStore$EntryReader", "<init>", "()V"⟩ "RunStore" ∈ fhT := List.mem_filter.mpr ⟨List.mem_of_getElem? (i := 186) (by decide +kernel), by decide +kernel⟩
theorem k_fl_TR_9 : Cond.fieldLink "RunStore$TableReader" 9 "RunStore$TableReader" "store" "LRunStore$Blocks;" ∈ fhT := List.mem_filter.mpr ⟨List.mem_of_getElem? (i := 187) (by decide +kernel), by decide +kernel⟩
theorem k_fl_TR_19 : Cond.fieldLink "RunStore$TableReader" 19 "RunStore$TableReader" "table" "LRunStore$Table;" ∈ fhT := List.mem_filter.mpr ⟨List.mem_of_getElem? (i := 188) (by decide +kernel), by decide +kernel⟩
theorem k_fl_TR_23 : Cond.fieldLink "RunStore$TableReader" 23 "RunStore$TableReader" "inspecting" "Z" ∈ fhT := List.mem_filter.mpr ⟨List.mem_of_getElem? (i := 189) (by decide +kernel), by decide +kernel⟩
theorem k_fl_TR_27 : Cond.fieldLink "RunStore$TableReader" 27 "RunStore$TableReader" "at" "I" ∈ fhT := List.mem_filter.mpr ⟨List.mem_of_getElem? (i := 190) (by decide +kernel), by decide +kernel⟩
theorem k_fl_TR_15 : Cond.fieldLink "RunStore$TableReader" 15 "RunStore$TableReader" "fault" "I" ∈ fhT := List.mem_filter.mpr ⟨List.mem_of_getElem? (i := 191) (by decide +kernel), by decide +kernel⟩
theorem k_fl_RS_263 : Cond.fieldLinkNest "RunStore" 263 "RunStore$TableReader" "fault" "I" "RunStore" ∈ fhT := List.mem_filter.mpr ⟨List.mem_of_getElem? (i := 192) (by decide +kernel), by decide +kernel⟩
theorem k_cl_RS_47 : Cond.classLink "RunStore" 47 "RunStore$Table" ∈ fhT := List.mem_filter.mpr ⟨List.mem_of_getElem? (i := 207) (by decide +kernel), by decide +kernel⟩
theorem k_ao : Cond.arrayOver (.object "RunStore$Table") ∈ fhT := List.mem_filter.mpr ⟨List.mem_of_getElem? (i := 208) (by decide +kernel), by decide +kernel⟩
theorem k_fl_RS_20 : Cond.fieldLink "RunStore" 20 "RunStore" "memory" "LRunStore$Rows;" ∈ fhT := List.mem_filter.mpr ⟨List.mem_of_getElem? (i := 209) (by decide +kernel), by decide +kernel⟩
theorem k_fl_RS_27 : Cond.fieldLink "RunStore" 27 "RunStore" "log" "LRunStore$Log;" ∈ fhT := List.mem_filter.mpr ⟨List.mem_of_getElem? (i := 210) (by decide +kernel), by decide +kernel⟩
theorem k_fl_RS_34 : Cond.fieldLink "RunStore" 34 "RunStore" "store" "LRunStore$Blocks;" ∈ fhT := List.mem_filter.mpr ⟨List.mem_of_getElem? (i := 211) (by decide +kernel), by decide +kernel⟩
theorem k_fl_RS_43 : Cond.fieldLink "RunStore" 43 "RunStore" "reader" "LRunStore$TableReader;" ∈ fhT := List.mem_filter.mpr ⟨List.mem_of_getElem? (i := 212) (by decide +kernel), by decide +kernel⟩
theorem k_fl_RS_49 : Cond.fieldLink "RunStore" 49 "RunStore" "tables" "[LRunStore$Table;" ∈ fhT := List.mem_filter.mpr ⟨List.mem_of_getElem? (i := 213) (by decide +kernel), by decide +kernel⟩
theorem k_fl_RS_83 : Cond.fieldLink "RunStore" 83 "RunStore" "tableCount" "I" ∈ fhT := List.mem_filter.mpr ⟨List.mem_of_getElem? (i := 214) (by decide +kernel), by decide +kernel⟩
theorem k_fl_RS_53 : Cond.fieldLink "RunStore" 53 "RunStore" "gathered" "LRunStore$Rows;" ∈ fhT := List.mem_filter.mpr ⟨List.mem_of_getElem? (i := 215) (by decide +kernel), by decide +kernel⟩
theorem k_fl_RS_135 : Cond.fieldLink "RunStore" 135 "RunStore" "soughtValue" "J" ∈ fhT := List.mem_filter.mpr ⟨List.mem_of_getElem? (i := 216) (by decide +kernel), by decide +kernel⟩
theorem k_fl_RS_216 : Cond.fieldLink "RunStore" 216 "RunStore" "passedBy" "I" ∈ fhT := List.mem_filter.mpr ⟨List.mem_of_getElem? (i := 217) (by decide +kernel), by decide +kernel⟩
theorem k_fl_RS_56 : Cond.fieldLink "RunStore" 56 "RunStore" "bad" "I" ∈ fhT := List.mem_filter.mpr ⟨List.mem_of_getElem? (i := 218) (by decide +kernel), by decide +kernel⟩
theorem k_ml_LW_133 : Cond.methodLink "RunStoreLaw" 133 ⟨"RunStore", "badAt", "()I"⟩ ∈ fhT := List.mem_filter.mpr ⟨List.mem_of_getElem? (i := 240) (by decide +kernel), by decide +kernel⟩
theorem k_im_RS_badAt : Cond.instanceMethod ⟨"RunStore", "badAt", "()I"⟩ ∈ fhT := List.mem_filter.mpr ⟨List.mem_of_getElem? (i := 241) (by decide +kernel), by decide +kernel⟩
theorem k_se_RS_badAt : Cond.selects "RunStore" ⟨"RunStore", "badAt", "()I"⟩ ⟨"RunStore", "badAt", "()I"⟩ ∈ fhT := List.mem_filter.mpr ⟨List.mem_of_getElem? (i := 242) (by decide +kernel), by decide +kernel⟩
theorem k_cd_RS_badAt : Cond.code ⟨"RunStore", "badAt", "()I"⟩ prog_1_method_16_code 1 (some .int) ∈ fhT := List.mem_filter.mpr ⟨List.mem_of_getElem? (i := 243) (by decide +kernel), by decide +kernel⟩
theorem k_ml_LW_137 : Cond.methodLink "RunStoreLaw" 137 ⟨"RunStore", "check", "()I"⟩ ∈ fhT := List.mem_filter.mpr ⟨List.mem_of_getElem? (i := 244) (by decide +kernel), by decide +kernel⟩
theorem k_im_RS_check : Cond.instanceMethod ⟨"RunStore", "check", "()I"⟩ ∈ fhT := List.mem_filter.mpr ⟨List.mem_of_getElem? (i := 245) (by decide +kernel), by decide +kernel⟩
theorem k_se_RS_check : Cond.selects "RunStore" ⟨"RunStore", "check", "()I"⟩ ⟨"RunStore", "check", "()I"⟩ ∈ fhT := List.mem_filter.mpr ⟨List.mem_of_getElem? (i := 246) (by decide +kernel), by decide +kernel⟩
theorem k_cd_RS_check : Cond.code ⟨"RunStore", "check", "()I"⟩ prog_1_method_17_code 1 (some .int) ∈ fhT := List.mem_filter.mpr ⟨List.mem_of_getElem? (i := 247) (by decide +kernel), by decide +kernel⟩
theorem k_ml_RS_206 : Cond.methodLink "RunStore" 206 ⟨"RunStore$Blocks", "lowestWrong", "()I"⟩ ∈ fhT := List.mem_filter.mpr ⟨List.mem_of_getElem? (i := 248) (by decide +kernel), by decide +kernel⟩
theorem k_im_BL_lowestWrong : Cond.instanceMethod ⟨"RunStore$Blocks", "lowestWrong", "()I"⟩ ∈ fhT := List.mem_filter.mpr ⟨List.mem_of_getElem? (i := 249) (by decide +kernel), by decide +kernel⟩
theorem k_se_BL_lowestWrong : Cond.selects "RunStore$Blocks" ⟨"RunStore$Blocks", "lowestWrong", "()I"⟩ ⟨"RunStore$Blocks", "lowestWrong", "()I"⟩ ∈ fhT := List.mem_filter.mpr ⟨List.mem_of_getElem? (i := 250) (by decide +kernel), by decide +kernel⟩
theorem k_cd_BL_lowestWrong : Cond.code ⟨"RunStore$Blocks", "lowestWrong", "()I"⟩ prog_2_method_12_code 2 (some .int) ∈ fhT := List.mem_filter.mpr ⟨List.mem_of_getElem? (i := 251) (by decide +kernel), by decide +kernel⟩
theorem k_ml_BL_58 : Cond.methodLink "RunStore$Blocks" 58 ⟨"RunStore$Blocks", "sumOf", "(I)I"⟩ ∈ fhT := List.mem_filter.mpr ⟨List.mem_of_getElem? (i := 252) (by decide +kernel), by decide +kernel⟩
theorem k_im_BL_sumOf : Cond.instanceMethod ⟨"RunStore$Blocks", "sumOf", "(I)I"⟩ ∈ fhT := List.mem_filter.mpr ⟨List.mem_of_getElem? (i := 254) (by decide +kernel), by decide +kernel⟩
theorem k_cd_BL_sumOf : Cond.code ⟨"RunStore$Blocks", "sumOf", "(I)I"⟩ prog_2_method_13_code 6 (some .int) ∈ fhT := List.mem_filter.mpr ⟨List.mem_of_getElem? (i := 255) (by decide +kernel), by decide +kernel⟩
theorem k_ct_BL_92 : Cond.constant "RunStore$Blocks" 92 374761393 ∈ fhT := List.mem_filter.mpr ⟨List.mem_of_getElem? (i := 256) (by decide +kernel), by decide +kernel⟩
theorem k_ml_LW_141 : Cond.methodLink "RunStoreLaw" 141 ⟨"RunStore", "count", "(I)I"⟩ ∈ fhT := List.mem_filter.mpr ⟨List.mem_of_getElem? (i := 257) (by decide +kernel), by decide +kernel⟩
theorem k_im_RS_count : Cond.instanceMethod ⟨"RunStore", "count", "(I)I"⟩ ∈ fhT := List.mem_filter.mpr ⟨List.mem_of_getElem? (i := 258) (by decide +kernel), by decide +kernel⟩
theorem k_se_RS_count : Cond.selects "RunStore" ⟨"RunStore", "count", "(I)I"⟩ ⟨"RunStore", "count", "(I)I"⟩ ∈ fhT := List.mem_filter.mpr ⟨List.mem_of_getElem? (i := 259) (by decide +kernel), by decide +kernel⟩
theorem k_cd_RS_count : Cond.code ⟨"RunStore", "count", "(I)I"⟩ prog_1_method_18_code 2 (some .int) ∈ fhT := List.mem_filter.mpr ⟨List.mem_of_getElem? (i := 260) (by decide +kernel), by decide +kernel⟩
theorem k_ml_RS_210 : Cond.methodLink "RunStore" 210 ⟨"RunStore$Blocks", "freeCount", "()I"⟩ ∈ fhT := List.mem_filter.mpr ⟨List.mem_of_getElem? (i := 261) (by decide +kernel), by decide +kernel⟩
theorem k_im_BL_freeCount : Cond.instanceMethod ⟨"RunStore$Blocks", "freeCount", "()I"⟩ ∈ fhT := List.mem_filter.mpr ⟨List.mem_of_getElem? (i := 262) (by decide +kernel), by decide +kernel⟩
theorem k_se_BL_freeCount : Cond.selects "RunStore$Blocks" ⟨"RunStore$Blocks", "freeCount", "()I"⟩ ⟨"RunStore$Blocks", "freeCount", "()I"⟩ ∈ fhT := List.mem_filter.mpr ⟨List.mem_of_getElem? (i := 263) (by decide +kernel), by decide +kernel⟩
theorem k_cd_BL_freeCount : Cond.code ⟨"RunStore$Blocks", "freeCount", "()I"⟩ prog_2_method_5_code 3 (some .int) ∈ fhT := List.mem_filter.mpr ⟨List.mem_of_getElem? (i := 264) (by decide +kernel), by decide +kernel⟩
theorem k_ml_RS_219 : Cond.methodLink "RunStore" 219 ⟨"RunStore", "entriesOfTables", "()I"⟩ ∈ fhT := List.mem_filter.mpr ⟨List.mem_of_getElem? (i := 265) (by decide +kernel), by decide +kernel⟩
theorem k_im_RS_entriesOfTables : Cond.instanceMethod ⟨"RunStore", "entriesOfTables", "()I"⟩ ∈ fhT := List.mem_filter.mpr ⟨List.mem_of_getElem? (i := 267) (by decide +kernel), by decide +kernel⟩
theorem k_cd_RS_entriesOfTables : Cond.code ⟨"RunStore", "entriesOfTables", "()I"⟩ prog_1_method_28_code 3 (some .int) ∈ fhT := List.mem_filter.mpr ⟨List.mem_of_getElem? (i := 268) (by decide +kernel), by decide +kernel⟩
theorem k_ml_LW_67 : Cond.methodLink "RunStoreLaw" 67 ⟨"RunStoreLaw", "cell", "([II)I"⟩ ∈ fhT := List.mem_filter.mpr ⟨List.mem_of_getElem? (i := 269) (by decide +kernel), by decide +kernel⟩
theorem k_st_LW_cell : Cond.static ⟨"RunStoreLaw", "cell", "([II)I"⟩ ∈ fhT := List.mem_filter.mpr ⟨List.mem_of_getElem? (i := 270) (by decide +kernel), by decide +kernel⟩
theorem k_cd_LW_cell : Cond.code ⟨"RunStoreLaw", "cell", "([II)I"⟩ method_2_code 2 (some .int) ∈ fhT := List.mem_filter.mpr ⟨List.mem_of_getElem? (i := 271) (by decide +kernel), by decide +kernel⟩
theorem k_ml_LW_81 : Cond.methodLink "RunStoreLaw" 81 ⟨"RunStoreLaw", "put", "(LRunStore;JJI[J)I"⟩ ∈ fhT := List.mem_filter.mpr ⟨List.mem_of_getElem? (i := 272) (by decide +kernel), by decide +kernel⟩
theorem k_st_LW_put : Cond.static ⟨"RunStoreLaw", "put", "(LRunStore;JJI[J)I"⟩ ∈ fhT := List.mem_filter.mpr ⟨List.mem_of_getElem? (i := 273) (by decide +kernel), by decide +kernel⟩
theorem k_cd_LW_put : Cond.codeWith ⟨"RunStoreLaw", "put", "(LRunStore;JJI[J)I"⟩ method_3_code 8 (some .int) [(0, 13, 16, 13), (0, 13, 20, 15)] ∈ fhT := List.mem_filter.mpr ⟨List.mem_of_getElem? (i := 274) (by decide +kernel), by decide +kernel⟩
theorem k_cl_LW_13 : Cond.classLink "RunStoreLaw" 13 "java/lang/IllegalArgumentException" ∈ fhT := List.mem_filter.mpr ⟨List.mem_of_getElem? (i := 275) (by decide +kernel), by decide +kernel⟩
theorem k_cl_LW_15 : Cond.classLink "RunStoreLaw" 15 "java/lang/UnsupportedOperationException" ∈ fhT := List.mem_filter.mpr ⟨List.mem_of_getElem? (i := 276) (by decide +kernel), by decide +kernel⟩
theorem k_ml_LW_7 : Cond.methodLink "RunStoreLaw" 7 ⟨"RunStore", "put", "(JJI)I"⟩ ∈ fhT := List.mem_filter.mpr ⟨List.mem_of_getElem? (i := 277) (by decide +kernel), by decide +kernel⟩
theorem k_im_RS_put : Cond.instanceMethod ⟨"RunStore", "put", "(JJI)I"⟩ ∈ fhT := List.mem_filter.mpr ⟨List.mem_of_getElem? (i := 278) (by decide +kernel), by decide +kernel⟩
theorem k_se_RS_put : Cond.selects "RunStore" ⟨"RunStore", "put", "(JJI)I"⟩ ⟨"RunStore", "put", "(JJI)I"⟩ ∈ fhT := List.mem_filter.mpr ⟨List.mem_of_getElem? (i := 279) (by decide +kernel), by decide +kernel⟩
theorem k_cd_RS_put : Cond.code ⟨"RunStore", "put", "(JJI)I"⟩ prog_1_method_2_code 6 (some .int) ∈ fhT := List.mem_filter.mpr ⟨List.mem_of_getElem? (i := 280) (by decide +kernel), by decide +kernel⟩
theorem k_cl_RS_60 : Cond.classLink "RunStore" 60 "java/lang/IllegalArgumentException" ∈ fhT := List.mem_filter.mpr ⟨List.mem_of_getElem? (i := 281) (by decide +kernel), by decide +kernel⟩
theorem k_it_EA : Cond.instantiable "java/lang/IllegalArgumentException" 6 ∈ fhT := List.mem_filter.mpr ⟨List.mem_of_getElem? (i := 282) (by decide +kernel), by decide +kernel⟩
theorem k_sr_RS_62 : Cond.stringRef "RunStore" 62 "a value has 0 to 8 bytes" ∈ fhT := List.mem_filter.mpr ⟨List.mem_of_getElem? (i := 323) (by decide +kernel), by decide +kernel⟩
theorem k_ml_RS_64 : Cond.methodLink "RunStore" 64 ⟨"java/lang/IllegalArgumentException", "<init>", "(Ljava/lang/String;)V"⟩ ∈ fhT := List.mem_filter.mpr ⟨List.mem_of_getElem? (i := 324) (by decide +kernel), by decide +kernel⟩
theorem k_ml_RS_67 : Cond.methodLink "RunStore" 67 ⟨"RunStore", "lowestBytes", "(JI)J"⟩ ∈ fhT := List.mem_filter.mpr ⟨List.mem_of_getElem? (i := 349) (by decide +kernel), by decide +kernel⟩
theorem k_st_RS_lowestBytes : Cond.static ⟨"RunStore", "lowestBytes", "(JI)J"⟩ ∈ fhT := List.mem_filter.mpr ⟨List.mem_of_getElem? (i := 350) (by decide +kernel), by decide +kernel⟩
theorem k_cd_RS_lowestBytes : Cond.code ⟨"RunStore", "lowestBytes", "(JI)J"⟩ prog_1_method_31_code 3 (some .long) ∈ fhT := List.mem_filter.mpr ⟨List.mem_of_getElem? (i := 351) (by decide +kernel), by decide +kernel⟩
theorem k_ml_RS_71 : Cond.methodLink "RunStore" 71 ⟨"RunStore", "enter", "(JIJ)I"⟩ ∈ fhT := List.mem_filter.mpr ⟨List.mem_of_getElem? (i := 352) (by decide +kernel), by decide +kernel⟩
theorem k_im_RS_enter : Cond.instanceMethod ⟨"RunStore", "enter", "(JIJ)I"⟩ ∈ fhT := List.mem_filter.mpr ⟨List.mem_of_getElem? (i := 354) (by decide +kernel), by decide +kernel⟩
theorem k_cd_RS_enter : Cond.code ⟨"RunStore", "enter", "(JIJ)I"⟩ prog_1_method_19_code 6 (some .int) ∈ fhT := List.mem_filter.mpr ⟨List.mem_of_getElem? (i := 355) (by decide +kernel), by decide +kernel⟩
theorem k_ml_RS_222 : Cond.methodLink "RunStore" 222 ⟨"RunStore$Rows", "takes", "(J)Z"⟩ ∈ fhT := List.mem_filter.mpr ⟨List.mem_of_getElem? (i := 356) (by decide +kernel), by decide +kernel⟩
theorem k_im_RW_takes : Cond.instanceMethod ⟨"RunStore$Rows", "takes", "(J)Z"⟩ ∈ fhT := List.mem_filter.mpr ⟨List.mem_of_getElem? (i := 357) (by decide +kernel), by decide +kernel⟩
theorem k_se_RW_takes : Cond.selects "RunStore$Rows" ⟨"RunStore$Rows", "takes", "(J)Z"⟩ ⟨"RunStore$Rows", "takes", "(J)Z"⟩ ∈ fhT := List.mem_filter.mpr ⟨List.mem_of_getElem? (i := 358) (by decide +kernel), by decide +kernel⟩
theorem k_cd_RW_takes : Cond.code ⟨"RunStore$Rows", "takes", "(J)Z"⟩ prog_5_method_4_code 3 (some .boolean) ∈ fhT := List.mem_filter.mpr ⟨List.mem_of_getElem? (i := 359) (by decide +kernel), by decide +kernel⟩
theorem k_ml_RW_26 : Cond.methodLink "RunStore$Rows" 26 ⟨"RunStore$Rows", "placeOf", "(J)I"⟩ ∈ fhT := List.mem_filter.mpr ⟨List.mem_of_getElem? (i := 360) (by decide +kernel), by decide +kernel⟩
theorem k_im_RW_placeOf : Cond.instanceMethod ⟨"RunStore$Rows", "placeOf", "(J)I"⟩ ∈ fhT := List.mem_filter.mpr ⟨List.mem_of_getElem? (i := 361) (by decide +kernel), by decide +kernel⟩
theorem k_se_RW_placeOf : Cond.selects "RunStore$Rows" ⟨"RunStore$Rows", "placeOf", "(J)I"⟩ ⟨"RunStore$Rows", "placeOf", "(J)I"⟩ ∈ fhT := List.mem_filter.mpr ⟨List.mem_of_getElem? (i := 362) (by decide +kernel), by decide +kernel⟩
theorem k_cd_RW_placeOf : Cond.code ⟨"RunStore$Rows", "placeOf", "(J)I"⟩ prog_5_method_3_code 7 (some .int) ∈ fhT := List.mem_filter.mpr ⟨List.mem_of_getElem? (i := 363) (by decide +kernel), by decide +kernel⟩
theorem k_cl_RS_86 : Cond.classLink "RunStore" 86 "java/lang/UnsupportedOperationException" ∈ fhT := List.mem_filter.mpr ⟨List.mem_of_getElem? (i := 364) (by decide +kernel), by decide +kernel⟩
theorem k_it_EU : Cond.instantiable "java/lang/UnsupportedOperationException" 6 ∈ fhT := List.mem_filter.mpr ⟨List.mem_of_getElem? (i := 365) (by decide +kernel), by decide +kernel⟩
theorem k_sr_RS_225 : Cond.stringRef "RunStore" 225 "memory has as many keys as it may have" ∈ fhT := List.mem_filter.mpr ⟨List.mem_of_getElem? (i := 373) (by decide +kernel), by decide +kernel⟩
theorem k_ml_RS_90 : Cond.methodLink "RunStore" 90 ⟨"java/lang/UnsupportedOperationException", "<init>", "(Ljava/lang/String;)V"⟩ ∈ fhT := List.mem_filter.mpr ⟨List.mem_of_getElem? (i := 374) (by decide +kernel), by decide +kernel⟩
theorem k_ml_RS_227 : Cond.methodLink "RunStore" 227 ⟨"RunStore$Log", "takes", "(I)Z"⟩ ∈ fhT := List.mem_filter.mpr ⟨List.mem_of_getElem? (i := 380) (by decide +kernel), by decide +kernel⟩
theorem k_im_LG_takes : Cond.instanceMethod ⟨"RunStore$Log", "takes", "(I)Z"⟩ ∈ fhT := List.mem_filter.mpr ⟨List.mem_of_getElem? (i := 381) (by decide +kernel), by decide +kernel⟩
theorem k_se_LG_takes : Cond.selects "RunStore$Log" ⟨"RunStore$Log", "takes", "(I)Z"⟩ ⟨"RunStore$Log", "takes", "(I)Z"⟩ ∈ fhT := List.mem_filter.mpr ⟨List.mem_of_getElem? (i := 382) (by decide +kernel), by decide +kernel⟩
theorem k_cd_LG_takes : Cond.code ⟨"RunStore$Log", "takes", "(I)Z"⟩ prog_4_method_4_code 2 (some .boolean) ∈ fhT := List.mem_filter.mpr ⟨List.mem_of_getElem? (i := 383) (by decide +kernel), by decide +kernel⟩
theorem k_ml_LG_19 : Cond.methodLinkNest "RunStore$Log" 19 ⟨"RunStore", "entryBytes", "(I)I"⟩ "RunStore" ∈ fhT := List.mem_filter.mpr ⟨List.mem_of_getElem? (i := 384) (by decide +kernel), by decide +kernel⟩
theorem k_st_RS_entryBytes : Cond.static ⟨"RunStore", "entryBytes", "(I)I"⟩ ∈ fhT := List.mem_filter.mpr ⟨List.mem_of_getElem? (i := 385) (by decide +kernel), by decide +kernel⟩
theorem k_cd_RS_entryBytes : Cond.code ⟨"RunStore", "entryBytes", "(I)I"⟩ prog_1_method_32_code 1 (some .int) ∈ fhT := List.mem_filter.mpr ⟨List.mem_of_getElem? (i := 386) (by decide +kernel), by decide +kernel⟩
theorem k_sr_RS_229 : Cond.stringRef "RunStore" 229 "the log has no room" ∈ fhT := List.mem_filter.mpr ⟨List.mem_of_getElem? (i := 387) (by decide +kernel), by decide +kernel⟩
theorem k_ml_RS_231 : Cond.methodLink "RunStore" 231 ⟨"RunStore$Log", "append", "(JIJ)V"⟩ ∈ fhT := List.mem_filter.mpr ⟨List.mem_of_getElem? (i := 388) (by decide +kernel), by decide +kernel⟩
theorem k_im_LG_append : Cond.instanceMethod ⟨"RunStore$Log", "append", "(JIJ)V"⟩ ∈ fhT := List.mem_filter.mpr ⟨List.mem_of_getElem? (i := 389) (by decide +kernel), by decide +kernel⟩
theorem k_se_LG_append : Cond.selects "RunStore$Log" ⟨"RunStore$Log", "append", "(JIJ)V"⟩ ⟨"RunStore$Log", "append", "(JIJ)V"⟩ ∈ fhT := List.mem_filter.mpr ⟨List.mem_of_getElem? (i := 390) (by decide +kernel), by decide +kernel⟩
theorem k_cd_LG_append : Cond.code ⟨"RunStore$Log", "append", "(JIJ)V"⟩ prog_4_method_5_code 10 none ∈ fhT := List.mem_filter.mpr ⟨List.mem_of_getElem? (i := 391) (by decide +kernel), by decide +kernel⟩
theorem k_ml_LG_23 : Cond.methodLinkNest "RunStore$Log" 23 ⟨"RunStore", "entryByte", "(JIJI)I"⟩ "RunStore" ∈ fhT := List.mem_filter.mpr ⟨List.mem_of_getElem? (i := 392) (by decide +kernel), by decide +kernel⟩
theorem k_st_RS_entryByte : Cond.static ⟨"RunStore", "entryByte", "(JIJI)I"⟩ ∈ fhT := List.mem_filter.mpr ⟨List.mem_of_getElem? (i := 393) (by decide +kernel), by decide +kernel⟩
theorem k_cd_RS_entryByte : Cond.code ⟨"RunStore", "entryByte", "(JIJI)I"⟩ prog_1_method_33_code 6 (some .int) ∈ fhT := List.mem_filter.mpr ⟨List.mem_of_getElem? (i := 394) (by decide +kernel), by decide +kernel⟩
theorem k_ml_RS_287 : Cond.methodLink "RunStore" 287 ⟨"RunStore", "entryBytes", "(I)I"⟩ ∈ fhT := List.mem_filter.mpr ⟨List.mem_of_getElem? (i := 395) (by decide +kernel), by decide +kernel⟩
theorem k_ml_LG_27 : Cond.methodLink "RunStore$Log" 27 ⟨"RunStore$Log", "appendByte", "(I)V"⟩ ∈ fhT := List.mem_filter.mpr ⟨List.mem_of_getElem? (i := 396) (by decide +kernel), by decide +kernel⟩
theorem k_im_LG_appendByte : Cond.instanceMethod ⟨"RunStore$Log", "appendByte", "(I)V"⟩ ∈ fhT := List.mem_filter.mpr ⟨List.mem_of_getElem? (i := 398) (by decide +kernel), by decide +kernel⟩
theorem k_cd_LG_appendByte : Cond.code ⟨"RunStore$Log", "appendByte", "(I)V"⟩ prog_4_method_6_code 2 none ∈ fhT := List.mem_filter.mpr ⟨List.mem_of_getElem? (i := 399) (by decide +kernel), by decide +kernel⟩
theorem k_ml_RS_235 : Cond.methodLink "RunStore" 235 ⟨"RunStore$Rows", "set", "(JIJ)Z"⟩ ∈ fhT := List.mem_filter.mpr ⟨List.mem_of_getElem? (i := 400) (by decide +kernel), by decide +kernel⟩
theorem k_im_RW_set : Cond.instanceMethod ⟨"RunStore$Rows", "set", "(JIJ)Z"⟩ ∈ fhT := List.mem_filter.mpr ⟨List.mem_of_getElem? (i := 401) (by decide +kernel), by decide +kernel⟩
theorem k_se_RW_set : Cond.selects "RunStore$Rows" ⟨"RunStore$Rows", "set", "(JIJ)Z"⟩ ⟨"RunStore$Rows", "set", "(JIJ)Z"⟩ ∈ fhT := List.mem_filter.mpr ⟨List.mem_of_getElem? (i := 402) (by decide +kernel), by decide +kernel⟩
theorem k_cd_RW_set : Cond.code ⟨"RunStore$Rows", "set", "(JIJ)Z"⟩ prog_5_method_5_code 7 (some .boolean) ∈ fhT := List.mem_filter.mpr ⟨List.mem_of_getElem? (i := 403) (by decide +kernel), by decide +kernel⟩
theorem k_ml_RW_30 : Cond.methodLink "RunStore$Rows" 30 ⟨"RunStore$Rows", "insert", "(IJIJ)Z"⟩ ∈ fhT := List.mem_filter.mpr ⟨List.mem_of_getElem? (i := 404) (by decide +kernel), by decide +kernel⟩
theorem k_im_RW_insert : Cond.instanceMethod ⟨"RunStore$Rows", "insert", "(IJIJ)Z"⟩ ∈ fhT := List.mem_filter.mpr ⟨List.mem_of_getElem? (i := 406) (by decide +kernel), by decide +kernel⟩
theorem k_cd_RW_insert : Cond.code ⟨"RunStore$Rows", "insert", "(IJIJ)Z"⟩ prog_5_method_8_code 7 (some .boolean) ∈ fhT := List.mem_filter.mpr ⟨List.mem_of_getElem? (i := 407) (by decide +kernel), by decide +kernel⟩
theorem k_ml_RW_38 : Cond.methodLink "RunStore$Rows" 38 ⟨"java/lang/System", "arraycopy", "(Ljava/lang/Object;ILjava/lang/Object;II)V"⟩ ∈ fhT := List.mem_filter.mpr ⟨List.mem_of_getElem? (i := 408) (by decide +kernel), by decide +kernel⟩
theorem k_st_SY_arraycopy : Cond.static ⟨"java/lang/System", "arraycopy", "(Ljava/lang/Object;ILjava/lang/Object;II)V"⟩ ∈ fhT := List.mem_filter.mpr ⟨List.mem_of_getElem? (i := 409) (by decide +kernel), by decide +kernel⟩
theorem k_nt_SY_arraycopy : Cond.native ⟨"java/lang/System", "arraycopy", "(Ljava/lang/Object;ILjava/lang/Object;II)V"⟩ ∈ fhT := List.mem_filter.mpr ⟨List.mem_of_getElem? (i := 410) (by decide +kernel), by decide +kernel⟩
theorem k_ml_RW_44 : Cond.methodLink "RunStore$Rows" 44 ⟨"RunStore$Rows", "write", "(IJIJ)V"⟩ ∈ fhT := List.mem_filter.mpr ⟨List.mem_of_getElem? (i := 411) (by decide +kernel), by decide +kernel⟩
theorem k_im_RW_write : Cond.instanceMethod ⟨"RunStore$Rows", "write", "(IJIJ)V"⟩ ∈ fhT := List.mem_filter.mpr ⟨List.mem_of_getElem? (i := 413) (by decide +kernel), by decide +kernel⟩
theorem k_cd_RW_write : Cond.code ⟨"RunStore$Rows", "write", "(IJIJ)V"⟩ prog_5_method_9_code 7 none ∈ fhT := List.mem_filter.mpr ⟨List.mem_of_getElem? (i := 414) (by decide +kernel), by decide +kernel⟩
theorem k_ml_LW_88 : Cond.methodLink "RunStoreLaw" 88 ⟨"RunStoreLaw", "drop", "(LRunStore;J[J)I"⟩ ∈ fhT := List.mem_filter.mpr ⟨List.mem_of_getElem? (i := 415) (by decide +kernel), by decide +kernel⟩
theorem k_st_LW_drop : Cond.static ⟨"RunStoreLaw", "drop", "(LRunStore;J[J)I"⟩ ∈ fhT := List.mem_filter.mpr ⟨List.mem_of_getElem? (i := 416) (by decide +kernel), by decide +kernel⟩
theorem k_cd_LW_drop : Cond.codeWith ⟨"RunStoreLaw", "drop", "(LRunStore;J[J)I"⟩ method_4_code 5 (some .int) [(0, 9, 12, 15)] ∈ fhT := List.mem_filter.mpr ⟨List.mem_of_getElem? (i := 417) (by decide +kernel), by decide +kernel⟩
theorem k_ml_LW_17 : Cond.methodLink "RunStoreLaw" 17 ⟨"RunStore", "drop", "(J)I"⟩ ∈ fhT := List.mem_filter.mpr ⟨List.mem_of_getElem? (i := 418) (by decide +kernel), by decide +kernel⟩
theorem k_im_RS_drop : Cond.instanceMethod ⟨"RunStore", "drop", "(J)I"⟩ ∈ fhT := List.mem_filter.mpr ⟨List.mem_of_getElem? (i := 419) (by decide +kernel), by decide +kernel⟩
theorem k_se_RS_drop : Cond.selects "RunStore" ⟨"RunStore", "drop", "(J)I"⟩ ⟨"RunStore", "drop", "(J)I"⟩ ∈ fhT := List.mem_filter.mpr ⟨List.mem_of_getElem? (i := 420) (by decide +kernel), by decide +kernel⟩
theorem k_cd_RS_drop : Cond.code ⟨"RunStore", "drop", "(J)I"⟩ prog_1_method_3_code 3 (some .int) ∈ fhT := List.mem_filter.mpr ⟨List.mem_of_getElem? (i := 421) (by decide +kernel), by decide +kernel⟩
theorem k_ml_LW_92 : Cond.methodLink "RunStoreLaw" 92 ⟨"RunStoreLaw", "flush", "(LRunStore;[J)I"⟩ ∈ fhT := List.mem_filter.mpr ⟨List.mem_of_getElem? (i := 422) (by decide +kernel), by decide +kernel⟩
theorem k_st_LW_flush : Cond.static ⟨"RunStoreLaw", "flush", "(LRunStore;[J)I"⟩ ∈ fhT := List.mem_filter.mpr ⟨List.mem_of_getElem? (i := 423) (by decide +kernel), by decide +kernel⟩
theorem k_cd_LW_flush : Cond.codeWith ⟨"RunStoreLaw", "flush", "(LRunStore;[J)I"⟩ method_5_code 3 (some .int) [(0, 8, 11, 25), (0, 8, 14, 15)] ∈ fhT := List.mem_filter.mpr ⟨List.mem_of_getElem? (i := 424) (by decide +kernel), by decide +kernel⟩
theorem k_cl_LW_25 : Cond.classLink "RunStoreLaw" 25 "java/lang/IllegalStateException" ∈ fhT := List.mem_filter.mpr ⟨List.mem_of_getElem? (i := 425) (by decide +kernel), by decide +kernel⟩
theorem k_ml_LW_21 : Cond.methodLink "RunStoreLaw" 21 ⟨"RunStore", "flush", "()I"⟩ ∈ fhT := List.mem_filter.mpr ⟨List.mem_of_getElem? (i := 426) (by decide +kernel), by decide +kernel⟩
theorem k_im_RS_flush : Cond.instanceMethod ⟨"RunStore", "flush", "()I"⟩ ∈ fhT := List.mem_filter.mpr ⟨List.mem_of_getElem? (i := 427) (by decide +kernel), by decide +kernel⟩
theorem k_se_RS_flush : Cond.selects "RunStore" ⟨"RunStore", "flush", "()I"⟩ ⟨"RunStore", "flush", "()I"⟩ ∈ fhT := List.mem_filter.mpr ⟨List.mem_of_getElem? (i := 428) (by decide +kernel), by decide +kernel⟩
theorem k_cd_RS_flush : Cond.code ⟨"RunStore", "flush", "()I"⟩ prog_1_method_4_code 2 (some .int) ∈ fhT := List.mem_filter.mpr ⟨List.mem_of_getElem? (i := 429) (by decide +kernel), by decide +kernel⟩
theorem k_cl_RS_78 : Cond.classLink "RunStore" 78 "java/lang/IllegalStateException" ∈ fhT := List.mem_filter.mpr ⟨List.mem_of_getElem? (i := 430) (by decide +kernel), by decide +kernel⟩
theorem k_it_ES : Cond.instantiable "java/lang/IllegalStateException" 6 ∈ fhT := List.mem_filter.mpr ⟨List.mem_of_getElem? (i := 431) (by decide +kernel), by decide +kernel⟩
theorem k_sr_RS_80 : Cond.stringRef "RunStore" 80 "memory has no keys" ∈ fhT := List.mem_filter.mpr ⟨List.mem_of_getElem? (i := 439) (by decide +kernel), by decide +kernel⟩
theorem k_ml_RS_82 : Cond.methodLink "RunStore" 82 ⟨"java/lang/IllegalStateException", "<init>", "(Ljava/lang/String;)V"⟩ ∈ fhT := List.mem_filter.mpr ⟨List.mem_of_getElem? (i := 440) (by decide +kernel), by decide +kernel⟩
theorem k_sr_RS_88 : Cond.stringRef "RunStore" 88 "there are as many tables as there may be" ∈ fhT := List.mem_filter.mpr ⟨List.mem_of_getElem? (i := 446) (by decide +kernel), by decide +kernel⟩
theorem k_ml_RS_91 : Cond.methodLink "RunStore" 91 ⟨"RunStore$Blocks", "writeTable", "(ILRunStore$Rows;)LRunStore$Table;"⟩ ∈ fhT := List.mem_filter.mpr ⟨List.mem_of_getElem? (i := 447) (by decide +kernel), by decide +kernel⟩
theorem k_im_BL_writeTable : Cond.instanceMethod ⟨"RunStore$Blocks", "writeTable", "(ILRunStore$Rows;)LRunStore$Table;"⟩ ∈ fhT := List.mem_filter.mpr ⟨List.mem_of_getElem? (i := 448) (by decide +kernel), by decide +kernel⟩
theorem k_se_BL_writeTable : Cond.selects "RunStore$Blocks" ⟨"RunStore$Blocks", "writeTable", "(ILRunStore$Rows;)LRunStore$Table;"⟩ ⟨"RunStore$Blocks", "writeTable", "(ILRunStore$Rows;)LRunStore$Table;"⟩ ∈ fhT := List.mem_filter.mpr ⟨List.mem_of_getElem? (i := 449) (by decide +kernel), by decide +kernel⟩
theorem k_cd_BL_writeTable : Cond.code ⟨"RunStore$Blocks", "writeTable", "(ILRunStore$Rows;)LRunStore$Table;"⟩ prog_2_method_6_code 7 (some (.object "RunStore$Table")) ∈ fhT := List.mem_filter.mpr ⟨List.mem_of_getElem? (i := 450) (by decide +kernel), by decide +kernel⟩
theorem k_ml_BL_26 : Cond.methodLink "RunStore$Blocks" 26 ⟨"RunStore$Rows", "bytes", "()I"⟩ ∈ fhT := List.mem_filter.mpr ⟨List.mem_of_getElem? (i := 451) (by decide +kernel), by decide +kernel⟩
theorem k_im_RW_bytes : Cond.instanceMethod ⟨"RunStore$Rows", "bytes", "()I"⟩ ∈ fhT := List.mem_filter.mpr ⟨List.mem_of_getElem? (i := 452) (by decide +kernel), by decide +kernel⟩
theorem k_se_RW_bytes : Cond.selects "RunStore$Rows" ⟨"RunStore$Rows", "bytes", "()I"⟩ ⟨"RunStore$Rows", "bytes", "()I"⟩ ∈ fhT := List.mem_filter.mpr ⟨List.mem_of_getElem? (i := 453) (by decide +kernel), by decide +kernel⟩
theorem k_cd_RW_bytes : Cond.code ⟨"RunStore$Rows", "bytes", "()I"⟩ prog_5_method_12_code 3 (some .int) ∈ fhT := List.mem_filter.mpr ⟨List.mem_of_getElem? (i := 454) (by decide +kernel), by decide +kernel⟩
theorem k_ml_RW_48 : Cond.methodLinkNest "RunStore$Rows" 48 ⟨"RunStore", "entryBytes", "(I)I"⟩ "RunStore" ∈ fhT := List.mem_filter.mpr ⟨List.mem_of_getElem? (i := 455) (by decide +kernel), by decide +kernel⟩
theorem k_ml_BL_31 : Cond.methodLink "RunStore$Blocks" 31 ⟨"RunStore$Blocks", "freeCount", "()I"⟩ ∈ fhT := List.mem_filter.mpr ⟨List.mem_of_getElem? (i := 456) (by decide +kernel), by decide +kernel⟩
theorem k_cl_BL_34 : Cond.classLink "RunStore$Blocks" 34 "RunStore$Table" ∈ fhT := List.mem_filter.mpr ⟨List.mem_of_getElem? (i := 457) (by decide +kernel), by decide +kernel⟩
theorem k_it_TB : Cond.instantiable "RunStore$Table" 4 ∈ fhT := List.mem_filter.mpr ⟨List.mem_of_getElem? (i := 458) (by decide +kernel), by decide +kernel⟩
theorem k_ml_BL_40 : Cond.methodLink "RunStore$Blocks" 40 ⟨"RunStore$Rows", "filter", "()J"⟩ ∈ fhT := List.mem_filter.mpr ⟨List.mem_of_getElem? (i := 459) (by decide +kernel), by decide +kernel⟩
theorem k_im_RW_filter : Cond.instanceMethod ⟨"RunStore$Rows", "filter", "()J"⟩ ∈ fhT := List.mem_filter.mpr ⟨List.mem_of_getElem? (i := 460) (by decide +kernel), by decide +kernel⟩
theorem k_se_RW_filter : Cond.selects "RunStore$Rows" ⟨"RunStore$Rows", "filter", "()J"⟩ ⟨"RunStore$Rows", "filter", "()J"⟩ ∈ fhT := List.mem_filter.mpr ⟨List.mem_of_getElem? (i := 461) (by decide +kernel), by decide +kernel⟩
theorem k_cd_RW_filter : Cond.code ⟨"RunStore$Rows", "filter", "()J"⟩ prog_5_method_13_code 4 (some .long) ∈ fhT := List.mem_filter.mpr ⟨List.mem_of_getElem? (i := 462) (by decide +kernel), by decide +kernel⟩
theorem k_ml_RW_52 : Cond.methodLinkNest "RunStore$Rows" 52 ⟨"RunStore", "filterBits", "(J)J"⟩ "RunStore" ∈ fhT := List.mem_filter.mpr ⟨List.mem_of_getElem? (i := 463) (by decide +kernel), by decide +kernel⟩
theorem k_st_RS_filterBits : Cond.static ⟨"RunStore", "filterBits", "(J)J"⟩ ∈ fhT := List.mem_filter.mpr ⟨List.mem_of_getElem? (i := 464) (by decide +kernel), by decide +kernel⟩
theorem k_cd_RS_filterBits : Cond.code ⟨"RunStore", "filterBits", "(J)J"⟩ prog_1_method_34_code 4 (some .long) ∈ fhT := List.mem_filter.mpr ⟨List.mem_of_getElem? (i := 465) (by decide +kernel), by decide +kernel⟩
theorem k_ct_RS_290 : Cond.constantLong "RunStore" 290 (-7046029254386353131) ∈ fhT := List.mem_filter.mpr ⟨List.mem_of_getElem? (i := 466) (by decide +kernel), by decide +kernel⟩
theorem k_ct_RS_292 : Cond.constantLong "RunStore" 292 63 ∈ fhT := List.mem_filter.mpr ⟨List.mem_of_getElem? (i := 467) (by decide +kernel), by decide +kernel⟩
theorem k_ml_BL_44 : Cond.methodLink "RunStore$Blocks" 44 ⟨"RunStore$Blocks", "take", "(I)[I"⟩ ∈ fhT := List.mem_filter.mpr ⟨List.mem_of_getElem? (i := 468) (by decide +kernel), by decide +kernel⟩
theorem k_im_BL_take : Cond.instanceMethod ⟨"RunStore$Blocks", "take", "(I)[I"⟩ ∈ fhT := List.mem_filter.mpr ⟨List.mem_of_getElem? (i := 470) (by decide +kernel), by decide +kernel⟩
theorem k_cd_BL_take : Cond.code ⟨"RunStore$Blocks", "take", "(I)[I"⟩ prog_2_method_7_code 5 (some (.array .int)) ∈ fhT := List.mem_filter.mpr ⟨List.mem_of_getElem? (i := 471) (by decide +kernel), by decide +kernel⟩
theorem k_ml_BL_48 : Cond.methodLink "RunStore$Blocks" 48 ⟨"RunStore$Table", "<init>", "(IIJ[I)V"⟩ ∈ fhT := List.mem_filter.mpr ⟨List.mem_of_getElem? (i := 472) (by decide +kernel), by decide +kernel⟩
theorem k_im_TB_init : Cond.instanceMethod ⟨"RunStore$Table", "<init>", "(IIJ[I)V"⟩ ∈ fhT := List.mem_filter.mpr ⟨List.mem_of_getElem? (i := 473) (by decide +kernel), by decide +kernel⟩
theorem k_cd_TB_init : Cond.code ⟨"RunStore$Table", "<init>", "(IIJ[I)V"⟩ prog_6_method_1_code 6 none ∈ fhT := List.mem_filter.mpr ⟨List.mem_of_getElem? (i := 474) (by decide +kernel), by decide +kernel⟩
theorem k_ml_TB_3 : Cond.methodLink "RunStore$Table" 3 ⟨"java/lang/Object", "<init>", "()V"⟩ ∈ fhT := List.mem_filter.mpr ⟨List.mem_of_getElem? (i := 475) (by decide +kernel), by decide +kernel⟩
theorem k_fl_TB_9 : Cond.fieldLink "RunStore$Table" 9 "RunStore$Table" "level" "I" ∈ fhT := List.mem_filter.mpr ⟨List.mem_of_getElem? (i := 476) (by decide +kernel), by decide +kernel⟩
theorem k_fl_RS_155 : Cond.fieldLinkNest "RunStore" 155 "RunStore$Table" "level" "I" "RunStore" ∈ fhT := List.mem_filter.mpr ⟨List.mem_of_getElem? (i := 477) (by decide +kernel), by decide +kernel⟩
theorem k_fl_TB_15 : Cond.fieldLink "RunStore$Table" 15 "RunStore$Table" "entries" "I" ∈ fhT := List.mem_filter.mpr ⟨List.mem_of_getElem? (i := 478) (by decide +kernel), by decide +kernel⟩
theorem k_fl_TR_34 : Cond.fieldLinkNest "RunStore$TableReader" 34 "RunStore$Table" "entries" "I" "RunStore" ∈ fhT := List.mem_filter.mpr ⟨List.mem_of_getElem? (i := 479) (by decide +kernel), by decide +kernel⟩
theorem k_fl_RS_158 : Cond.fieldLinkNest "RunStore" 158 "RunStore$Table" "entries" "I" "RunStore" ∈ fhT := List.mem_filter.mpr ⟨List.mem_of_getElem? (i := 480) (by decide +kernel), by decide +kernel⟩
theorem k_fl_TB_18 : Cond.fieldLink "RunStore$Table" 18 "RunStore$Table" "filter" "J" ∈ fhT := List.mem_filter.mpr ⟨List.mem_of_getElem? (i := 481) (by decide +kernel), by decide +kernel⟩
theorem k_fl_TB_22 : Cond.fieldLink "RunStore$Table" 22 "RunStore$Table" "ids" "[I" ∈ fhT := List.mem_filter.mpr ⟨List.mem_of_getElem? (i := 482) (by decide +kernel), by decide +kernel⟩
theorem k_fl_RS_105 : Cond.fieldLinkNest "RunStore" 105 "RunStore$Table" "ids" "[I" "RunStore" ∈ fhT := List.mem_filter.mpr ⟨List.mem_of_getElem? (i := 483) (by decide +kernel), by decide +kernel⟩
theorem k_fl_TR_63 : Cond.fieldLinkNest "RunStore$TableReader" 63 "RunStore$Table" "ids" "[I" "RunStore" ∈ fhT := List.mem_filter.mpr ⟨List.mem_of_getElem? (i := 484) (by decide +kernel), by decide +kernel⟩
theorem k_fl_BL_55 : Cond.fieldLinkNest "RunStore$Blocks" 55 "RunStore$Table" "ids" "[I" "RunStore" ∈ fhT := List.mem_filter.mpr ⟨List.mem_of_getElem? (i := 485) (by decide +kernel), by decide +kernel⟩
theorem k_ml_BL_51 : Cond.methodLink "RunStore$Blocks" 51 ⟨"RunStore$Blocks", "fill", "(LRunStore$Table;LRunStore$Rows;)V"⟩ ∈ fhT := List.mem_filter.mpr ⟨List.mem_of_getElem? (i := 495) (by decide +kernel), by decide +kernel⟩
theorem k_im_BL_fill : Cond.instanceMethod ⟨"RunStore$Blocks", "fill", "(LRunStore$Table;LRunStore$Rows;)V"⟩ ∈ fhT := List.mem_filter.mpr ⟨List.mem_of_getElem? (i := 497) (by decide +kernel), by decide +kernel⟩
theorem k_cd_BL_fill : Cond.code ⟨"RunStore$Blocks", "fill", "(LRunStore$Table;LRunStore$Rows;)V"⟩ prog_2_method_8_code 9 none ∈ fhT := List.mem_filter.mpr ⟨List.mem_of_getElem? (i := 498) (by decide +kernel), by decide +kernel⟩
theorem k_ml_BL_65 : Cond.methodLinkNest "RunStore$Blocks" 65 ⟨"RunStore", "entryBytes", "(I)I"⟩ "RunStore" ∈ fhT := List.mem_filter.mpr ⟨List.mem_of_getElem? (i := 499) (by decide +kernel), by decide +kernel⟩
theorem k_ml_BL_75 : Cond.methodLinkNest "RunStore$Blocks" 75 ⟨"RunStore", "entryByte", "(JIJI)I"⟩ "RunStore" ∈ fhT := List.mem_filter.mpr ⟨List.mem_of_getElem? (i := 500) (by decide +kernel), by decide +kernel⟩
theorem k_ml_BL_79 : Cond.methodLink "RunStore$Blocks" 79 ⟨"RunStore$Table", "idAt", "(I)I"⟩ ∈ fhT := List.mem_filter.mpr ⟨List.mem_of_getElem? (i := 501) (by decide +kernel), by decide +kernel⟩
theorem k_im_TB_idAt : Cond.instanceMethod ⟨"RunStore$Table", "idAt", "(I)I"⟩ ∈ fhT := List.mem_filter.mpr ⟨List.mem_of_getElem? (i := 502) (by decide +kernel), by decide +kernel⟩
theorem k_se_TB_idAt : Cond.selects "RunStore$Table" ⟨"RunStore$Table", "idAt", "(I)I"⟩ ⟨"RunStore$Table", "idAt", "(I)I"⟩ ∈ fhT := List.mem_filter.mpr ⟨List.mem_of_getElem? (i := 503) (by decide +kernel), by decide +kernel⟩
theorem k_cd_TB_idAt : Cond.code ⟨"RunStore$Table", "idAt", "(I)I"⟩ prog_6_method_3_code 2 (some .int) ∈ fhT := List.mem_filter.mpr ⟨List.mem_of_getElem? (i := 504) (by decide +kernel), by decide +kernel⟩
theorem k_ml_BL_82 : Cond.methodLink "RunStore$Blocks" 82 ⟨"RunStore$Blocks", "writeByte", "(III)V"⟩ ∈ fhT := List.mem_filter.mpr ⟨List.mem_of_getElem? (i := 505) (by decide +kernel), by decide +kernel⟩
theorem k_im_BL_writeByte : Cond.instanceMethod ⟨"RunStore$Blocks", "writeByte", "(III)V"⟩ ∈ fhT := List.mem_filter.mpr ⟨List.mem_of_getElem? (i := 506) (by decide +kernel), by decide +kernel⟩
theorem k_se_BL_writeByte : Cond.selects "RunStore$Blocks" ⟨"RunStore$Blocks", "writeByte", "(III)V"⟩ ⟨"RunStore$Blocks", "writeByte", "(III)V"⟩ ∈ fhT := List.mem_filter.mpr ⟨List.mem_of_getElem? (i := 507) (by decide +kernel), by decide +kernel⟩
theorem k_cd_BL_writeByte : Cond.code ⟨"RunStore$Blocks", "writeByte", "(III)V"⟩ prog_2_method_4_code 4 none ∈ fhT := List.mem_filter.mpr ⟨List.mem_of_getElem? (i := 508) (by decide +kernel), by decide +kernel⟩
theorem k_ml_BL_22 : Cond.methodLink "RunStore$Blocks" 22 ⟨"RunStore$Blocks", "has", "(I)Z"⟩ ∈ fhT := List.mem_filter.mpr ⟨List.mem_of_getElem? (i := 509) (by decide +kernel), by decide +kernel⟩
theorem k_im_BL_has : Cond.instanceMethod ⟨"RunStore$Blocks", "has", "(I)Z"⟩ ∈ fhT := List.mem_filter.mpr ⟨List.mem_of_getElem? (i := 510) (by decide +kernel), by decide +kernel⟩
theorem k_se_BL_has : Cond.selects "RunStore$Blocks" ⟨"RunStore$Blocks", "has", "(I)Z"⟩ ⟨"RunStore$Blocks", "has", "(I)Z"⟩ ∈ fhT := List.mem_filter.mpr ⟨List.mem_of_getElem? (i := 511) (by decide +kernel), by decide +kernel⟩
theorem k_cd_BL_has : Cond.code ⟨"RunStore$Blocks", "has", "(I)Z"⟩ prog_2_method_2_code 2 (some .boolean) ∈ fhT := List.mem_filter.mpr ⟨List.mem_of_getElem? (i := 512) (by decide +kernel), by decide +kernel⟩
theorem k_sr_RS_95 : Cond.stringRef "RunStore" 95 "there are too few free blocks" ∈ fhT := List.mem_filter.mpr ⟨List.mem_of_getElem? (i := 513) (by decide +kernel), by decide +kernel⟩
theorem k_ml_RS_97 : Cond.methodLink "RunStore" 97 ⟨"RunStore", "insertTable", "(ILRunStore$Table;)V"⟩ ∈ fhT := List.mem_filter.mpr ⟨List.mem_of_getElem? (i := 514) (by decide +kernel), by decide +kernel⟩
theorem k_im_RS_insertTable : Cond.instanceMethod ⟨"RunStore", "insertTable", "(ILRunStore$Table;)V"⟩ ∈ fhT := List.mem_filter.mpr ⟨List.mem_of_getElem? (i := 516) (by decide +kernel), by decide +kernel⟩
theorem k_cd_RS_insertTable : Cond.code ⟨"RunStore", "insertTable", "(ILRunStore$Table;)V"⟩ prog_1_method_29_code 4 none ∈ fhT := List.mem_filter.mpr ⟨List.mem_of_getElem? (i := 517) (by decide +kernel), by decide +kernel⟩
theorem k_ml_RS_101 : Cond.methodLink "RunStore" 101 ⟨"RunStore$Rows", "empty", "()V"⟩ ∈ fhT := List.mem_filter.mpr ⟨List.mem_of_getElem? (i := 518) (by decide +kernel), by decide +kernel⟩
theorem k_im_RW_empty : Cond.instanceMethod ⟨"RunStore$Rows", "empty", "()V"⟩ ∈ fhT := List.mem_filter.mpr ⟨List.mem_of_getElem? (i := 519) (by decide +kernel), by decide +kernel⟩
theorem k_se_RW_empty : Cond.selects "RunStore$Rows" ⟨"RunStore$Rows", "empty", "()V"⟩ ⟨"RunStore$Rows", "empty", "()V"⟩ ∈ fhT := List.mem_filter.mpr ⟨List.mem_of_getElem? (i := 520) (by decide +kernel), by decide +kernel⟩
theorem k_cd_RW_empty : Cond.code ⟨"RunStore$Rows", "empty", "()V"⟩ prog_5_method_2_code 1 none ∈ fhT := List.mem_filter.mpr ⟨List.mem_of_getElem? (i := 521) (by decide +kernel), by decide +kernel⟩
theorem k_ml_RS_104 : Cond.methodLink "RunStore" 104 ⟨"RunStore$Log", "empty", "()V"⟩ ∈ fhT := List.mem_filter.mpr ⟨List.mem_of_getElem? (i := 522) (by decide +kernel), by decide +kernel⟩
theorem k_im_LG_empty : Cond.instanceMethod ⟨"RunStore$Log", "empty", "()V"⟩ ∈ fhT := List.mem_filter.mpr ⟨List.mem_of_getElem? (i := 523) (by decide +kernel), by decide +kernel⟩
theorem k_se_LG_empty : Cond.selects "RunStore$Log" ⟨"RunStore$Log", "empty", "()V"⟩ ⟨"RunStore$Log", "empty", "()V"⟩ ∈ fhT := List.mem_filter.mpr ⟨List.mem_of_getElem? (i := 524) (by decide +kernel), by decide +kernel⟩
theorem k_cd_LG_empty : Cond.code ⟨"RunStore$Log", "empty", "()V"⟩ prog_4_method_2_code 1 none ∈ fhT := List.mem_filter.mpr ⟨List.mem_of_getElem? (i := 525) (by decide +kernel), by decide +kernel⟩
theorem k_ml_LW_96 : Cond.methodLink "RunStoreLaw" 96 ⟨"RunStoreLaw", "join", "(LRunStore;I[J)I"⟩ ∈ fhT := List.mem_filter.mpr ⟨List.mem_of_getElem? (i := 526) (by decide +kernel), by decide +kernel⟩
theorem k_st_LW_join : Cond.static ⟨"RunStoreLaw", "join", "(LRunStore;I[J)I"⟩ ∈ fhT := List.mem_filter.mpr ⟨List.mem_of_getElem? (i := 527) (by decide +kernel), by decide +kernel⟩
theorem k_cd_LW_join : Cond.codeWith ⟨"RunStoreLaw", "join", "(LRunStore;I[J)I"⟩ method_6_code 4 (some .int) [(0, 9, 12, 13), (0, 9, 15, 25), (0, 9, 18, 15)] ∈ fhT := List.mem_filter.mpr ⟨List.mem_of_getElem? (i := 528) (by decide +kernel), by decide +kernel⟩
theorem k_ml_LW_27 : Cond.methodLink "RunStoreLaw" 27 ⟨"RunStore", "join", "(I)I"⟩ ∈ fhT := List.mem_filter.mpr ⟨List.mem_of_getElem? (i := 529) (by decide +kernel), by decide +kernel⟩
theorem k_im_RS_join : Cond.instanceMethod ⟨"RunStore", "join", "(I)I"⟩ ∈ fhT := List.mem_filter.mpr ⟨List.mem_of_getElem? (i := 530) (by decide +kernel), by decide +kernel⟩
theorem k_se_RS_join : Cond.selects "RunStore" ⟨"RunStore", "join", "(I)I"⟩ ⟨"RunStore", "join", "(I)I"⟩ ∈ fhT := List.mem_filter.mpr ⟨List.mem_of_getElem? (i := 531) (by decide +kernel), by decide +kernel⟩
theorem k_cd_RS_join : Cond.code ⟨"RunStore", "join", "(I)I"⟩ prog_1_method_5_code 5 (some .int) ∈ fhT := List.mem_filter.mpr ⟨List.mem_of_getElem? (i := 532) (by decide +kernel), by decide +kernel⟩
theorem k_sr_RS_109 : Cond.stringRef "RunStore" 109 "no level that has a next one" ∈ fhT := List.mem_filter.mpr ⟨List.mem_of_getElem? (i := 533) (by decide +kernel), by decide +kernel⟩
theorem k_ml_RS_111 : Cond.methodLink "RunStore" 111 ⟨"RunStore", "tablesUpTo", "(I)I"⟩ ∈ fhT := List.mem_filter.mpr ⟨List.mem_of_getElem? (i := 534) (by decide +kernel), by decide +kernel⟩
theorem k_im_RS_tablesUpTo : Cond.instanceMethod ⟨"RunStore", "tablesUpTo", "(I)I"⟩ ∈ fhT := List.mem_filter.mpr ⟨List.mem_of_getElem? (i := 536) (by decide +kernel), by decide +kernel⟩
theorem k_cd_RS_tablesUpTo : Cond.code ⟨"RunStore", "tablesUpTo", "(I)I"⟩ prog_1_method_27_code 4 (some .int) ∈ fhT := List.mem_filter.mpr ⟨List.mem_of_getElem? (i := 537) (by decide +kernel), by decide +kernel⟩
theorem k_sr_RS_115 : Cond.stringRef "RunStore" 115 "the level has no table" ∈ fhT := List.mem_filter.mpr ⟨List.mem_of_getElem? (i := 538) (by decide +kernel), by decide +kernel⟩
theorem k_ml_RS_117 : Cond.methodLink "RunStore" 117 ⟨"RunStore", "inspectTables", "(II)V"⟩ ∈ fhT := List.mem_filter.mpr ⟨List.mem_of_getElem? (i := 539) (by decide +kernel), by decide +kernel⟩
theorem k_im_RS_inspectTables : Cond.instanceMethod ⟨"RunStore", "inspectTables", "(II)V"⟩ ∈ fhT := List.mem_filter.mpr ⟨List.mem_of_getElem? (i := 541) (by decide +kernel), by decide +kernel⟩
theorem k_cd_RS_inspectTables : Cond.code ⟨"RunStore", "inspectTables", "(II)V"⟩ prog_1_method_22_code 5 none ∈ fhT := List.mem_filter.mpr ⟨List.mem_of_getElem? (i := 542) (by decide +kernel), by decide +kernel⟩
theorem k_ml_RS_269 : Cond.methodLink "RunStore" 269 ⟨"RunStore$Blocks", "firstWrong", "(LRunStore$Table;)I"⟩ ∈ fhT := List.mem_filter.mpr ⟨List.mem_of_getElem? (i := 543) (by decide +kernel), by decide +kernel⟩
theorem k_im_BL_firstWrong : Cond.instanceMethod ⟨"RunStore$Blocks", "firstWrong", "(LRunStore$Table;)I"⟩ ∈ fhT := List.mem_filter.mpr ⟨List.mem_of_getElem? (i := 544) (by decide +kernel), by decide +kernel⟩
theorem k_se_BL_firstWrong : Cond.selects "RunStore$Blocks" ⟨"RunStore$Blocks", "firstWrong", "(LRunStore$Table;)I"⟩ ⟨"RunStore$Blocks", "firstWrong", "(LRunStore$Table;)I"⟩ ∈ fhT := List.mem_filter.mpr ⟨List.mem_of_getElem? (i := 545) (by decide +kernel), by decide +kernel⟩
theorem k_cd_BL_firstWrong : Cond.code ⟨"RunStore$Blocks", "firstWrong", "(LRunStore$Table;)I"⟩ prog_2_method_11_code 3 (some .int) ∈ fhT := List.mem_filter.mpr ⟨List.mem_of_getElem? (i := 546) (by decide +kernel), by decide +kernel⟩
theorem k_ml_BL_89 : Cond.methodLink "RunStore$Blocks" 89 ⟨"RunStore$Blocks", "inspect", "(I)Z"⟩ ∈ fhT := List.mem_filter.mpr ⟨List.mem_of_getElem? (i := 547) (by decide +kernel), by decide +kernel⟩
theorem k_im_BL_inspect : Cond.instanceMethod ⟨"RunStore$Blocks", "inspect", "(I)Z"⟩ ∈ fhT := List.mem_filter.mpr ⟨List.mem_of_getElem? (i := 548) (by decide +kernel), by decide +kernel⟩
theorem k_se_BL_inspect : Cond.selects "RunStore$Blocks" ⟨"RunStore$Blocks", "inspect", "(I)Z"⟩ ⟨"RunStore$Blocks", "inspect", "(I)Z"⟩ ∈ fhT := List.mem_filter.mpr ⟨List.mem_of_getElem? (i := 549) (by decide +kernel), by decide +kernel⟩
theorem k_cd_BL_inspect : Cond.code ⟨"RunStore$Blocks", "inspect", "(I)Z"⟩ prog_2_method_10_code 2 (some .boolean) ∈ fhT := List.mem_filter.mpr ⟨List.mem_of_getElem? (i := 550) (by decide +kernel), by decide +kernel⟩
theorem k_ml_RS_266 : Cond.methodLink "RunStore" 266 ⟨"RunStore", "refuseFault", "(I)V"⟩ ∈ fhT := List.mem_filter.mpr ⟨List.mem_of_getElem? (i := 551) (by decide +kernel), by decide +kernel⟩
theorem k_im_RS_refuseFault : Cond.instanceMethod ⟨"RunStore", "refuseFault", "(I)V"⟩ ∈ fhT := List.mem_filter.mpr ⟨List.mem_of_getElem? (i := 553) (by decide +kernel), by decide +kernel⟩
theorem k_cd_RS_refuseFault : Cond.code ⟨"RunStore", "refuseFault", "(I)V"⟩ prog_1_method_24_code 2 none ∈ fhT := List.mem_filter.mpr ⟨List.mem_of_getElem? (i := 554) (by decide +kernel), by decide +kernel⟩
theorem k_sr_RS_277 : Cond.stringRef "RunStore" 277 "a block was altered" ∈ fhT := List.mem_filter.mpr ⟨List.mem_of_getElem? (i := 555) (by decide +kernel), by decide +kernel⟩
theorem k_ml_RS_121 : Cond.methodLink "RunStore" 121 ⟨"RunStore", "gatherTables", "(IIZ)V"⟩ ∈ fhT := List.mem_filter.mpr ⟨List.mem_of_getElem? (i := 556) (by decide +kernel), by decide +kernel⟩
theorem k_im_RS_gatherTables : Cond.instanceMethod ⟨"RunStore", "gatherTables", "(IIZ)V"⟩ ∈ fhT := List.mem_filter.mpr ⟨List.mem_of_getElem? (i := 558) (by decide +kernel), by decide +kernel⟩
theorem k_cd_RS_gatherTables : Cond.code ⟨"RunStore", "gatherTables", "(IIZ)V"⟩ prog_1_method_23_code 6 none ∈ fhT := List.mem_filter.mpr ⟨List.mem_of_getElem? (i := 559) (by decide +kernel), by decide +kernel⟩
theorem k_ml_RS_273 : Cond.methodLink "RunStore" 273 ⟨"RunStore$TableReader", "gather", "(LRunStore$Table;ZLRunStore$Rows;)V"⟩ ∈ fhT := List.mem_filter.mpr ⟨List.mem_of_getElem? (i := 560) (by decide +kernel), by decide +kernel⟩
theorem k_im_TR_gather : Cond.instanceMethod ⟨"RunStore$TableReader", "gather", "(LRunStore$Table;ZLRunStore$Rows;)V"⟩ ∈ fhT := List.mem_filter.mpr ⟨List.mem_of_getElem? (i := 561) (by decide +kernel), by decide +kernel⟩
theorem k_se_TR_gather : Cond.selects "RunStore$TableReader" ⟨"RunStore$TableReader", "gather", "(LRunStore$Table;ZLRunStore$Rows;)V"⟩ ⟨"RunStore$TableReader", "gather", "(LRunStore$Table;ZLRunStore$Rows;)V"⟩ ∈ fhT := List.mem_filter.mpr ⟨List.mem_of_getElem? (i := 562) (by decide +kernel), by decide +kernel⟩
theorem k_cd_TR_gather : Cond.code ⟨"RunStore$TableReader", "gather", "(LRunStore$Table;ZLRunStore$Rows;)V"⟩ prog_7_method_4_code 5 none ∈ fhT := List.mem_filter.mpr ⟨List.mem_of_getElem? (i := 563) (by decide +kernel), by decide +kernel⟩
theorem k_ml_TR_30 : Cond.methodLink "RunStore$TableReader" 30 ⟨"RunStore$TableReader", "start", "(LRunStore$Table;Z)V"⟩ ∈ fhT := List.mem_filter.mpr ⟨List.mem_of_getElem? (i := 564) (by decide +kernel), by decide +kernel⟩
theorem k_im_TR_start : Cond.instanceMethod ⟨"RunStore$TableReader", "start", "(LRunStore$Table;Z)V"⟩ ∈ fhT := List.mem_filter.mpr ⟨List.mem_of_getElem? (i := 566) (by decide +kernel), by decide +kernel⟩
theorem k_cd_TR_start : Cond.code ⟨"RunStore$TableReader", "start", "(LRunStore$Table;Z)V"⟩ prog_7_method_2_code 3 none ∈ fhT := List.mem_filter.mpr ⟨List.mem_of_getElem? (i := 567) (by decide +kernel), by decide +kernel⟩
theorem k_ml_TR_39 : Cond.methodLink "RunStore$TableReader" 39 ⟨"RunStore$TableReader", "readEntry", "()Z"⟩ ∈ fhT := List.mem_filter.mpr ⟨List.mem_of_getElem? (i := 568) (by decide +kernel), by decide +kernel⟩
theorem k_sm_TR_readEntry : Cond.sameMethod "RunStore$TableReader" "RunStore$EntryReader" "readEntry" "()Z" ∈ fhT := List.mem_filter.mpr ⟨List.mem_of_getElem? (i := 569) (by decide +kernel), by decide +kernel⟩
theorem k_dc_ER_readEntry : Cond.declares ⟨"RunStore$EntryReader", "readEntry", "()Z"⟩ ∈ fhT := List.mem_filter.mpr ⟨List.mem_of_getElem? (i := 570) (by decide +kernel), by decide +kernel⟩
theorem k_sx_TR_readEntry : Cond.selects "RunStore$TableReader" ⟨"RunStore$TableReader", "readEntry", "()Z"⟩ ⟨"RunStore$EntryReader", "readEntry", "()Z"⟩ ∈ fhT := List.mem_filter.mpr ⟨List.mem_of_getElem? (i := 571) (by decide +kernel), by decide +kernel⟩
theorem k_im_ER_readEntry : Cond.instanceMethod ⟨"RunStore$EntryReader", "readEntry", "()Z"⟩ ∈ fhT := List.mem_filter.mpr ⟨List.mem_of_getElem? (i := 572) (by decide +kernel), by decide +kernel⟩
theorem k_cd_ER_readEntry : Cond.code ⟨"RunStore$EntryReader", "readEntry", "()Z"⟩ prog_3_method_4_code 4 (some .boolean) ∈ fhT := List.mem_filter.mpr ⟨List.mem_of_getElem? (i := 573) (by decide +kernel), by decide +kernel⟩
theorem k_ml_ER_22 : Cond.methodLink "RunStore$EntryReader" 22 ⟨"RunStore$EntryReader", "nextByte", "()I"⟩ ∈ fhT := List.mem_filter.mpr ⟨List.mem_of_getElem? (i := 574) (by decide +kernel), by decide +kernel⟩
theorem k_dc_ER_nextByte : Cond.declares ⟨"RunStore$EntryReader", "nextByte", "()I"⟩ ∈ fhT := List.mem_filter.mpr ⟨List.mem_of_getElem? (i := 575) (by decide +kernel), by decide +kernel⟩
theorem k_sm_ER_nextByte : Cond.sameMethod "RunStore$EntryReader" "RunStore$EntryReader" "nextByte" "()I" ∈ fhT := List.mem_filter.mpr ⟨List.mem_of_getElem? (i := 576) (by decide +kernel), by decide +kernel⟩
theorem k_sx_LG_nextByte : Cond.selects "RunStore$Log" ⟨"RunStore$EntryReader", "nextByte", "()I"⟩ ⟨"RunStore$Log", "nextByte", "()I"⟩ ∈ fhT := List.mem_filter.mpr ⟨List.mem_of_getElem? (i := 577) (by decide +kernel), by decide +kernel⟩
theorem k_im_LG_nextByte : Cond.instanceMethod ⟨"RunStore$Log", "nextByte", "()I"⟩ ∈ fhT := List.mem_filter.mpr ⟨List.mem_of_getElem? (i := 578) (by decide +kernel), by decide +kernel⟩
theorem k_cd_LG_nextByte : Cond.code ⟨"RunStore$Log", "nextByte", "()I"⟩ prog_4_method_11_code 2 (some .int) ∈ fhT := List.mem_filter.mpr ⟨List.mem_of_getElem? (i := 579) (by decide +kernel), by decide +kernel⟩
theorem k_ml_LG_67 : Cond.methodLink "RunStore$Log" 67 ⟨"RunStore$Log", "read", "(I)I"⟩ ∈ fhT := List.mem_filter.mpr ⟨List.mem_of_getElem? (i := 580) (by decide +kernel), by decide +kernel⟩
theorem k_im_LG_read : Cond.instanceMethod ⟨"RunStore$Log", "read", "(I)I"⟩ ∈ fhT := List.mem_filter.mpr ⟨List.mem_of_getElem? (i := 581) (by decide +kernel), by decide +kernel⟩
theorem k_se_LG_read : Cond.selects "RunStore$Log" ⟨"RunStore$Log", "read", "(I)I"⟩ ⟨"RunStore$Log", "read", "(I)I"⟩ ∈ fhT := List.mem_filter.mpr ⟨List.mem_of_getElem? (i := 582) (by decide +kernel), by decide +kernel⟩
theorem k_cd_LG_read : Cond.code ⟨"RunStore$Log", "read", "(I)I"⟩ prog_4_method_3_code 2 (some .int) ∈ fhT := List.mem_filter.mpr ⟨List.mem_of_getElem? (i := 583) (by decide +kernel), by decide +kernel⟩
theorem k_sx_TR_nextByte : Cond.selects "RunStore$TableReader" ⟨"RunStore$EntryReader", "nextByte", "()I"⟩ ⟨"RunStore$TableReader", "nextByte", "()I"⟩ ∈ fhT := List.mem_filter.mpr ⟨List.mem_of_getElem? (i := 584) (by decide +kernel), by decide +kernel⟩
theorem k_im_TR_nextByte : Cond.instanceMethod ⟨"RunStore$TableReader", "nextByte", "()I"⟩ ∈ fhT := List.mem_filter.mpr ⟨List.mem_of_getElem? (i := 585) (by decide +kernel), by decide +kernel⟩
theorem k_cd_TR_nextByte : Cond.code ⟨"RunStore$TableReader", "nextByte", "()I"⟩ prog_7_method_5_code 3 (some .int) ∈ fhT := List.mem_filter.mpr ⟨List.mem_of_getElem? (i := 586) (by decide +kernel), by decide +kernel⟩
theorem k_ml_TR_59 : Cond.methodLink "RunStore$TableReader" 59 ⟨"RunStore$Table", "idAt", "(I)I"⟩ ∈ fhT := List.mem_filter.mpr ⟨List.mem_of_getElem? (i := 587) (by decide +kernel), by decide +kernel⟩
theorem k_ml_TR_67 : Cond.methodLink "RunStore$TableReader" 67 ⟨"RunStore$Blocks", "inspect", "(I)Z"⟩ ∈ fhT := List.mem_filter.mpr ⟨List.mem_of_getElem? (i := 588) (by decide +kernel), by decide +kernel⟩
theorem k_ml_TR_73 : Cond.methodLink "RunStore$TableReader" 73 ⟨"RunStore$Blocks", "read", "(II)I"⟩ ∈ fhT := List.mem_filter.mpr ⟨List.mem_of_getElem? (i := 589) (by decide +kernel), by decide +kernel⟩
theorem k_im_BL_read : Cond.instanceMethod ⟨"RunStore$Blocks", "read", "(II)I"⟩ ∈ fhT := List.mem_filter.mpr ⟨List.mem_of_getElem? (i := 590) (by decide +kernel), by decide +kernel⟩
theorem k_se_BL_read : Cond.selects "RunStore$Blocks" ⟨"RunStore$Blocks", "read", "(II)I"⟩ ⟨"RunStore$Blocks", "read", "(II)I"⟩ ∈ fhT := List.mem_filter.mpr ⟨List.mem_of_getElem? (i := 591) (by decide +kernel), by decide +kernel⟩
theorem k_cd_BL_read : Cond.code ⟨"RunStore$Blocks", "read", "(II)I"⟩ prog_2_method_3_code 3 (some .int) ∈ fhT := List.mem_filter.mpr ⟨List.mem_of_getElem? (i := 592) (by decide +kernel), by decide +kernel⟩
theorem k_ml_ER_26 : Cond.methodLinkNest "RunStore$EntryReader" 26 ⟨"RunStore", "entryBytes", "(I)I"⟩ "RunStore" ∈ fhT := List.mem_filter.mpr ⟨List.mem_of_getElem? (i := 593) (by decide +kernel), by decide +kernel⟩
theorem k_ml_ER_30 : Cond.methodLink "RunStore$EntryReader" 30 ⟨"RunStore$EntryReader", "refuseLength", "()V"⟩ ∈ fhT := List.mem_filter.mpr ⟨List.mem_of_getElem? (i := 594) (by decide +kernel), by decide +kernel⟩
theorem k_dc_ER_refuseLength : Cond.declares ⟨"RunStore$EntryReader", "refuseLength", "()V"⟩ ∈ fhT := List.mem_filter.mpr ⟨List.mem_of_getElem? (i := 595) (by decide +kernel), by decide +kernel⟩
theorem k_sm_ER_refuseLength : Cond.sameMethod "RunStore$EntryReader" "RunStore$EntryReader" "refuseLength" "()V" ∈ fhT := List.mem_filter.mpr ⟨List.mem_of_getElem? (i := 596) (by decide +kernel), by decide +kernel⟩
theorem k_sx_LG_refuseLength : Cond.selects "RunStore$Log" ⟨"RunStore$EntryReader", "refuseLength", "()V"⟩ ⟨"RunStore$Log", "refuseLength", "()V"⟩ ∈ fhT := List.mem_filter.mpr ⟨List.mem_of_getElem? (i := 597) (by decide +kernel), by decide +kernel⟩
theorem k_im_LG_refuseLength : Cond.instanceMethod ⟨"RunStore$Log", "refuseLength", "()V"⟩ ∈ fhT := List.mem_filter.mpr ⟨List.mem_of_getElem? (i := 598) (by decide +kernel), by decide +kernel⟩
theorem k_cd_LG_refuseLength : Cond.code ⟨"RunStore$Log", "refuseLength", "()V"⟩ prog_4_method_12_code 1 none ∈ fhT := List.mem_filter.mpr ⟨List.mem_of_getElem? (i := 599) (by decide +kernel), by decide +kernel⟩
theorem k_sx_TR_refuseLength : Cond.selects "RunStore$TableReader" ⟨"RunStore$EntryReader", "refuseLength", "()V"⟩ ⟨"RunStore$TableReader", "refuseLength", "()V"⟩ ∈ fhT := List.mem_filter.mpr ⟨List.mem_of_getElem? (i := 600) (by decide +kernel), by decide +kernel⟩
theorem k_im_TR_refuseLength : Cond.instanceMethod ⟨"RunStore$TableReader", "refuseLength", "()V"⟩ ∈ fhT := List.mem_filter.mpr ⟨List.mem_of_getElem? (i := 601) (by decide +kernel), by decide +kernel⟩
theorem k_cd_TR_refuseLength : Cond.code ⟨"RunStore$TableReader", "refuseLength", "()V"⟩ prog_7_method_6_code 1 none ∈ fhT := List.mem_filter.mpr ⟨List.mem_of_getElem? (i := 602) (by decide +kernel), by decide +kernel⟩
theorem k_ml_TR_53 : Cond.methodLink "RunStore$TableReader" 53 ⟨"RunStore$Rows", "addMissing", "(JIJ)V"⟩ ∈ fhT := List.mem_filter.mpr ⟨List.mem_of_getElem? (i := 603) (by decide +kernel), by decide +kernel⟩
theorem k_im_RW_addMissing : Cond.instanceMethod ⟨"RunStore$Rows", "addMissing", "(JIJ)V"⟩ ∈ fhT := List.mem_filter.mpr ⟨List.mem_of_getElem? (i := 604) (by decide +kernel), by decide +kernel⟩
theorem k_se_RW_addMissing : Cond.selects "RunStore$Rows" ⟨"RunStore$Rows", "addMissing", "(JIJ)V"⟩ ⟨"RunStore$Rows", "addMissing", "(JIJ)V"⟩ ∈ fhT := List.mem_filter.mpr ⟨List.mem_of_getElem? (i := 605) (by decide +kernel), by decide +kernel⟩
theorem k_cd_RW_addMissing : Cond.code ⟨"RunStore$Rows", "addMissing", "(JIJ)V"⟩ prog_5_method_6_code 7 none ∈ fhT := List.mem_filter.mpr ⟨List.mem_of_getElem? (i := 606) (by decide +kernel), by decide +kernel⟩
theorem k_ml_RS_125 : Cond.methodLink "RunStore" 125 ⟨"RunStore$Rows", "removeMarks", "()V"⟩ ∈ fhT := List.mem_filter.mpr ⟨List.mem_of_getElem? (i := 607) (by decide +kernel), by decide +kernel⟩
theorem k_im_RW_removeMarks : Cond.instanceMethod ⟨"RunStore$Rows", "removeMarks", "()V"⟩ ∈ fhT := List.mem_filter.mpr ⟨List.mem_of_getElem? (i := 608) (by decide +kernel), by decide +kernel⟩
theorem k_se_RW_removeMarks : Cond.selects "RunStore$Rows" ⟨"RunStore$Rows", "removeMarks", "()V"⟩ ⟨"RunStore$Rows", "removeMarks", "()V"⟩ ∈ fhT := List.mem_filter.mpr ⟨List.mem_of_getElem? (i := 609) (by decide +kernel), by decide +kernel⟩
theorem k_cd_RW_removeMarks : Cond.code ⟨"RunStore$Rows", "removeMarks", "()V"⟩ prog_5_method_10_code 3 none ∈ fhT := List.mem_filter.mpr ⟨List.mem_of_getElem? (i := 610) (by decide +kernel), by decide +kernel⟩
theorem k_ml_RS_128 : Cond.methodLink "RunStore" 128 ⟨"RunStore", "removeTables", "(II)V"⟩ ∈ fhT := List.mem_filter.mpr ⟨List.mem_of_getElem? (i := 611) (by decide +kernel), by decide +kernel⟩
theorem k_im_RS_removeTables : Cond.instanceMethod ⟨"RunStore", "removeTables", "(II)V"⟩ ∈ fhT := List.mem_filter.mpr ⟨List.mem_of_getElem? (i := 613) (by decide +kernel), by decide +kernel⟩
theorem k_cd_RS_removeTables : Cond.code ⟨"RunStore", "removeTables", "(II)V"⟩ prog_1_method_30_code 5 none ∈ fhT := List.mem_filter.mpr ⟨List.mem_of_getElem? (i := 614) (by decide +kernel), by decide +kernel⟩
theorem k_ml_RS_283 : Cond.methodLink "RunStore" 283 ⟨"RunStore$Blocks", "free", "(LRunStore$Table;)V"⟩ ∈ fhT := List.mem_filter.mpr ⟨List.mem_of_getElem? (i := 615) (by decide +kernel), by decide +kernel⟩
theorem k_im_BL_free : Cond.instanceMethod ⟨"RunStore$Blocks", "free", "(LRunStore$Table;)V"⟩ ∈ fhT := List.mem_filter.mpr ⟨List.mem_of_getElem? (i := 616) (by decide +kernel), by decide +kernel⟩
theorem k_se_BL_free : Cond.selects "RunStore$Blocks" ⟨"RunStore$Blocks", "free", "(LRunStore$Table;)V"⟩ ⟨"RunStore$Blocks", "free", "(LRunStore$Table;)V"⟩ ∈ fhT := List.mem_filter.mpr ⟨List.mem_of_getElem? (i := 617) (by decide +kernel), by decide +kernel⟩
theorem k_cd_BL_free : Cond.code ⟨"RunStore$Blocks", "free", "(LRunStore$Table;)V"⟩ prog_2_method_9_code 4 none ∈ fhT := List.mem_filter.mpr ⟨List.mem_of_getElem? (i := 618) (by decide +kernel), by decide +kernel⟩
theorem k_ml_LW_100 : Cond.methodLink "RunStoreLaw" 100 ⟨"RunStoreLaw", "find", "(LRunStore;J[J)I"⟩ ∈ fhT := List.mem_filter.mpr ⟨List.mem_of_getElem? (i := 619) (by decide +kernel), by decide +kernel⟩
theorem k_st_LW_find : Cond.static ⟨"RunStoreLaw", "find", "(LRunStore;J[J)I"⟩ ∈ fhT := List.mem_filter.mpr ⟨List.mem_of_getElem? (i := 620) (by decide +kernel), by decide +kernel⟩
theorem k_cd_LW_find : Cond.codeWith ⟨"RunStoreLaw", "find", "(LRunStore;J[J)I"⟩ method_7_code 5 (some .int) [(0, 8, 11, 25)] ∈ fhT := List.mem_filter.mpr ⟨List.mem_of_getElem? (i := 621) (by decide +kernel), by decide +kernel⟩
theorem k_ml_LW_31 : Cond.methodLink "RunStoreLaw" 31 ⟨"RunStore", "find", "(J)J"⟩ ∈ fhT := List.mem_filter.mpr ⟨List.mem_of_getElem? (i := 622) (by decide +kernel), by decide +kernel⟩
theorem k_im_RS_find : Cond.instanceMethod ⟨"RunStore", "find", "(J)J"⟩ ∈ fhT := List.mem_filter.mpr ⟨List.mem_of_getElem? (i := 623) (by decide +kernel), by decide +kernel⟩
theorem k_se_RS_find : Cond.selects "RunStore" ⟨"RunStore", "find", "(J)J"⟩ ⟨"RunStore", "find", "(J)J"⟩ ∈ fhT := List.mem_filter.mpr ⟨List.mem_of_getElem? (i := 624) (by decide +kernel), by decide +kernel⟩
theorem k_cd_RS_find : Cond.code ⟨"RunStore", "find", "(J)J"⟩ prog_1_method_6_code 3 (some .long) ∈ fhT := List.mem_filter.mpr ⟨List.mem_of_getElem? (i := 625) (by decide +kernel), by decide +kernel⟩
theorem k_ml_RS_131 : Cond.methodLink "RunStore" 131 ⟨"RunStore", "seek", "(J)I"⟩ ∈ fhT := List.mem_filter.mpr ⟨List.mem_of_getElem? (i := 626) (by decide +kernel), by decide +kernel⟩
theorem k_im_RS_seek : Cond.instanceMethod ⟨"RunStore", "seek", "(J)I"⟩ ∈ fhT := List.mem_filter.mpr ⟨List.mem_of_getElem? (i := 628) (by decide +kernel), by decide +kernel⟩
theorem k_cd_RS_seek : Cond.code ⟨"RunStore", "seek", "(J)I"⟩ prog_1_method_20_code 6 (some .int) ∈ fhT := List.mem_filter.mpr ⟨List.mem_of_getElem? (i := 629) (by decide +kernel), by decide +kernel⟩
theorem k_ml_RS_239 : Cond.methodLink "RunStore" 239 ⟨"RunStore$Rows", "placeOf", "(J)I"⟩ ∈ fhT := List.mem_filter.mpr ⟨List.mem_of_getElem? (i := 630) (by decide +kernel), by decide +kernel⟩
theorem k_ml_RS_249 : Cond.methodLink "RunStore" 249 ⟨"RunStore", "sought", "(IJ)I"⟩ ∈ fhT := List.mem_filter.mpr ⟨List.mem_of_getElem? (i := 631) (by decide +kernel), by decide +kernel⟩
theorem k_im_RS_sought : Cond.instanceMethod ⟨"RunStore", "sought", "(IJ)I"⟩ ∈ fhT := List.mem_filter.mpr ⟨List.mem_of_getElem? (i := 633) (by decide +kernel), by decide +kernel⟩
theorem k_cd_RS_sought : Cond.code ⟨"RunStore", "sought", "(IJ)I"⟩ prog_1_method_21_code 4 (some .int) ∈ fhT := List.mem_filter.mpr ⟨List.mem_of_getElem? (i := 634) (by decide +kernel), by decide +kernel⟩
theorem k_ml_RS_151 : Cond.methodLink "RunStore" 151 ⟨"RunStore$Table", "passes", "(J)Z"⟩ ∈ fhT := List.mem_filter.mpr ⟨List.mem_of_getElem? (i := 635) (by decide +kernel), by decide +kernel⟩
theorem k_im_TB_passes : Cond.instanceMethod ⟨"RunStore$Table", "passes", "(J)Z"⟩ ∈ fhT := List.mem_filter.mpr ⟨List.mem_of_getElem? (i := 636) (by decide +kernel), by decide +kernel⟩
theorem k_se_TB_passes : Cond.selects "RunStore$Table" ⟨"RunStore$Table", "passes", "(J)Z"⟩ ⟨"RunStore$Table", "passes", "(J)Z"⟩ ∈ fhT := List.mem_filter.mpr ⟨List.mem_of_getElem? (i := 637) (by decide +kernel), by decide +kernel⟩
theorem k_cd_TB_passes : Cond.code ⟨"RunStore$Table", "passes", "(J)Z"⟩ prog_6_method_2_code 5 (some .boolean) ∈ fhT := List.mem_filter.mpr ⟨List.mem_of_getElem? (i := 638) (by decide +kernel), by decide +kernel⟩
theorem k_ml_TB_26 : Cond.methodLinkNest "RunStore$Table" 26 ⟨"RunStore", "filterBits", "(J)J"⟩ "RunStore" ∈ fhT := List.mem_filter.mpr ⟨List.mem_of_getElem? (i := 639) (by decide +kernel), by decide +kernel⟩
theorem k_ml_RS_253 : Cond.methodLink "RunStore" 253 ⟨"RunStore$TableReader", "reaches", "(LRunStore$Table;J)Z"⟩ ∈ fhT := List.mem_filter.mpr ⟨List.mem_of_getElem? (i := 640) (by decide +kernel), by decide +kernel⟩
theorem k_im_TR_reaches : Cond.instanceMethod ⟨"RunStore$TableReader", "reaches", "(LRunStore$Table;J)Z"⟩ ∈ fhT := List.mem_filter.mpr ⟨List.mem_of_getElem? (i := 641) (by decide +kernel), by decide +kernel⟩
theorem k_se_TR_reaches : Cond.selects "RunStore$TableReader" ⟨"RunStore$TableReader", "reaches", "(LRunStore$Table;J)Z"⟩ ⟨"RunStore$TableReader", "reaches", "(LRunStore$Table;J)Z"⟩ ∈ fhT := List.mem_filter.mpr ⟨List.mem_of_getElem? (i := 642) (by decide +kernel), by decide +kernel⟩
theorem k_cd_TR_reaches : Cond.code ⟨"RunStore$TableReader", "reaches", "(LRunStore$Table;J)Z"⟩ prog_7_method_3_code 5 (some .boolean) ∈ fhT := List.mem_filter.mpr ⟨List.mem_of_getElem? (i := 643) (by decide +kernel), by decide +kernel⟩
theorem k_ml_LW_103 : Cond.methodLink "RunStoreLaw" 103 ⟨"RunStoreLaw", "length", "(LRunStore;J[J)I"⟩ ∈ fhT := List.mem_filter.mpr ⟨List.mem_of_getElem? (i := 644) (by decide +kernel), by decide +kernel⟩
theorem k_st_LW_length : Cond.static ⟨"RunStoreLaw", "length", "(LRunStore;J[J)I"⟩ ∈ fhT := List.mem_filter.mpr ⟨List.mem_of_getElem? (i := 645) (by decide +kernel), by decide +kernel⟩
theorem k_cd_LW_length : Cond.codeWith ⟨"RunStoreLaw", "length", "(LRunStore;J[J)I"⟩ method_8_code 5 (some .int) [(0, 9, 12, 25)] ∈ fhT := List.mem_filter.mpr ⟨List.mem_of_getElem? (i := 646) (by decide +kernel), by decide +kernel⟩
theorem k_ml_LW_35 : Cond.methodLink "RunStoreLaw" 35 ⟨"RunStore", "length", "(J)I"⟩ ∈ fhT := List.mem_filter.mpr ⟨List.mem_of_getElem? (i := 647) (by decide +kernel), by decide +kernel⟩
theorem k_im_RS_length : Cond.instanceMethod ⟨"RunStore", "length", "(J)I"⟩ ∈ fhT := List.mem_filter.mpr ⟨List.mem_of_getElem? (i := 648) (by decide +kernel), by decide +kernel⟩
theorem k_se_RS_length : Cond.selects "RunStore" ⟨"RunStore", "length", "(J)I"⟩ ⟨"RunStore", "length", "(J)I"⟩ ∈ fhT := List.mem_filter.mpr ⟨List.mem_of_getElem? (i := 649) (by decide +kernel), by decide +kernel⟩
theorem k_cd_RS_length : Cond.code ⟨"RunStore", "length", "(J)I"⟩ prog_1_method_7_code 3 (some .int) ∈ fhT := List.mem_filter.mpr ⟨List.mem_of_getElem? (i := 650) (by decide +kernel), by decide +kernel⟩
theorem k_ml_LW_106 : Cond.methodLink "RunStoreLaw" 106 ⟨"RunStoreLaw", "after", "(LRunStore;J[J)I"⟩ ∈ fhT := List.mem_filter.mpr ⟨List.mem_of_getElem? (i := 651) (by decide +kernel), by decide +kernel⟩
theorem k_st_LW_after : Cond.static ⟨"RunStoreLaw", "after", "(LRunStore;J[J)I"⟩ ∈ fhT := List.mem_filter.mpr ⟨List.mem_of_getElem? (i := 652) (by decide +kernel), by decide +kernel⟩
theorem k_cd_LW_after : Cond.codeWith ⟨"RunStoreLaw", "after", "(LRunStore;J[J)I"⟩ method_9_code 5 (some .int) [(0, 8, 11, 25)] ∈ fhT := List.mem_filter.mpr ⟨List.mem_of_getElem? (i := 653) (by decide +kernel), by decide +kernel⟩
theorem k_ml_LW_38 : Cond.methodLink "RunStoreLaw" 38 ⟨"RunStore", "after", "(J)J"⟩ ∈ fhT := List.mem_filter.mpr ⟨List.mem_of_getElem? (i := 654) (by decide +kernel), by decide +kernel⟩
theorem k_im_RS_after : Cond.instanceMethod ⟨"RunStore", "after", "(J)J"⟩ ∈ fhT := List.mem_filter.mpr ⟨List.mem_of_getElem? (i := 655) (by decide +kernel), by decide +kernel⟩
theorem k_se_RS_after : Cond.selects "RunStore" ⟨"RunStore", "after", "(J)J"⟩ ⟨"RunStore", "after", "(J)J"⟩ ∈ fhT := List.mem_filter.mpr ⟨List.mem_of_getElem? (i := 656) (by decide +kernel), by decide +kernel⟩
theorem k_cd_RS_after : Cond.code ⟨"RunStore", "after", "(J)J"⟩ prog_1_method_8_code 3 (some .long) ∈ fhT := List.mem_filter.mpr ⟨List.mem_of_getElem? (i := 657) (by decide +kernel), by decide +kernel⟩
theorem k_ml_RS_139 : Cond.methodLink "RunStore" 139 ⟨"RunStore$Rows", "addMissingOf", "(LRunStore$Rows;)V"⟩ ∈ fhT := List.mem_filter.mpr ⟨List.mem_of_getElem? (i := 658) (by decide +kernel), by decide +kernel⟩
theorem k_im_RW_addMissingOf : Cond.instanceMethod ⟨"RunStore$Rows", "addMissingOf", "(LRunStore$Rows;)V"⟩ ∈ fhT := List.mem_filter.mpr ⟨List.mem_of_getElem? (i := 659) (by decide +kernel), by decide +kernel⟩
theorem k_se_RW_addMissingOf : Cond.selects "RunStore$Rows" ⟨"RunStore$Rows", "addMissingOf", "(LRunStore$Rows;)V"⟩ ⟨"RunStore$Rows", "addMissingOf", "(LRunStore$Rows;)V"⟩ ∈ fhT := List.mem_filter.mpr ⟨List.mem_of_getElem? (i := 660) (by decide +kernel), by decide +kernel⟩
theorem k_cd_RW_addMissingOf : Cond.code ⟨"RunStore$Rows", "addMissingOf", "(LRunStore$Rows;)V"⟩ prog_5_method_7_code 3 none ∈ fhT := List.mem_filter.mpr ⟨List.mem_of_getElem? (i := 661) (by decide +kernel), by decide +kernel⟩
theorem k_ml_RW_34 : Cond.methodLink "RunStore$Rows" 34 ⟨"RunStore$Rows", "addMissing", "(JIJ)V"⟩ ∈ fhT := List.mem_filter.mpr ⟨List.mem_of_getElem? (i := 662) (by decide +kernel), by decide +kernel⟩
theorem k_ml_RS_143 : Cond.methodLink "RunStore" 143 ⟨"RunStore$Rows", "nextKept", "(J)J"⟩ ∈ fhT := List.mem_filter.mpr ⟨List.mem_of_getElem? (i := 663) (by decide +kernel), by decide +kernel⟩
theorem k_im_RW_nextKept : Cond.instanceMethod ⟨"RunStore$Rows", "nextKept", "(J)J"⟩ ∈ fhT := List.mem_filter.mpr ⟨List.mem_of_getElem? (i := 664) (by decide +kernel), by decide +kernel⟩
theorem k_se_RW_nextKept : Cond.selects "RunStore$Rows" ⟨"RunStore$Rows", "nextKept", "(J)J"⟩ ⟨"RunStore$Rows", "nextKept", "(J)J"⟩ ∈ fhT := List.mem_filter.mpr ⟨List.mem_of_getElem? (i := 665) (by decide +kernel), by decide +kernel⟩
theorem k_cd_RW_nextKept : Cond.code ⟨"RunStore$Rows", "nextKept", "(J)J"⟩ prog_5_method_11_code 5 (some .long) ∈ fhT := List.mem_filter.mpr ⟨List.mem_of_getElem? (i := 666) (by decide +kernel), by decide +kernel⟩
theorem k_ml_LW_109 : Cond.methodLink "RunStoreLaw" 109 ⟨"RunStoreLaw", "may", "(LRunStore;IJ[J)I"⟩ ∈ fhT := List.mem_filter.mpr ⟨List.mem_of_getElem? (i := 667) (by decide +kernel), by decide +kernel⟩
theorem k_st_LW_may : Cond.static ⟨"RunStoreLaw", "may", "(LRunStore;IJ[J)I"⟩ ∈ fhT := List.mem_filter.mpr ⟨List.mem_of_getElem? (i := 668) (by decide +kernel), by decide +kernel⟩
theorem k_cd_LW_may : Cond.codeWith ⟨"RunStoreLaw", "may", "(LRunStore;IJ[J)I"⟩ method_10_code 6 (some .int) [(0, 18, 21, 45)] ∈ fhT := List.mem_filter.mpr ⟨List.mem_of_getElem? (i := 669) (by decide +kernel), by decide +kernel⟩
theorem k_cl_LW_45 : Cond.classLink "RunStoreLaw" 45 "java/lang/IndexOutOfBoundsException" ∈ fhT := List.mem_filter.mpr ⟨List.mem_of_getElem? (i := 670) (by decide +kernel), by decide +kernel⟩
theorem k_ml_LW_41 : Cond.methodLink "RunStoreLaw" 41 ⟨"RunStore", "may", "(IJ)Z"⟩ ∈ fhT := List.mem_filter.mpr ⟨List.mem_of_getElem? (i := 671) (by decide +kernel), by decide +kernel⟩
theorem k_im_RS_may : Cond.instanceMethod ⟨"RunStore", "may", "(IJ)Z"⟩ ∈ fhT := List.mem_filter.mpr ⟨List.mem_of_getElem? (i := 672) (by decide +kernel), by decide +kernel⟩
theorem k_se_RS_may : Cond.selects "RunStore" ⟨"RunStore", "may", "(IJ)Z"⟩ ⟨"RunStore", "may", "(IJ)Z"⟩ ∈ fhT := List.mem_filter.mpr ⟨List.mem_of_getElem? (i := 673) (by decide +kernel), by decide +kernel⟩
theorem k_cd_RS_may : Cond.code ⟨"RunStore", "may", "(IJ)Z"⟩ prog_1_method_9_code 4 (some .boolean) ∈ fhT := List.mem_filter.mpr ⟨List.mem_of_getElem? (i := 674) (by decide +kernel), by decide +kernel⟩
theorem k_ml_RS_147 : Cond.methodLink "RunStore" 147 ⟨"RunStore", "tableNumbered", "(I)LRunStore$Table;"⟩ ∈ fhT := List.mem_filter.mpr ⟨List.mem_of_getElem? (i := 675) (by decide +kernel), by decide +kernel⟩
theorem k_im_RS_tableNumbered : Cond.instanceMethod ⟨"RunStore", "tableNumbered", "(I)LRunStore$Table;"⟩ ∈ fhT := List.mem_filter.mpr ⟨List.mem_of_getElem? (i := 677) (by decide +kernel), by decide +kernel⟩
theorem k_cd_RS_tableNumbered : Cond.code ⟨"RunStore", "tableNumbered", "(I)LRunStore$Table;"⟩ prog_1_method_26_code 2 (some (.object "RunStore$Table")) ∈ fhT := List.mem_filter.mpr ⟨List.mem_of_getElem? (i := 678) (by decide +kernel), by decide +kernel⟩
theorem k_cl_RS_164 : Cond.classLink "RunStore" 164 "java/lang/IndexOutOfBoundsException" ∈ fhT := List.mem_filter.mpr ⟨List.mem_of_getElem? (i := 679) (by decide +kernel), by decide +kernel⟩
theorem k_it_EI : Cond.instantiable "java/lang/IndexOutOfBoundsException" 6 ∈ fhT := List.mem_filter.mpr ⟨List.mem_of_getElem? (i := 680) (by decide +kernel), by decide +kernel⟩
theorem k_sr_RS_281 : Cond.stringRef "RunStore" 281 "there is no such table" ∈ fhT := List.mem_filter.mpr ⟨List.mem_of_getElem? (i := 688) (by decide +kernel), by decide +kernel⟩
theorem k_ml_RS_168 : Cond.methodLink "RunStore" 168 ⟨"java/lang/IndexOutOfBoundsException", "<init>", "(Ljava/lang/String;)V"⟩ ∈ fhT := List.mem_filter.mpr ⟨List.mem_of_getElem? (i := 689) (by decide +kernel), by decide +kernel⟩
theorem k_ml_LW_113 : Cond.methodLink "RunStoreLaw" 113 ⟨"RunStoreLaw", "table", "(LRunStore;II[J)I"⟩ ∈ fhT := List.mem_filter.mpr ⟨List.mem_of_getElem? (i := 695) (by decide +kernel), by decide +kernel⟩
theorem k_st_LW_table : Cond.static ⟨"RunStoreLaw", "table", "(LRunStore;II[J)I"⟩ ∈ fhT := List.mem_filter.mpr ⟨List.mem_of_getElem? (i := 696) (by decide +kernel), by decide +kernel⟩
theorem k_cd_LW_table : Cond.codeWith ⟨"RunStoreLaw", "table", "(LRunStore;II[J)I"⟩ method_11_code 5 (some .int) [(0, 10, 13, 45)] ∈ fhT := List.mem_filter.mpr ⟨List.mem_of_getElem? (i := 697) (by decide +kernel), by decide +kernel⟩
theorem k_ml_LW_47 : Cond.methodLink "RunStoreLaw" 47 ⟨"RunStore", "table", "(II)I"⟩ ∈ fhT := List.mem_filter.mpr ⟨List.mem_of_getElem? (i := 698) (by decide +kernel), by decide +kernel⟩
theorem k_im_RS_table : Cond.instanceMethod ⟨"RunStore", "table", "(II)I"⟩ ∈ fhT := List.mem_filter.mpr ⟨List.mem_of_getElem? (i := 699) (by decide +kernel), by decide +kernel⟩
theorem k_se_RS_table : Cond.selects "RunStore" ⟨"RunStore", "table", "(II)I"⟩ ⟨"RunStore", "table", "(II)I"⟩ ∈ fhT := List.mem_filter.mpr ⟨List.mem_of_getElem? (i := 700) (by decide +kernel), by decide +kernel⟩
theorem k_cd_RS_table : Cond.code ⟨"RunStore", "table", "(II)I"⟩ prog_1_method_10_code 4 (some .int) ∈ fhT := List.mem_filter.mpr ⟨List.mem_of_getElem? (i := 701) (by decide +kernel), by decide +kernel⟩
theorem k_ml_RS_161 : Cond.methodLink "RunStore" 161 ⟨"RunStore$Table", "idAt", "(I)I"⟩ ∈ fhT := List.mem_filter.mpr ⟨List.mem_of_getElem? (i := 702) (by decide +kernel), by decide +kernel⟩
theorem k_sr_RS_166 : Cond.stringRef "RunStore" 166 "a table has no such number" ∈ fhT := List.mem_filter.mpr ⟨List.mem_of_getElem? (i := 703) (by decide +kernel), by decide +kernel⟩
theorem k_ml_LW_117 : Cond.methodLink "RunStoreLaw" 117 ⟨"RunStoreLaw", "byteAt", "(LRunStore;II[J)I"⟩ ∈ fhT := List.mem_filter.mpr ⟨List.mem_of_getElem? (i := 704) (by decide +kernel), by decide +kernel⟩
theorem k_st_LW_byteAt : Cond.static ⟨"RunStoreLaw", "byteAt", "(LRunStore;II[J)I"⟩ ∈ fhT := List.mem_filter.mpr ⟨List.mem_of_getElem? (i := 705) (by decide +kernel), by decide +kernel⟩
theorem k_cd_LW_byteAt : Cond.codeWith ⟨"RunStoreLaw", "byteAt", "(LRunStore;II[J)I"⟩ method_12_code 5 (some .int) [(0, 10, 13, 45)] ∈ fhT := List.mem_filter.mpr ⟨List.mem_of_getElem? (i := 706) (by decide +kernel), by decide +kernel⟩
theorem k_ml_LW_51 : Cond.methodLink "RunStoreLaw" 51 ⟨"RunStore", "byteAt", "(II)I"⟩ ∈ fhT := List.mem_filter.mpr ⟨List.mem_of_getElem? (i := 707) (by decide +kernel), by decide +kernel⟩
theorem k_im_RS_byteAt : Cond.instanceMethod ⟨"RunStore", "byteAt", "(II)I"⟩ ∈ fhT := List.mem_filter.mpr ⟨List.mem_of_getElem? (i := 708) (by decide +kernel), by decide +kernel⟩
theorem k_se_RS_byteAt : Cond.selects "RunStore" ⟨"RunStore", "byteAt", "(II)I"⟩ ⟨"RunStore", "byteAt", "(II)I"⟩ ∈ fhT := List.mem_filter.mpr ⟨List.mem_of_getElem? (i := 709) (by decide +kernel), by decide +kernel⟩
theorem k_cd_RS_byteAt : Cond.code ⟨"RunStore", "byteAt", "(II)I"⟩ prog_1_method_11_code 3 (some .int) ∈ fhT := List.mem_filter.mpr ⟨List.mem_of_getElem? (i := 710) (by decide +kernel), by decide +kernel⟩
theorem k_ml_RS_169 : Cond.methodLink "RunStore" 169 ⟨"RunStore", "refuseNoByte", "(II)V"⟩ ∈ fhT := List.mem_filter.mpr ⟨List.mem_of_getElem? (i := 711) (by decide +kernel), by decide +kernel⟩
theorem k_im_RS_refuseNoByte : Cond.instanceMethod ⟨"RunStore", "refuseNoByte", "(II)V"⟩ ∈ fhT := List.mem_filter.mpr ⟨List.mem_of_getElem? (i := 713) (by decide +kernel), by decide +kernel⟩
theorem k_cd_RS_refuseNoByte : Cond.code ⟨"RunStore", "refuseNoByte", "(II)V"⟩ prog_1_method_25_code 3 none ∈ fhT := List.mem_filter.mpr ⟨List.mem_of_getElem? (i := 714) (by decide +kernel), by decide +kernel⟩
theorem k_ml_RS_179 : Cond.methodLink "RunStore" 179 ⟨"RunStore$Blocks", "has", "(I)Z"⟩ ∈ fhT := List.mem_filter.mpr ⟨List.mem_of_getElem? (i := 715) (by decide +kernel), by decide +kernel⟩
theorem k_sr_RS_279 : Cond.stringRef "RunStore" 279 "there is no such block or byte" ∈ fhT := List.mem_filter.mpr ⟨List.mem_of_getElem? (i := 716) (by decide +kernel), by decide +kernel⟩
theorem k_ml_RS_172 : Cond.methodLink "RunStore" 172 ⟨"RunStore$Blocks", "read", "(II)I"⟩ ∈ fhT := List.mem_filter.mpr ⟨List.mem_of_getElem? (i := 717) (by decide +kernel), by decide +kernel⟩
theorem k_ml_LW_120 : Cond.methodLink "RunStoreLaw" 120 ⟨"RunStoreLaw", "poke", "(LRunStore;III[J)I"⟩ ∈ fhT := List.mem_filter.mpr ⟨List.mem_of_getElem? (i := 718) (by decide +kernel), by decide +kernel⟩
theorem k_st_LW_poke : Cond.static ⟨"RunStoreLaw", "poke", "(LRunStore;III[J)I"⟩ ∈ fhT := List.mem_filter.mpr ⟨List.mem_of_getElem? (i := 719) (by decide +kernel), by decide +kernel⟩
theorem k_cd_LW_poke : Cond.codeWith ⟨"RunStoreLaw", "poke", "(LRunStore;III[J)I"⟩ method_13_code 6 (some .int) [(0, 12, 15, 45)] ∈ fhT := List.mem_filter.mpr ⟨List.mem_of_getElem? (i := 720) (by decide +kernel), by decide +kernel⟩
theorem k_ml_LW_54 : Cond.methodLink "RunStoreLaw" 54 ⟨"RunStore", "poke", "(III)I"⟩ ∈ fhT := List.mem_filter.mpr ⟨List.mem_of_getElem? (i := 721) (by decide +kernel), by decide +kernel⟩
theorem k_im_RS_poke : Cond.instanceMethod ⟨"RunStore", "poke", "(III)I"⟩ ∈ fhT := List.mem_filter.mpr ⟨List.mem_of_getElem? (i := 722) (by decide +kernel), by decide +kernel⟩
theorem k_se_RS_poke : Cond.selects "RunStore" ⟨"RunStore", "poke", "(III)I"⟩ ⟨"RunStore", "poke", "(III)I"⟩ ∈ fhT := List.mem_filter.mpr ⟨List.mem_of_getElem? (i := 723) (by decide +kernel), by decide +kernel⟩
theorem k_cd_RS_poke : Cond.code ⟨"RunStore", "poke", "(III)I"⟩ prog_1_method_12_code 4 (some .int) ∈ fhT := List.mem_filter.mpr ⟨List.mem_of_getElem? (i := 724) (by decide +kernel), by decide +kernel⟩
theorem k_ml_RS_175 : Cond.methodLink "RunStore" 175 ⟨"RunStore$Blocks", "writeByte", "(III)V"⟩ ∈ fhT := List.mem_filter.mpr ⟨List.mem_of_getElem? (i := 725) (by decide +kernel), by decide +kernel⟩
theorem k_ml_LW_124 : Cond.methodLink "RunStoreLaw" 124 ⟨"RunStoreLaw", "sum", "(LRunStore;I[J)I"⟩ ∈ fhT := List.mem_filter.mpr ⟨List.mem_of_getElem? (i := 726) (by decide +kernel), by decide +kernel⟩
theorem k_st_LW_sum : Cond.static ⟨"RunStoreLaw", "sum", "(LRunStore;I[J)I"⟩ ∈ fhT := List.mem_filter.mpr ⟨List.mem_of_getElem? (i := 727) (by decide +kernel), by decide +kernel⟩
theorem k_cd_LW_sum : Cond.codeWith ⟨"RunStoreLaw", "sum", "(LRunStore;I[J)I"⟩ method_14_code 4 (some .int) [(0, 9, 12, 45)] ∈ fhT := List.mem_filter.mpr ⟨List.mem_of_getElem? (i := 728) (by decide +kernel), by decide +kernel⟩
theorem k_ml_LW_58 : Cond.methodLink "RunStoreLaw" 58 ⟨"RunStore", "sum", "(I)I"⟩ ∈ fhT := List.mem_filter.mpr ⟨List.mem_of_getElem? (i := 729) (by decide +kernel), by decide +kernel⟩
theorem k_im_RS_sum : Cond.instanceMethod ⟨"RunStore", "sum", "(I)I"⟩ ∈ fhT := List.mem_filter.mpr ⟨List.mem_of_getElem? (i := 730) (by decide +kernel), by decide +kernel⟩
theorem k_se_RS_sum : Cond.selects "RunStore" ⟨"RunStore", "sum", "(I)I"⟩ ⟨"RunStore", "sum", "(I)I"⟩ ∈ fhT := List.mem_filter.mpr ⟨List.mem_of_getElem? (i := 731) (by decide +kernel), by decide +kernel⟩
theorem k_cd_RS_sum : Cond.code ⟨"RunStore", "sum", "(I)I"⟩ prog_1_method_13_code 2 (some .int) ∈ fhT := List.mem_filter.mpr ⟨List.mem_of_getElem? (i := 732) (by decide +kernel), by decide +kernel⟩
theorem k_sr_RS_183 : Cond.stringRef "RunStore" 183 "there is no such block" ∈ fhT := List.mem_filter.mpr ⟨List.mem_of_getElem? (i := 733) (by decide +kernel), by decide +kernel⟩
theorem k_ml_LW_127 : Cond.methodLink "RunStoreLaw" 127 ⟨"RunStoreLaw", "logged", "(LRunStore;I[J)I"⟩ ∈ fhT := List.mem_filter.mpr ⟨List.mem_of_getElem? (i := 734) (by decide +kernel), by decide +kernel⟩
theorem k_st_LW_logged : Cond.static ⟨"RunStoreLaw", "logged", "(LRunStore;I[J)I"⟩ ∈ fhT := List.mem_filter.mpr ⟨List.mem_of_getElem? (i := 735) (by decide +kernel), by decide +kernel⟩
theorem k_cd_LW_logged : Cond.codeWith ⟨"RunStoreLaw", "logged", "(LRunStore;I[J)I"⟩ method_15_code 4 (some .int) [(0, 9, 12, 45)] ∈ fhT := List.mem_filter.mpr ⟨List.mem_of_getElem? (i := 736) (by decide +kernel), by decide +kernel⟩
theorem k_ml_LW_61 : Cond.methodLink "RunStoreLaw" 61 ⟨"RunStore", "logged", "(I)I"⟩ ∈ fhT := List.mem_filter.mpr ⟨List.mem_of_getElem? (i := 737) (by decide +kernel), by decide +kernel⟩
theorem k_im_RS_logged : Cond.instanceMethod ⟨"RunStore", "logged", "(I)I"⟩ ∈ fhT := List.mem_filter.mpr ⟨List.mem_of_getElem? (i := 738) (by decide +kernel), by decide +kernel⟩
theorem k_se_RS_logged : Cond.selects "RunStore" ⟨"RunStore", "logged", "(I)I"⟩ ⟨"RunStore", "logged", "(I)I"⟩ ∈ fhT := List.mem_filter.mpr ⟨List.mem_of_getElem? (i := 739) (by decide +kernel), by decide +kernel⟩
theorem k_cd_RS_logged : Cond.code ⟨"RunStore", "logged", "(I)I"⟩ prog_1_method_14_code 2 (some .int) ∈ fhT := List.mem_filter.mpr ⟨List.mem_of_getElem? (i := 740) (by decide +kernel), by decide +kernel⟩
theorem k_sr_RS_189 : Cond.stringRef "RunStore" 189 "the log has no such byte" ∈ fhT := List.mem_filter.mpr ⟨List.mem_of_getElem? (i := 741) (by decide +kernel), by decide +kernel⟩
theorem k_ml_RS_191 : Cond.methodLink "RunStore" 191 ⟨"RunStore$Log", "read", "(I)I"⟩ ∈ fhT := List.mem_filter.mpr ⟨List.mem_of_getElem? (i := 742) (by decide +kernel), by decide +kernel⟩
theorem k_ml_LW_130 : Cond.methodLink "RunStoreLaw" 130 ⟨"RunStoreLaw", "crash", "(LRunStore;III[J)I"⟩ ∈ fhT := List.mem_filter.mpr ⟨List.mem_of_getElem? (i := 743) (by decide +kernel), by decide +kernel⟩
theorem k_st_LW_crash : Cond.static ⟨"RunStoreLaw", "crash", "(LRunStore;III[J)I"⟩ ∈ fhT := List.mem_filter.mpr ⟨List.mem_of_getElem? (i := 744) (by decide +kernel), by decide +kernel⟩
theorem k_cd_LW_crash : Cond.codeWith ⟨"RunStoreLaw", "crash", "(LRunStore;III[J)I"⟩ method_16_code 6 (some .int) [(0, 12, 15, 13)] ∈ fhT := List.mem_filter.mpr ⟨List.mem_of_getElem? (i := 745) (by decide +kernel), by decide +kernel⟩
theorem k_ml_LW_64 : Cond.methodLink "RunStoreLaw" 64 ⟨"RunStore", "crash", "(III)I"⟩ ∈ fhT := List.mem_filter.mpr ⟨List.mem_of_getElem? (i := 746) (by decide +kernel), by decide +kernel⟩
theorem k_im_RS_crash : Cond.instanceMethod ⟨"RunStore", "crash", "(III)I"⟩ ∈ fhT := List.mem_filter.mpr ⟨List.mem_of_getElem? (i := 747) (by decide +kernel), by decide +kernel⟩
theorem k_se_RS_crash : Cond.selects "RunStore" ⟨"RunStore", "crash", "(III)I"⟩ ⟨"RunStore", "crash", "(III)I"⟩ ∈ fhT := List.mem_filter.mpr ⟨List.mem_of_getElem? (i := 748) (by decide +kernel), by decide +kernel⟩
theorem k_cd_RS_crash : Cond.code ⟨"RunStore", "crash", "(III)I"⟩ prog_1_method_15_code 4 (some .int) ∈ fhT := List.mem_filter.mpr ⟨List.mem_of_getElem? (i := 749) (by decide +kernel), by decide +kernel⟩
theorem k_sr_RS_193 : Cond.stringRef "RunStore" 193 "the log has not so many bytes" ∈ fhT := List.mem_filter.mpr ⟨List.mem_of_getElem? (i := 750) (by decide +kernel), by decide +kernel⟩
theorem k_sr_RS_195 : Cond.stringRef "RunStore" 195 "no byte of those that are kept" ∈ fhT := List.mem_filter.mpr ⟨List.mem_of_getElem? (i := 751) (by decide +kernel), by decide +kernel⟩
theorem k_ml_RS_197 : Cond.methodLink "RunStore" 197 ⟨"RunStore$Log", "cut", "(I)V"⟩ ∈ fhT := List.mem_filter.mpr ⟨List.mem_of_getElem? (i := 752) (by decide +kernel), by decide +kernel⟩
theorem k_im_LG_cut : Cond.instanceMethod ⟨"RunStore$Log", "cut", "(I)V"⟩ ∈ fhT := List.mem_filter.mpr ⟨List.mem_of_getElem? (i := 753) (by decide +kernel), by decide +kernel⟩
theorem k_se_LG_cut : Cond.selects "RunStore$Log" ⟨"RunStore$Log", "cut", "(I)V"⟩ ⟨"RunStore$Log", "cut", "(I)V"⟩ ∈ fhT := List.mem_filter.mpr ⟨List.mem_of_getElem? (i := 754) (by decide +kernel), by decide +kernel⟩
theorem k_cd_LG_cut : Cond.code ⟨"RunStore$Log", "cut", "(I)V"⟩ prog_4_method_7_code 2 none ∈ fhT := List.mem_filter.mpr ⟨List.mem_of_getElem? (i := 755) (by decide +kernel), by decide +kernel⟩
theorem k_ml_RS_200 : Cond.methodLink "RunStore" 200 ⟨"RunStore$Log", "alter", "(II)V"⟩ ∈ fhT := List.mem_filter.mpr ⟨List.mem_of_getElem? (i := 756) (by decide +kernel), by decide +kernel⟩
theorem k_im_LG_alter : Cond.instanceMethod ⟨"RunStore$Log", "alter", "(II)V"⟩ ∈ fhT := List.mem_filter.mpr ⟨List.mem_of_getElem? (i := 757) (by decide +kernel), by decide +kernel⟩
theorem k_se_LG_alter : Cond.selects "RunStore$Log" ⟨"RunStore$Log", "alter", "(II)V"⟩ ⟨"RunStore$Log", "alter", "(II)V"⟩ ∈ fhT := List.mem_filter.mpr ⟨List.mem_of_getElem? (i := 758) (by decide +kernel), by decide +kernel⟩
theorem k_cd_LG_alter : Cond.code ⟨"RunStore$Log", "alter", "(II)V"⟩ prog_4_method_8_code 3 none ∈ fhT := List.mem_filter.mpr ⟨List.mem_of_getElem? (i := 759) (by decide +kernel), by decide +kernel⟩
theorem k_ml_RS_203 : Cond.methodLink "RunStore" 203 ⟨"RunStore$Log", "doAgain", "(LRunStore$Rows;)V"⟩ ∈ fhT := List.mem_filter.mpr ⟨List.mem_of_getElem? (i := 760) (by decide +kernel), by decide +kernel⟩
theorem k_im_LG_doAgain : Cond.instanceMethod ⟨"RunStore$Log", "doAgain", "(LRunStore$Rows;)V"⟩ ∈ fhT := List.mem_filter.mpr ⟨List.mem_of_getElem? (i := 761) (by decide +kernel), by decide +kernel⟩
theorem k_se_LG_doAgain : Cond.selects "RunStore$Log" ⟨"RunStore$Log", "doAgain", "(LRunStore$Rows;)V"⟩ ⟨"RunStore$Log", "doAgain", "(LRunStore$Rows;)V"⟩ ∈ fhT := List.mem_filter.mpr ⟨List.mem_of_getElem? (i := 762) (by decide +kernel), by decide +kernel⟩
theorem k_cd_LG_doAgain : Cond.code ⟨"RunStore$Log", "doAgain", "(LRunStore$Rows;)V"⟩ prog_4_method_9_code 4 none ∈ fhT := List.mem_filter.mpr ⟨List.mem_of_getElem? (i := 763) (by decide +kernel), by decide +kernel⟩
theorem k_ml_LG_31 : Cond.methodLink "RunStore$Log" 31 ⟨"RunStore$Rows", "empty", "()V"⟩ ∈ fhT := List.mem_filter.mpr ⟨List.mem_of_getElem? (i := 764) (by decide +kernel), by decide +kernel⟩
theorem k_ml_LG_39 : Cond.methodLink "RunStore$Log" 39 ⟨"RunStore$Log", "readSummed", "()Z"⟩ ∈ fhT := List.mem_filter.mpr ⟨List.mem_of_getElem? (i := 765) (by decide +kernel), by decide +kernel⟩
theorem k_im_LG_readSummed : Cond.instanceMethod ⟨"RunStore$Log", "readSummed", "()Z"⟩ ∈ fhT := List.mem_filter.mpr ⟨List.mem_of_getElem? (i := 767) (by decide +kernel), by decide +kernel⟩
theorem k_cd_LG_readSummed : Cond.code ⟨"RunStore$Log", "readSummed", "()Z"⟩ prog_4_method_10_code 2 (some .boolean) ∈ fhT := List.mem_filter.mpr ⟨List.mem_of_getElem? (i := 768) (by decide +kernel), by decide +kernel⟩
theorem k_ml_LG_60 : Cond.methodLink "RunStore$Log" 60 ⟨"RunStore$Log", "readEntry", "()Z"⟩ ∈ fhT := List.mem_filter.mpr ⟨List.mem_of_getElem? (i := 769) (by decide +kernel), by decide +kernel⟩
theorem k_sm_LG_readEntry : Cond.sameMethod "RunStore$Log" "RunStore$EntryReader" "readEntry" "()Z" ∈ fhT := List.mem_filter.mpr ⟨List.mem_of_getElem? (i := 770) (by decide +kernel), by decide +kernel⟩
theorem k_sx_LG_readEntry : Cond.selects "RunStore$Log" ⟨"RunStore$Log", "readEntry", "()Z"⟩ ⟨"RunStore$EntryReader", "readEntry", "()Z"⟩ ∈ fhT := List.mem_filter.mpr ⟨List.mem_of_getElem? (i := 771) (by decide +kernel), by decide +kernel⟩
theorem k_ml_LG_63 : Cond.methodLink "RunStore$Log" 63 ⟨"RunStore$Log", "nextByte", "()I"⟩ ∈ fhT := List.mem_filter.mpr ⟨List.mem_of_getElem? (i := 772) (by decide +kernel), by decide +kernel⟩
theorem k_ml_LG_53 : Cond.methodLink "RunStore$Log" 53 ⟨"RunStore$Rows", "set", "(JIJ)Z"⟩ ∈ fhT := List.mem_filter.mpr ⟨List.mem_of_getElem? (i := 773) (by decide +kernel), by decide +kernel⟩
theorem k_cl_LW_76 : Cond.classLink "RunStoreLaw" 76 "RunStoreModel" ∈ fhT := List.mem_filter.mpr ⟨List.mem_of_getElem? (i := 774) (by decide +kernel), by decide +kernel⟩
theorem k_it_MD : Cond.instantiable "RunStoreModel" 34 ∈ fhT := List.mem_filter.mpr ⟨List.mem_of_getElem? (i := 775) (by decide +kernel), by decide +kernel⟩
theorem k_ml_LW_78 : Cond.methodLink "RunStoreLaw" 78 ⟨"RunStoreModel", "<init>", "(I)V"⟩ ∈ fhT := List.mem_filter.mpr ⟨List.mem_of_getElem? (i := 776) (by decide +kernel), by decide +kernel⟩
theorem k_im_MD_init : Cond.instanceMethod ⟨"RunStoreModel", "<init>", "(I)V"⟩ ∈ fhT := List.mem_filter.mpr ⟨List.mem_of_getElem? (i := 777) (by decide +kernel), by decide +kernel⟩
theorem k_cd_MD_init : Cond.code ⟨"RunStoreModel", "<init>", "(I)V"⟩ prog_9_method_1_code 2 none ∈ fhT := List.mem_filter.mpr ⟨List.mem_of_getElem? (i := 778) (by decide +kernel), by decide +kernel⟩
theorem k_ml_MD_1 : Cond.methodLink "RunStoreModel" 1 ⟨"java/lang/Object", "<init>", "()V"⟩ ∈ fhT := List.mem_filter.mpr ⟨List.mem_of_getElem? (i := 779) (by decide +kernel), by decide +kernel⟩
theorem k_fl_MD_70 : Cond.fieldLink "RunStoreModel" 70 "RunStoreModel" "thrown" "I" ∈ fhT := List.mem_filter.mpr ⟨List.mem_of_getElem? (i := 780) (by decide +kernel), by decide +kernel⟩
theorem k_fl_MD_67 : Cond.fieldLink "RunStoreModel" 67 "RunStoreModel" "blocks" "I" ∈ fhT := List.mem_filter.mpr ⟨List.mem_of_getElem? (i := 781) (by decide +kernel), by decide +kernel⟩
theorem k_fl_MD_73 : Cond.fieldLink "RunStoreModel" 73 "RunStoreModel" "keys" "I" ∈ fhT := List.mem_filter.mpr ⟨List.mem_of_getElem? (i := 782) (by decide +kernel), by decide +kernel⟩
theorem k_fl_MD_7 : Cond.fieldLink "RunStoreModel" 7 "RunStoreModel" "key" "[J" ∈ fhT := List.mem_filter.mpr ⟨List.mem_of_getElem? (i := 783) (by decide +kernel), by decide +kernel⟩
theorem k_fl_MD_13 : Cond.fieldLink "RunStoreModel" 13 "RunStoreModel" "value" "[J" ∈ fhT := List.mem_filter.mpr ⟨List.mem_of_getElem? (i := 784) (by decide +kernel), by decide +kernel⟩
theorem k_fl_MD_16 : Cond.fieldLink "RunStoreModel" 16 "RunStoreModel" "length" "[I" ∈ fhT := List.mem_filter.mpr ⟨List.mem_of_getElem? (i := 785) (by decide +kernel), by decide +kernel⟩
theorem k_fl_MD_84 : Cond.fieldLink "RunStoreModel" 84 "RunStoreModel" "logged" "I" ∈ fhT := List.mem_filter.mpr ⟨List.mem_of_getElem? (i := 786) (by decide +kernel), by decide +kernel⟩
theorem k_fl_MD_20 : Cond.fieldLink "RunStoreModel" 20 "RunStoreModel" "log" "[I" ∈ fhT := List.mem_filter.mpr ⟨List.mem_of_getElem? (i := 787) (by decide +kernel), by decide +kernel⟩
theorem k_fl_MD_23 : Cond.fieldLink "RunStoreModel" 23 "RunStoreModel" "data" "[I" ∈ fhT := List.mem_filter.mpr ⟨List.mem_of_getElem? (i := 788) (by decide +kernel), by decide +kernel⟩
theorem k_fl_MD_26 : Cond.fieldLink "RunStoreModel" 26 "RunStoreModel" "sums" "[I" ∈ fhT := List.mem_filter.mpr ⟨List.mem_of_getElem? (i := 789) (by decide +kernel), by decide +kernel⟩
theorem k_fl_MD_29 : Cond.fieldLink "RunStoreModel" 29 "RunStoreModel" "isTaken" "[Z" ∈ fhT := List.mem_filter.mpr ⟨List.mem_of_getElem? (i := 790) (by decide +kernel), by decide +kernel⟩
theorem k_fl_MD_136 : Cond.fieldLink "RunStoreModel" 136 "RunStoreModel" "tables" "I" ∈ fhT := List.mem_filter.mpr ⟨List.mem_of_getElem? (i := 791) (by decide +kernel), by decide +kernel⟩
theorem k_fl_MD_33 : Cond.fieldLink "RunStoreModel" 33 "RunStoreModel" "level" "[I" ∈ fhT := List.mem_filter.mpr ⟨List.mem_of_getElem? (i := 792) (by decide +kernel), by decide +kernel⟩
theorem k_fl_MD_36 : Cond.fieldLink "RunStoreModel" 36 "RunStoreModel" "entries" "[I" ∈ fhT := List.mem_filter.mpr ⟨List.mem_of_getElem? (i := 793) (by decide +kernel), by decide +kernel⟩
theorem k_fl_MD_39 : Cond.fieldLink "RunStoreModel" 39 "RunStoreModel" "many" "[I" ∈ fhT := List.mem_filter.mpr ⟨List.mem_of_getElem? (i := 794) (by decide +kernel), by decide +kernel⟩
theorem k_fl_MD_42 : Cond.fieldLink "RunStoreModel" 42 "RunStoreModel" "block" "[I" ∈ fhT := List.mem_filter.mpr ⟨List.mem_of_getElem? (i := 795) (by decide +kernel), by decide +kernel⟩
theorem k_fl_MD_45 : Cond.fieldLink "RunStoreModel" 45 "RunStoreModel" "filter" "[J" ∈ fhT := List.mem_filter.mpr ⟨List.mem_of_getElem? (i := 796) (by decide +kernel), by decide +kernel⟩
theorem k_fl_MD_48 : Cond.fieldLink "RunStoreModel" 48 "RunStoreModel" "bad" "I" ∈ fhT := List.mem_filter.mpr ⟨List.mem_of_getElem? (i := 797) (by decide +kernel), by decide +kernel⟩
theorem k_fl_MD_174 : Cond.fieldLink "RunStoreModel" 174 "RunStoreModel" "checked" "I" ∈ fhT := List.mem_filter.mpr ⟨List.mem_of_getElem? (i := 798) (by decide +kernel), by decide +kernel⟩
theorem k_fl_MD_222 : Cond.fieldLink "RunStoreModel" 222 "RunStoreModel" "passed" "I" ∈ fhT := List.mem_filter.mpr ⟨List.mem_of_getElem? (i := 799) (by decide +kernel), by decide +kernel⟩
theorem k_fl_MD_180 : Cond.fieldLink "RunStoreModel" 180 "RunStoreModel" "at" "I" ∈ fhT := List.mem_filter.mpr ⟨List.mem_of_getElem? (i := 800) (by decide +kernel), by decide +kernel⟩
theorem k_fl_MD_186 : Cond.fieldLink "RunStoreModel" 186 "RunStoreModel" "lastChecked" "I" ∈ fhT := List.mem_filter.mpr ⟨List.mem_of_getElem? (i := 801) (by decide +kernel), by decide +kernel⟩
theorem k_fl_MD_170 : Cond.fieldLink "RunStoreModel" 170 "RunStoreModel" "isFault" "Z" ∈ fhT := List.mem_filter.mpr ⟨List.mem_of_getElem? (i := 802) (by decide +kernel), by decide +kernel⟩
theorem k_fl_MD_193 : Cond.fieldLink "RunStoreModel" 193 "RunStoreModel" "entryKey" "J" ∈ fhT := List.mem_filter.mpr ⟨List.mem_of_getElem? (i := 803) (by decide +kernel), by decide +kernel⟩
theorem k_fl_MD_203 : Cond.fieldLink "RunStoreModel" 203 "RunStoreModel" "entryValue" "J" ∈ fhT := List.mem_filter.mpr ⟨List.mem_of_getElem? (i := 804) (by decide +kernel), by decide +kernel⟩
theorem k_fl_MD_200 : Cond.fieldLink "RunStoreModel" 200 "RunStoreModel" "entryLength" "I" ∈ fhT := List.mem_filter.mpr ⟨List.mem_of_getElem? (i := 805) (by decide +kernel), by decide +kernel⟩
theorem k_fl_MD_232 : Cond.fieldLink "RunStoreModel" 232 "RunStoreModel" "found" "I" ∈ fhT := List.mem_filter.mpr ⟨List.mem_of_getElem? (i := 806) (by decide +kernel), by decide +kernel⟩
theorem k_fl_MD_52 : Cond.fieldLink "RunStoreModel" 52 "RunStoreModel" "foundKey" "[J" ∈ fhT := List.mem_filter.mpr ⟨List.mem_of_getElem? (i := 807) (by decide +kernel), by decide +kernel⟩
theorem k_fl_MD_55 : Cond.fieldLink "RunStoreModel" 55 "RunStoreModel" "foundValue" "[J" ∈ fhT := List.mem_filter.mpr ⟨List.mem_of_getElem? (i := 808) (by decide +kernel), by decide +kernel⟩
theorem k_fl_MD_58 : Cond.fieldLink "RunStoreModel" 58 "RunStoreModel" "foundLength" "[I" ∈ fhT := List.mem_filter.mpr ⟨List.mem_of_getElem? (i := 809) (by decide +kernel), by decide +kernel⟩
theorem k_fl_MD_61 : Cond.fieldLink "RunStoreModel" 61 "RunStoreModel" "joined" "[I" ∈ fhT := List.mem_filter.mpr ⟨List.mem_of_getElem? (i := 810) (by decide +kernel), by decide +kernel⟩
theorem k_fl_MD_130 : Cond.fieldLink "RunStoreModel" 130 "RunStoreModel" "joinedSize" "I" ∈ fhT := List.mem_filter.mpr ⟨List.mem_of_getElem? (i := 811) (by decide +kernel), by decide +kernel⟩
theorem k_fl_MD_64 : Cond.fieldLink "RunStoreModel" 64 "RunStoreModel" "picked" "[I" ∈ fhT := List.mem_filter.mpr ⟨List.mem_of_getElem? (i := 812) (by decide +kernel), by decide +kernel⟩
theorem k_fl_MD_183 : Cond.fieldLink "RunStoreModel" 183 "RunStoreModel" "isChecking" "Z" ∈ fhT := List.mem_filter.mpr ⟨List.mem_of_getElem? (i := 813) (by decide +kernel), by decide +kernel⟩
theorem k_ac_boolean : Cond.arrayClass .boolean ∈ fhT := List.mem_filter.mpr ⟨List.mem_of_getElem? (i := 883) (by decide +kernel), by decide +kernel⟩
theorem k_ml_LW_85 : Cond.methodLink "RunStoreLaw" 85 ⟨"RunStoreModel", "thrown", "()I"⟩ ∈ fhT := List.mem_filter.mpr ⟨List.mem_of_getElem? (i := 884) (by decide +kernel), by decide +kernel⟩
theorem k_im_MD_thrown : Cond.instanceMethod ⟨"RunStoreModel", "thrown", "()I"⟩ ∈ fhT := List.mem_filter.mpr ⟨List.mem_of_getElem? (i := 885) (by decide +kernel), by decide +kernel⟩
theorem k_se_MD_thrown : Cond.selects "RunStoreModel" ⟨"RunStoreModel", "thrown", "()I"⟩ ⟨"RunStoreModel", "thrown", "()I"⟩ ∈ fhT := List.mem_filter.mpr ⟨List.mem_of_getElem? (i := 886) (by decide +kernel), by decide +kernel⟩
theorem k_cd_MD_thrown : Cond.code ⟨"RunStoreModel", "thrown", "()I"⟩ prog_9_method_2_code 1 (some .int) ∈ fhT := List.mem_filter.mpr ⟨List.mem_of_getElem? (i := 887) (by decide +kernel), by decide +kernel⟩
theorem k_ml_LW_84 : Cond.methodLink "RunStoreLaw" 84 ⟨"RunStoreModel", "put", "(JJI)I"⟩ ∈ fhT := List.mem_filter.mpr ⟨List.mem_of_getElem? (i := 888) (by decide +kernel), by decide +kernel⟩
theorem k_im_MD_put : Cond.instanceMethod ⟨"RunStoreModel", "put", "(JJI)I"⟩ ∈ fhT := List.mem_filter.mpr ⟨List.mem_of_getElem? (i := 889) (by decide +kernel), by decide +kernel⟩
theorem k_se_MD_put : Cond.selects "RunStoreModel" ⟨"RunStoreModel", "put", "(JJI)I"⟩ ⟨"RunStoreModel", "put", "(JJI)I"⟩ ∈ fhT := List.mem_filter.mpr ⟨List.mem_of_getElem? (i := 890) (by decide +kernel), by decide +kernel⟩
theorem k_cd_MD_put : Cond.code ⟨"RunStoreModel", "put", "(JJI)I"⟩ prog_9_method_15_code 6 (some .int) ∈ fhT := List.mem_filter.mpr ⟨List.mem_of_getElem? (i := 891) (by decide +kernel), by decide +kernel⟩
theorem k_ml_MD_109 : Cond.methodLink "RunStoreModel" 109 ⟨"RunStoreModel", "within", "(III)Z"⟩ ∈ fhT := List.mem_filter.mpr ⟨List.mem_of_getElem? (i := 892) (by decide +kernel), by decide +kernel⟩
theorem k_st_MD_within : Cond.static ⟨"RunStoreModel", "within", "(III)Z"⟩ ∈ fhT := List.mem_filter.mpr ⟨List.mem_of_getElem? (i := 893) (by decide +kernel), by decide +kernel⟩
theorem k_cd_MD_within : Cond.code ⟨"RunStoreModel", "within", "(III)Z"⟩ prog_9_method_4_code 3 (some .boolean) ∈ fhT := List.mem_filter.mpr ⟨List.mem_of_getElem? (i := 894) (by decide +kernel), by decide +kernel⟩
theorem k_ml_MD_113 : Cond.methodLink "RunStoreModel" 113 ⟨"RunStoreModel", "fail", "(I)I"⟩ ∈ fhT := List.mem_filter.mpr ⟨List.mem_of_getElem? (i := 895) (by decide +kernel), by decide +kernel⟩
theorem k_im_MD_fail : Cond.instanceMethod ⟨"RunStoreModel", "fail", "(I)I"⟩ ∈ fhT := List.mem_filter.mpr ⟨List.mem_of_getElem? (i := 897) (by decide +kernel), by decide +kernel⟩
theorem k_cd_MD_fail : Cond.code ⟨"RunStoreModel", "fail", "(I)I"⟩ prog_9_method_3_code 2 (some .int) ∈ fhT := List.mem_filter.mpr ⟨List.mem_of_getElem? (i := 898) (by decide +kernel), by decide +kernel⟩
theorem k_ml_MD_116 : Cond.methodLink "RunStoreModel" 116 ⟨"RunStoreModel", "hasRoom", "(JI)Z"⟩ ∈ fhT := List.mem_filter.mpr ⟨List.mem_of_getElem? (i := 899) (by decide +kernel), by decide +kernel⟩
theorem k_im_MD_hasRoom : Cond.instanceMethod ⟨"RunStoreModel", "hasRoom", "(JI)Z"⟩ ∈ fhT := List.mem_filter.mpr ⟨List.mem_of_getElem? (i := 901) (by decide +kernel), by decide +kernel⟩
theorem k_cd_MD_hasRoom : Cond.code ⟨"RunStoreModel", "hasRoom", "(JI)Z"⟩ prog_9_method_9_code 4 (some .boolean) ∈ fhT := List.mem_filter.mpr ⟨List.mem_of_getElem? (i := 902) (by decide +kernel), by decide +kernel⟩
theorem k_ml_MD_80 : Cond.methodLink "RunStoreModel" 80 ⟨"RunStoreModel", "hasKey", "(J)Z"⟩ ∈ fhT := List.mem_filter.mpr ⟨List.mem_of_getElem? (i := 903) (by decide +kernel), by decide +kernel⟩
theorem k_im_MD_hasKey : Cond.instanceMethod ⟨"RunStoreModel", "hasKey", "(J)Z"⟩ ∈ fhT := List.mem_filter.mpr ⟨List.mem_of_getElem? (i := 905) (by decide +kernel), by decide +kernel⟩
theorem k_cd_MD_hasKey : Cond.code ⟨"RunStoreModel", "hasKey", "(J)Z"⟩ prog_9_method_6_code 4 (some .boolean) ∈ fhT := List.mem_filter.mpr ⟨List.mem_of_getElem? (i := 906) (by decide +kernel), by decide +kernel⟩
theorem k_ml_MD_76 : Cond.methodLink "RunStoreModel" 76 ⟨"RunStoreModel", "placeOf", "(J)I"⟩ ∈ fhT := List.mem_filter.mpr ⟨List.mem_of_getElem? (i := 907) (by decide +kernel), by decide +kernel⟩
theorem k_im_MD_placeOf : Cond.instanceMethod ⟨"RunStoreModel", "placeOf", "(J)I"⟩ ∈ fhT := List.mem_filter.mpr ⟨List.mem_of_getElem? (i := 909) (by decide +kernel), by decide +kernel⟩
theorem k_cd_MD_placeOf : Cond.code ⟨"RunStoreModel", "placeOf", "(J)I"⟩ prog_9_method_5_code 4 (some .int) ∈ fhT := List.mem_filter.mpr ⟨List.mem_of_getElem? (i := 910) (by decide +kernel), by decide +kernel⟩
theorem k_ml_MD_87 : Cond.methodLink "RunStoreModel" 87 ⟨"RunStoreModel", "bytesOf", "(I)I"⟩ ∈ fhT := List.mem_filter.mpr ⟨List.mem_of_getElem? (i := 911) (by decide +kernel), by decide +kernel⟩
theorem k_st_MD_bytesOf : Cond.static ⟨"RunStoreModel", "bytesOf", "(I)I"⟩ ∈ fhT := List.mem_filter.mpr ⟨List.mem_of_getElem? (i := 912) (by decide +kernel), by decide +kernel⟩
theorem k_cd_MD_bytesOf : Cond.code ⟨"RunStoreModel", "bytesOf", "(I)I"⟩ prog_9_method_8_code 1 (some .int) ∈ fhT := List.mem_filter.mpr ⟨List.mem_of_getElem? (i := 913) (by decide +kernel), by decide +kernel⟩
theorem k_ml_MD_120 : Cond.methodLink "RunStoreModel" 120 ⟨"RunStoreModel", "lowest", "(JI)J"⟩ ∈ fhT := List.mem_filter.mpr ⟨List.mem_of_getElem? (i := 914) (by decide +kernel), by decide +kernel⟩
theorem k_st_MD_lowest : Cond.static ⟨"RunStoreModel", "lowest", "(JI)J"⟩ ∈ fhT := List.mem_filter.mpr ⟨List.mem_of_getElem? (i := 915) (by decide +kernel), by decide +kernel⟩
theorem k_cd_MD_lowest : Cond.code ⟨"RunStoreModel", "lowest", "(JI)J"⟩ prog_9_method_14_code 3 (some .long) ∈ fhT := List.mem_filter.mpr ⟨List.mem_of_getElem? (i := 916) (by decide +kernel), by decide +kernel⟩
theorem k_ml_MD_124 : Cond.methodLink "RunStoreModel" 124 ⟨"RunStoreModel", "tell", "(JJI)V"⟩ ∈ fhT := List.mem_filter.mpr ⟨List.mem_of_getElem? (i := 917) (by decide +kernel), by decide +kernel⟩
theorem k_im_MD_tell : Cond.instanceMethod ⟨"RunStoreModel", "tell", "(JJI)V"⟩ ∈ fhT := List.mem_filter.mpr ⟨List.mem_of_getElem? (i := 919) (by decide +kernel), by decide +kernel⟩
theorem k_cd_MD_tell : Cond.code ⟨"RunStoreModel", "tell", "(JJI)V"⟩ prog_9_method_12_code 8 none ∈ fhT := List.mem_filter.mpr ⟨List.mem_of_getElem? (i := 920) (by decide +kernel), by decide +kernel⟩
theorem k_ml_MD_93 : Cond.methodLink "RunStoreModel" 93 ⟨"RunStoreModel", "byteOf", "(JII)I"⟩ ∈ fhT := List.mem_filter.mpr ⟨List.mem_of_getElem? (i := 921) (by decide +kernel), by decide +kernel⟩
theorem k_st_MD_byteOf : Cond.static ⟨"RunStoreModel", "byteOf", "(JII)I"⟩ ∈ fhT := List.mem_filter.mpr ⟨List.mem_of_getElem? (i := 922) (by decide +kernel), by decide +kernel⟩
theorem k_cd_MD_byteOf : Cond.code ⟨"RunStoreModel", "byteOf", "(JII)I"⟩ prog_9_method_10_code 4 (some .int) ∈ fhT := List.mem_filter.mpr ⟨List.mem_of_getElem? (i := 923) (by decide +kernel), by decide +kernel⟩
theorem k_ct_MD_91 : Cond.constantLong "RunStoreModel" 91 255 ∈ fhT := List.mem_filter.mpr ⟨List.mem_of_getElem? (i := 924) (by decide +kernel), by decide +kernel⟩
theorem k_ml_MD_97 : Cond.methodLink "RunStoreModel" 97 ⟨"RunStoreModel", "note", "(I)V"⟩ ∈ fhT := List.mem_filter.mpr ⟨List.mem_of_getElem? (i := 925) (by decide +kernel), by decide +kernel⟩
theorem k_im_MD_note : Cond.instanceMethod ⟨"RunStoreModel", "note", "(I)V"⟩ ∈ fhT := List.mem_filter.mpr ⟨List.mem_of_getElem? (i := 927) (by decide +kernel), by decide +kernel⟩
theorem k_cd_MD_note : Cond.code ⟨"RunStoreModel", "note", "(I)V"⟩ prog_9_method_11_code 2 none ∈ fhT := List.mem_filter.mpr ⟨List.mem_of_getElem? (i := 928) (by decide +kernel), by decide +kernel⟩
theorem k_ml_MD_101 : Cond.methodLink "RunStoreModel" 101 ⟨"RunStoreModel", "logSum", "(II)I"⟩ ∈ fhT := List.mem_filter.mpr ⟨List.mem_of_getElem? (i := 929) (by decide +kernel), by decide +kernel⟩
theorem k_im_MD_logSum : Cond.instanceMethod ⟨"RunStoreModel", "logSum", "(II)I"⟩ ∈ fhT := List.mem_filter.mpr ⟨List.mem_of_getElem? (i := 931) (by decide +kernel), by decide +kernel⟩
theorem k_cd_MD_logSum : Cond.code ⟨"RunStoreModel", "logSum", "(II)I"⟩ prog_9_method_13_code 5 (some .int) ∈ fhT := List.mem_filter.mpr ⟨List.mem_of_getElem? (i := 932) (by decide +kernel), by decide +kernel⟩
theorem k_ml_MD_105 : Cond.methodLink "RunStoreModel" 105 ⟨"RunStoreModel", "set", "(JJI)V"⟩ ∈ fhT := List.mem_filter.mpr ⟨List.mem_of_getElem? (i := 933) (by decide +kernel), by decide +kernel⟩
theorem k_im_MD_set : Cond.instanceMethod ⟨"RunStoreModel", "set", "(JJI)V"⟩ ∈ fhT := List.mem_filter.mpr ⟨List.mem_of_getElem? (i := 935) (by decide +kernel), by decide +kernel⟩
theorem k_cd_MD_set : Cond.code ⟨"RunStoreModel", "set", "(JJI)V"⟩ prog_9_method_7_code 8 none ∈ fhT := List.mem_filter.mpr ⟨List.mem_of_getElem? (i := 936) (by decide +kernel), by decide +kernel⟩
theorem k_ml_LW_91 : Cond.methodLink "RunStoreLaw" 91 ⟨"RunStoreModel", "drop", "(J)I"⟩ ∈ fhT := List.mem_filter.mpr ⟨List.mem_of_getElem? (i := 937) (by decide +kernel), by decide +kernel⟩
theorem k_im_MD_drop : Cond.instanceMethod ⟨"RunStoreModel", "drop", "(J)I"⟩ ∈ fhT := List.mem_filter.mpr ⟨List.mem_of_getElem? (i := 938) (by decide +kernel), by decide +kernel⟩
theorem k_se_MD_drop : Cond.selects "RunStoreModel" ⟨"RunStoreModel", "drop", "(J)I"⟩ ⟨"RunStoreModel", "drop", "(J)I"⟩ ∈ fhT := List.mem_filter.mpr ⟨List.mem_of_getElem? (i := 939) (by decide +kernel), by decide +kernel⟩
theorem k_cd_MD_drop : Cond.code ⟨"RunStoreModel", "drop", "(J)I"⟩ prog_9_method_16_code 3 (some .int) ∈ fhT := List.mem_filter.mpr ⟨List.mem_of_getElem? (i := 940) (by decide +kernel), by decide +kernel⟩
theorem k_ml_LW_95 : Cond.methodLink "RunStoreLaw" 95 ⟨"RunStoreModel", "flush", "()I"⟩ ∈ fhT := List.mem_filter.mpr ⟨List.mem_of_getElem? (i := 941) (by decide +kernel), by decide +kernel⟩
theorem k_im_MD_flush : Cond.instanceMethod ⟨"RunStoreModel", "flush", "()I"⟩ ∈ fhT := List.mem_filter.mpr ⟨List.mem_of_getElem? (i := 942) (by decide +kernel), by decide +kernel⟩
theorem k_se_MD_flush : Cond.selects "RunStoreModel" ⟨"RunStoreModel", "flush", "()I"⟩ ⟨"RunStoreModel", "flush", "()I"⟩ ∈ fhT := List.mem_filter.mpr ⟨List.mem_of_getElem? (i := 943) (by decide +kernel), by decide +kernel⟩
theorem k_cd_MD_flush : Cond.code ⟨"RunStoreModel", "flush", "()I"⟩ prog_9_method_28_code 4 (some .int) ∈ fhT := List.mem_filter.mpr ⟨List.mem_of_getElem? (i := 944) (by decide +kernel), by decide +kernel⟩
theorem k_ml_MD_149 : Cond.methodLink "RunStoreModel" 149 ⟨"RunStoreModel", "sayEntry", "(JJI)V"⟩ ∈ fhT := List.mem_filter.mpr ⟨List.mem_of_getElem? (i := 945) (by decide +kernel), by decide +kernel⟩
theorem k_im_MD_sayEntry : Cond.instanceMethod ⟨"RunStoreModel", "sayEntry", "(JJI)V"⟩ ∈ fhT := List.mem_filter.mpr ⟨List.mem_of_getElem? (i := 947) (by decide +kernel), by decide +kernel⟩
theorem k_cd_MD_sayEntry : Cond.code ⟨"RunStoreModel", "sayEntry", "(JJI)V"⟩ prog_9_method_22_code 7 none ∈ fhT := List.mem_filter.mpr ⟨List.mem_of_getElem? (i := 948) (by decide +kernel), by decide +kernel⟩
theorem k_ml_MD_133 : Cond.methodLink "RunStoreModel" 133 ⟨"RunStoreModel", "say", "(I)V"⟩ ∈ fhT := List.mem_filter.mpr ⟨List.mem_of_getElem? (i := 949) (by decide +kernel), by decide +kernel⟩
theorem k_im_MD_say : Cond.instanceMethod ⟨"RunStoreModel", "say", "(I)V"⟩ ∈ fhT := List.mem_filter.mpr ⟨List.mem_of_getElem? (i := 951) (by decide +kernel), by decide +kernel⟩
theorem k_cd_MD_say : Cond.code ⟨"RunStoreModel", "say", "(I)V"⟩ prog_9_method_21_code 2 none ∈ fhT := List.mem_filter.mpr ⟨List.mem_of_getElem? (i := 952) (by decide +kernel), by decide +kernel⟩
theorem k_ml_MD_152 : Cond.methodLink "RunStoreModel" 152 ⟨"RunStoreModel", "bitsOf", "(J)J"⟩ ∈ fhT := List.mem_filter.mpr ⟨List.mem_of_getElem? (i := 953) (by decide +kernel), by decide +kernel⟩
theorem k_st_MD_bitsOf : Cond.static ⟨"RunStoreModel", "bitsOf", "(J)J"⟩ ∈ fhT := List.mem_filter.mpr ⟨List.mem_of_getElem? (i := 954) (by decide +kernel), by decide +kernel⟩
theorem k_cd_MD_bitsOf : Cond.code ⟨"RunStoreModel", "bitsOf", "(J)J"⟩ prog_9_method_17_code 4 (some .long) ∈ fhT := List.mem_filter.mpr ⟨List.mem_of_getElem? (i := 955) (by decide +kernel), by decide +kernel⟩
theorem k_ct_MD_127 : Cond.constantLong "RunStoreModel" 127 (-7046029254386353131) ∈ fhT := List.mem_filter.mpr ⟨List.mem_of_getElem? (i := 956) (by decide +kernel), by decide +kernel⟩
theorem k_ml_MD_143 : Cond.methodLink "RunStoreModel" 143 ⟨"RunStoreModel", "blocksOf", "(I)I"⟩ ∈ fhT := List.mem_filter.mpr ⟨List.mem_of_getElem? (i := 957) (by decide +kernel), by decide +kernel⟩
theorem k_st_MD_blocksOf : Cond.static ⟨"RunStoreModel", "blocksOf", "(I)I"⟩ ∈ fhT := List.mem_filter.mpr ⟨List.mem_of_getElem? (i := 958) (by decide +kernel), by decide +kernel⟩
theorem k_cd_MD_blocksOf : Cond.code ⟨"RunStoreModel", "blocksOf", "(I)I"⟩ prog_9_method_19_code 1 (some .int) ∈ fhT := List.mem_filter.mpr ⟨List.mem_of_getElem? (i := 959) (by decide +kernel), by decide +kernel⟩
theorem k_ml_MD_156 : Cond.methodLink "RunStoreModel" 156 ⟨"RunStoreModel", "freeBlocks", "()I"⟩ ∈ fhT := List.mem_filter.mpr ⟨List.mem_of_getElem? (i := 960) (by decide +kernel), by decide +kernel⟩
theorem k_im_MD_freeBlocks : Cond.instanceMethod ⟨"RunStoreModel", "freeBlocks", "()I"⟩ ∈ fhT := List.mem_filter.mpr ⟨List.mem_of_getElem? (i := 962) (by decide +kernel), by decide +kernel⟩
theorem k_cd_MD_freeBlocks : Cond.code ⟨"RunStoreModel", "freeBlocks", "()I"⟩ prog_9_method_18_code 3 (some .int) ∈ fhT := List.mem_filter.mpr ⟨List.mem_of_getElem? (i := 963) (by decide +kernel), by decide +kernel⟩
theorem k_ml_MD_160 : Cond.methodLink "RunStoreModel" 160 ⟨"RunStoreModel", "pick", "()V"⟩ ∈ fhT := List.mem_filter.mpr ⟨List.mem_of_getElem? (i := 964) (by decide +kernel), by decide +kernel⟩
theorem k_im_MD_pick : Cond.instanceMethod ⟨"RunStoreModel", "pick", "()V"⟩ ∈ fhT := List.mem_filter.mpr ⟨List.mem_of_getElem? (i := 966) (by decide +kernel), by decide +kernel⟩
theorem k_cd_MD_pick : Cond.code ⟨"RunStoreModel", "pick", "()V"⟩ prog_9_method_27_code 3 none ∈ fhT := List.mem_filter.mpr ⟨List.mem_of_getElem? (i := 967) (by decide +kernel), by decide +kernel⟩
theorem k_ml_MD_163 : Cond.methodLink "RunStoreModel" 163 ⟨"RunStoreModel", "openPlace", "(I)V"⟩ ∈ fhT := List.mem_filter.mpr ⟨List.mem_of_getElem? (i := 968) (by decide +kernel), by decide +kernel⟩
theorem k_im_MD_openPlace : Cond.instanceMethod ⟨"RunStoreModel", "openPlace", "(I)V"⟩ ∈ fhT := List.mem_filter.mpr ⟨List.mem_of_getElem? (i := 970) (by decide +kernel), by decide +kernel⟩
theorem k_cd_MD_openPlace : Cond.code ⟨"RunStoreModel", "openPlace", "(I)V"⟩ prog_9_method_23_code 3 none ∈ fhT := List.mem_filter.mpr ⟨List.mem_of_getElem? (i := 971) (by decide +kernel), by decide +kernel⟩
theorem k_ml_MD_139 : Cond.methodLink "RunStoreModel" 139 ⟨"RunStoreModel", "copyTable", "(II)V"⟩ ∈ fhT := List.mem_filter.mpr ⟨List.mem_of_getElem? (i := 972) (by decide +kernel), by decide +kernel⟩
theorem k_im_MD_copyTable : Cond.instanceMethod ⟨"RunStoreModel", "copyTable", "(II)V"⟩ ∈ fhT := List.mem_filter.mpr ⟨List.mem_of_getElem? (i := 974) (by decide +kernel), by decide +kernel⟩
theorem k_cd_MD_copyTable : Cond.code ⟨"RunStoreModel", "copyTable", "(II)V"⟩ prog_9_method_24_code 4 none ∈ fhT := List.mem_filter.mpr ⟨List.mem_of_getElem? (i := 975) (by decide +kernel), by decide +kernel⟩
theorem k_ml_MD_166 : Cond.methodLink "RunStoreModel" 166 ⟨"RunStoreModel", "fill", "(IIIJ)V"⟩ ∈ fhT := List.mem_filter.mpr ⟨List.mem_of_getElem? (i := 976) (by decide +kernel), by decide +kernel⟩
theorem k_im_MD_fill : Cond.instanceMethod ⟨"RunStoreModel", "fill", "(IIIJ)V"⟩ ∈ fhT := List.mem_filter.mpr ⟨List.mem_of_getElem? (i := 978) (by decide +kernel), by decide +kernel⟩
theorem k_cd_MD_fill : Cond.code ⟨"RunStoreModel", "fill", "(IIIJ)V"⟩ prog_9_method_26_code 10 none ∈ fhT := List.mem_filter.mpr ⟨List.mem_of_getElem? (i := 979) (by decide +kernel), by decide +kernel⟩
theorem k_ml_MD_146 : Cond.methodLink "RunStoreModel" 146 ⟨"RunStoreModel", "sumOf", "(II)I"⟩ ∈ fhT := List.mem_filter.mpr ⟨List.mem_of_getElem? (i := 980) (by decide +kernel), by decide +kernel⟩
theorem k_im_MD_sumOf : Cond.instanceMethod ⟨"RunStoreModel", "sumOf", "(II)I"⟩ ∈ fhT := List.mem_filter.mpr ⟨List.mem_of_getElem? (i := 982) (by decide +kernel), by decide +kernel⟩
theorem k_cd_MD_sumOf : Cond.code ⟨"RunStoreModel", "sumOf", "(II)I"⟩ prog_9_method_20_code 6 (some .int) ∈ fhT := List.mem_filter.mpr ⟨List.mem_of_getElem? (i := 983) (by decide +kernel), by decide +kernel⟩
theorem k_ct_MD_129 : Cond.constant "RunStoreModel" 129 374761393 ∈ fhT := List.mem_filter.mpr ⟨List.mem_of_getElem? (i := 984) (by decide +kernel), by decide +kernel⟩
theorem k_ml_LW_102 : Cond.methodLink "RunStoreLaw" 102 ⟨"RunStoreModel", "find", "(J)J"⟩ ∈ fhT := List.mem_filter.mpr ⟨List.mem_of_getElem? (i := 985) (by decide +kernel), by decide +kernel⟩
theorem k_im_MD_find : Cond.instanceMethod ⟨"RunStoreModel", "find", "(J)J"⟩ ∈ fhT := List.mem_filter.mpr ⟨List.mem_of_getElem? (i := 986) (by decide +kernel), by decide +kernel⟩
theorem k_se_MD_find : Cond.selects "RunStoreModel" ⟨"RunStoreModel", "find", "(J)J"⟩ ⟨"RunStoreModel", "find", "(J)J"⟩ ∈ fhT := List.mem_filter.mpr ⟨List.mem_of_getElem? (i := 987) (by decide +kernel), by decide +kernel⟩
theorem k_cd_MD_find : Cond.code ⟨"RunStoreModel", "find", "(J)J"⟩ prog_9_method_39_code 4 (some .long) ∈ fhT := List.mem_filter.mpr ⟨List.mem_of_getElem? (i := 988) (by decide +kernel), by decide +kernel⟩
theorem k_ml_MD_229 : Cond.methodLink "RunStoreModel" 229 ⟨"RunStoreModel", "look", "(J)Z"⟩ ∈ fhT := List.mem_filter.mpr ⟨List.mem_of_getElem? (i := 989) (by decide +kernel), by decide +kernel⟩
theorem k_im_MD_look : Cond.instanceMethod ⟨"RunStoreModel", "look", "(J)Z"⟩ ∈ fhT := List.mem_filter.mpr ⟨List.mem_of_getElem? (i := 991) (by decide +kernel), by decide +kernel⟩
theorem k_cd_MD_look : Cond.code ⟨"RunStoreModel", "look", "(J)Z"⟩ prog_9_method_38_code 6 (some .boolean) ∈ fhT := List.mem_filter.mpr ⟨List.mem_of_getElem? (i := 992) (by decide +kernel), by decide +kernel⟩
theorem k_ml_MD_225 : Cond.methodLink "RunStoreModel" 225 ⟨"RunStoreModel", "hasIt", "(IJ)Z"⟩ ∈ fhT := List.mem_filter.mpr ⟨List.mem_of_getElem? (i := 993) (by decide +kernel), by decide +kernel⟩
theorem k_im_MD_hasIt : Cond.instanceMethod ⟨"RunStoreModel", "hasIt", "(IJ)Z"⟩ ∈ fhT := List.mem_filter.mpr ⟨List.mem_of_getElem? (i := 995) (by decide +kernel), by decide +kernel⟩
theorem k_cd_MD_hasIt : Cond.code ⟨"RunStoreModel", "hasIt", "(IJ)Z"⟩ prog_9_method_36_code 5 (some .boolean) ∈ fhT := List.mem_filter.mpr ⟨List.mem_of_getElem? (i := 996) (by decide +kernel), by decide +kernel⟩
theorem k_ml_MD_206 : Cond.methodLink "RunStoreModel" 206 ⟨"RunStoreModel", "begin", "(Z)V"⟩ ∈ fhT := List.mem_filter.mpr ⟨List.mem_of_getElem? (i := 997) (by decide +kernel), by decide +kernel⟩
theorem k_im_MD_begin : Cond.instanceMethod ⟨"RunStoreModel", "begin", "(Z)V"⟩ ∈ fhT := List.mem_filter.mpr ⟨List.mem_of_getElem? (i := 999) (by decide +kernel), by decide +kernel⟩
theorem k_cd_MD_begin : Cond.code ⟨"RunStoreModel", "begin", "(Z)V"⟩ prog_9_method_32_code 2 none ∈ fhT := List.mem_filter.mpr ⟨List.mem_of_getElem? (i := 1000) (by decide +kernel), by decide +kernel⟩
theorem k_ml_MD_210 : Cond.methodLink "RunStoreModel" 210 ⟨"RunStoreModel", "readEntry", "(I)V"⟩ ∈ fhT := List.mem_filter.mpr ⟨List.mem_of_getElem? (i := 1001) (by decide +kernel), by decide +kernel⟩
theorem k_im_MD_readEntry : Cond.instanceMethod ⟨"RunStoreModel", "readEntry", "(I)V"⟩ ∈ fhT := List.mem_filter.mpr ⟨List.mem_of_getElem? (i := 1003) (by decide +kernel), by decide +kernel⟩
theorem k_cd_MD_readEntry : Cond.code ⟨"RunStoreModel", "readEntry", "(I)V"⟩ prog_9_method_37_code 2 none ∈ fhT := List.mem_filter.mpr ⟨List.mem_of_getElem? (i := 1004) (by decide +kernel), by decide +kernel⟩
theorem k_ml_MD_213 : Cond.methodLink "RunStoreModel" 213 ⟨"RunStoreModel", "readKey", "(I)V"⟩ ∈ fhT := List.mem_filter.mpr ⟨List.mem_of_getElem? (i := 1005) (by decide +kernel), by decide +kernel⟩
theorem k_im_MD_readKey : Cond.instanceMethod ⟨"RunStoreModel", "readKey", "(I)V"⟩ ∈ fhT := List.mem_filter.mpr ⟨List.mem_of_getElem? (i := 1007) (by decide +kernel), by decide +kernel⟩
theorem k_cd_MD_readKey : Cond.code ⟨"RunStoreModel", "readKey", "(I)V"⟩ prog_9_method_33_code 3 none ∈ fhT := List.mem_filter.mpr ⟨List.mem_of_getElem? (i := 1008) (by decide +kernel), by decide +kernel⟩
theorem k_ml_MD_197 : Cond.methodLink "RunStoreModel" 197 ⟨"RunStoreModel", "next", "(I)I"⟩ ∈ fhT := List.mem_filter.mpr ⟨List.mem_of_getElem? (i := 1009) (by decide +kernel), by decide +kernel⟩
theorem k_im_MD_next : Cond.instanceMethod ⟨"RunStoreModel", "next", "(I)I"⟩ ∈ fhT := List.mem_filter.mpr ⟨List.mem_of_getElem? (i := 1011) (by decide +kernel), by decide +kernel⟩
theorem k_cd_MD_next : Cond.code ⟨"RunStoreModel", "next", "(I)I"⟩ prog_9_method_31_code 4 (some .int) ∈ fhT := List.mem_filter.mpr ⟨List.mem_of_getElem? (i := 1012) (by decide +kernel), by decide +kernel⟩
theorem k_ml_MD_177 : Cond.methodLink "RunStoreModel" 177 ⟨"RunStoreModel", "fault", "(II)V"⟩ ∈ fhT := List.mem_filter.mpr ⟨List.mem_of_getElem? (i := 1013) (by decide +kernel), by decide +kernel⟩
theorem k_im_MD_fault : Cond.instanceMethod ⟨"RunStoreModel", "fault", "(II)V"⟩ ∈ fhT := List.mem_filter.mpr ⟨List.mem_of_getElem? (i := 1015) (by decide +kernel), by decide +kernel⟩
theorem k_cd_MD_fault : Cond.code ⟨"RunStoreModel", "fault", "(II)V"⟩ prog_9_method_29_code 3 none ∈ fhT := List.mem_filter.mpr ⟨List.mem_of_getElem? (i := 1016) (by decide +kernel), by decide +kernel⟩
theorem k_ml_MD_189 : Cond.methodLink "RunStoreModel" 189 ⟨"RunStoreModel", "isRight", "(II)Z"⟩ ∈ fhT := List.mem_filter.mpr ⟨List.mem_of_getElem? (i := 1017) (by decide +kernel), by decide +kernel⟩
theorem k_im_MD_isRight : Cond.instanceMethod ⟨"RunStoreModel", "isRight", "(II)Z"⟩ ∈ fhT := List.mem_filter.mpr ⟨List.mem_of_getElem? (i := 1019) (by decide +kernel), by decide +kernel⟩
theorem k_cd_MD_isRight : Cond.code ⟨"RunStoreModel", "isRight", "(II)Z"⟩ prog_9_method_30_code 4 (some .boolean) ∈ fhT := List.mem_filter.mpr ⟨List.mem_of_getElem? (i := 1020) (by decide +kernel), by decide +kernel⟩
theorem k_ml_MD_216 : Cond.methodLink "RunStoreModel" 216 ⟨"RunStoreModel", "readLength", "(I)V"⟩ ∈ fhT := List.mem_filter.mpr ⟨List.mem_of_getElem? (i := 1021) (by decide +kernel), by decide +kernel⟩
theorem k_im_MD_readLength : Cond.instanceMethod ⟨"RunStoreModel", "readLength", "(I)V"⟩ ∈ fhT := List.mem_filter.mpr ⟨List.mem_of_getElem? (i := 1023) (by decide +kernel), by decide +kernel⟩
theorem k_cd_MD_readLength : Cond.code ⟨"RunStoreModel", "readLength", "(I)V"⟩ prog_9_method_34_code 3 none ∈ fhT := List.mem_filter.mpr ⟨List.mem_of_getElem? (i := 1024) (by decide +kernel), by decide +kernel⟩
theorem k_ml_MD_219 : Cond.methodLink "RunStoreModel" 219 ⟨"RunStoreModel", "readValue", "(I)V"⟩ ∈ fhT := List.mem_filter.mpr ⟨List.mem_of_getElem? (i := 1025) (by decide +kernel), by decide +kernel⟩
theorem k_im_MD_readValue : Cond.instanceMethod ⟨"RunStoreModel", "readValue", "(I)V"⟩ ∈ fhT := List.mem_filter.mpr ⟨List.mem_of_getElem? (i := 1027) (by decide +kernel), by decide +kernel⟩
theorem k_cd_MD_readValue : Cond.code ⟨"RunStoreModel", "readValue", "(I)V"⟩ prog_9_method_35_code 3 none ∈ fhT := List.mem_filter.mpr ⟨List.mem_of_getElem? (i := 1028) (by decide +kernel), by decide +kernel⟩
theorem k_ml_LW_105 : Cond.methodLink "RunStoreLaw" 105 ⟨"RunStoreModel", "length", "(J)I"⟩ ∈ fhT := List.mem_filter.mpr ⟨List.mem_of_getElem? (i := 1029) (by decide +kernel), by decide +kernel⟩
theorem k_im_MD_length : Cond.instanceMethod ⟨"RunStoreModel", "length", "(J)I"⟩ ∈ fhT := List.mem_filter.mpr ⟨List.mem_of_getElem? (i := 1030) (by decide +kernel), by decide +kernel⟩
theorem k_se_MD_length : Cond.selects "RunStoreModel" ⟨"RunStoreModel", "length", "(J)I"⟩ ⟨"RunStoreModel", "length", "(J)I"⟩ ∈ fhT := List.mem_filter.mpr ⟨List.mem_of_getElem? (i := 1031) (by decide +kernel), by decide +kernel⟩
theorem k_cd_MD_length : Cond.code ⟨"RunStoreModel", "length", "(J)I"⟩ prog_9_method_40_code 4 (some .int) ∈ fhT := List.mem_filter.mpr ⟨List.mem_of_getElem? (i := 1032) (by decide +kernel), by decide +kernel⟩
theorem k_ml_LW_108 : Cond.methodLink "RunStoreLaw" 108 ⟨"RunStoreModel", "after", "(J)J"⟩ ∈ fhT := List.mem_filter.mpr ⟨List.mem_of_getElem? (i := 1033) (by decide +kernel), by decide +kernel⟩
theorem k_im_MD_after : Cond.instanceMethod ⟨"RunStoreModel", "after", "(J)J"⟩ ∈ fhT := List.mem_filter.mpr ⟨List.mem_of_getElem? (i := 1034) (by decide +kernel), by decide +kernel⟩
theorem k_se_MD_after : Cond.selects "RunStoreModel" ⟨"RunStoreModel", "after", "(J)J"⟩ ⟨"RunStoreModel", "after", "(J)J"⟩ ∈ fhT := List.mem_filter.mpr ⟨List.mem_of_getElem? (i := 1035) (by decide +kernel), by decide +kernel⟩
theorem k_cd_MD_after : Cond.code ⟨"RunStoreModel", "after", "(J)J"⟩ prog_9_method_43_code 4 (some .long) ∈ fhT := List.mem_filter.mpr ⟨List.mem_of_getElem? (i := 1036) (by decide +kernel), by decide +kernel⟩
theorem k_ml_MD_235 : Cond.methodLink "RunStoreModel" 235 ⟨"RunStoreModel", "come", "(JJI)V"⟩ ∈ fhT := List.mem_filter.mpr ⟨List.mem_of_getElem? (i := 1037) (by decide +kernel), by decide +kernel⟩
theorem k_im_MD_come : Cond.instanceMethod ⟨"RunStoreModel", "come", "(JJI)V"⟩ ∈ fhT := List.mem_filter.mpr ⟨List.mem_of_getElem? (i := 1039) (by decide +kernel), by decide +kernel⟩
theorem k_cd_MD_come : Cond.code ⟨"RunStoreModel", "come", "(JJI)V"⟩ prog_9_method_41_code 8 none ∈ fhT := List.mem_filter.mpr ⟨List.mem_of_getElem? (i := 1040) (by decide +kernel), by decide +kernel⟩
theorem k_ml_MD_238 : Cond.methodLink "RunStoreModel" 238 ⟨"RunStoreModel", "readAll", "(IZ)V"⟩ ∈ fhT := List.mem_filter.mpr ⟨List.mem_of_getElem? (i := 1041) (by decide +kernel), by decide +kernel⟩
theorem k_im_MD_readAll : Cond.instanceMethod ⟨"RunStoreModel", "readAll", "(IZ)V"⟩ ∈ fhT := List.mem_filter.mpr ⟨List.mem_of_getElem? (i := 1043) (by decide +kernel), by decide +kernel⟩
theorem k_cd_MD_readAll : Cond.code ⟨"RunStoreModel", "readAll", "(IZ)V"⟩ prog_9_method_42_code 4 none ∈ fhT := List.mem_filter.mpr ⟨List.mem_of_getElem? (i := 1044) (by decide +kernel), by decide +kernel⟩
theorem k_ml_LW_99 : Cond.methodLink "RunStoreLaw" 99 ⟨"RunStoreModel", "join", "(I)I"⟩ ∈ fhT := List.mem_filter.mpr ⟨List.mem_of_getElem? (i := 1045) (by decide +kernel), by decide +kernel⟩
theorem k_im_MD_join : Cond.instanceMethod ⟨"RunStoreModel", "join", "(I)I"⟩ ∈ fhT := List.mem_filter.mpr ⟨List.mem_of_getElem? (i := 1046) (by decide +kernel), by decide +kernel⟩
theorem k_se_MD_join : Cond.selects "RunStoreModel" ⟨"RunStoreModel", "join", "(I)I"⟩ ⟨"RunStoreModel", "join", "(I)I"⟩ ∈ fhT := List.mem_filter.mpr ⟨List.mem_of_getElem? (i := 1047) (by decide +kernel), by decide +kernel⟩
theorem k_cd_MD_join : Cond.code ⟨"RunStoreModel", "join", "(I)I"⟩ prog_9_method_48_code 7 (some .int) ∈ fhT := List.mem_filter.mpr ⟨List.mem_of_getElem? (i := 1048) (by decide +kernel), by decide +kernel⟩
theorem k_ml_MD_245 : Cond.methodLink "RunStoreModel" 245 ⟨"RunStoreModel", "tablesOf", "(I)I"⟩ ∈ fhT := List.mem_filter.mpr ⟨List.mem_of_getElem? (i := 1049) (by decide +kernel), by decide +kernel⟩
theorem k_im_MD_tablesOf : Cond.instanceMethod ⟨"RunStoreModel", "tablesOf", "(I)I"⟩ ∈ fhT := List.mem_filter.mpr ⟨List.mem_of_getElem? (i := 1051) (by decide +kernel), by decide +kernel⟩
theorem k_cd_MD_tablesOf : Cond.code ⟨"RunStoreModel", "tablesOf", "(I)I"⟩ prog_9_method_45_code 4 (some .int) ∈ fhT := List.mem_filter.mpr ⟨List.mem_of_getElem? (i := 1052) (by decide +kernel), by decide +kernel⟩
theorem k_ml_MD_248 : Cond.methodLink "RunStoreModel" 248 ⟨"RunStoreModel", "gather", "(I)V"⟩ ∈ fhT := List.mem_filter.mpr ⟨List.mem_of_getElem? (i := 1053) (by decide +kernel), by decide +kernel⟩
theorem k_im_MD_gather : Cond.instanceMethod ⟨"RunStoreModel", "gather", "(I)V"⟩ ∈ fhT := List.mem_filter.mpr ⟨List.mem_of_getElem? (i := 1055) (by decide +kernel), by decide +kernel⟩
theorem k_cd_MD_gather : Cond.code ⟨"RunStoreModel", "gather", "(I)V"⟩ prog_9_method_47_code 4 none ∈ fhT := List.mem_filter.mpr ⟨List.mem_of_getElem? (i := 1056) (by decide +kernel), by decide +kernel⟩
theorem k_ml_MD_242 : Cond.methodLink "RunStoreModel" 242 ⟨"RunStoreModel", "isOf", "(II)Z"⟩ ∈ fhT := List.mem_filter.mpr ⟨List.mem_of_getElem? (i := 1057) (by decide +kernel), by decide +kernel⟩
theorem k_im_MD_isOf : Cond.instanceMethod ⟨"RunStoreModel", "isOf", "(II)Z"⟩ ∈ fhT := List.mem_filter.mpr ⟨List.mem_of_getElem? (i := 1059) (by decide +kernel), by decide +kernel⟩
theorem k_cd_MD_isOf : Cond.code ⟨"RunStoreModel", "isOf", "(II)Z"⟩ prog_9_method_44_code 3 (some .boolean) ∈ fhT := List.mem_filter.mpr ⟨List.mem_of_getElem? (i := 1060) (by decide +kernel), by decide +kernel⟩
theorem k_ml_MD_251 : Cond.methodLink "RunStoreModel" 251 ⟨"RunStoreModel", "anyBehind", "(I)Z"⟩ ∈ fhT := List.mem_filter.mpr ⟨List.mem_of_getElem? (i := 1061) (by decide +kernel), by decide +kernel⟩
theorem k_im_MD_anyBehind : Cond.instanceMethod ⟨"RunStoreModel", "anyBehind", "(I)Z"⟩ ∈ fhT := List.mem_filter.mpr ⟨List.mem_of_getElem? (i := 1063) (by decide +kernel), by decide +kernel⟩
theorem k_cd_MD_anyBehind : Cond.code ⟨"RunStoreModel", "anyBehind", "(I)Z"⟩ prog_9_method_46_code 4 (some .boolean) ∈ fhT := List.mem_filter.mpr ⟨List.mem_of_getElem? (i := 1064) (by decide +kernel), by decide +kernel⟩
theorem k_ml_MD_255 : Cond.methodLink "RunStoreModel" 255 ⟨"RunStoreModel", "removeTable", "(I)V"⟩ ∈ fhT := List.mem_filter.mpr ⟨List.mem_of_getElem? (i := 1065) (by decide +kernel), by decide +kernel⟩
theorem k_im_MD_removeTable : Cond.instanceMethod ⟨"RunStoreModel", "removeTable", "(I)V"⟩ ∈ fhT := List.mem_filter.mpr ⟨List.mem_of_getElem? (i := 1067) (by decide +kernel), by decide +kernel⟩
theorem k_cd_MD_removeTable : Cond.code ⟨"RunStoreModel", "removeTable", "(I)V"⟩ prog_9_method_25_code 3 none ∈ fhT := List.mem_filter.mpr ⟨List.mem_of_getElem? (i := 1068) (by decide +kernel), by decide +kernel⟩
theorem k_ml_LW_112 : Cond.methodLink "RunStoreLaw" 112 ⟨"RunStoreModel", "may", "(IJ)Z"⟩ ∈ fhT := List.mem_filter.mpr ⟨List.mem_of_getElem? (i := 1069) (by decide +kernel), by decide +kernel⟩
theorem k_im_MD_may : Cond.instanceMethod ⟨"RunStoreModel", "may", "(IJ)Z"⟩ ∈ fhT := List.mem_filter.mpr ⟨List.mem_of_getElem? (i := 1070) (by decide +kernel), by decide +kernel⟩
theorem k_se_MD_may : Cond.selects "RunStoreModel" ⟨"RunStoreModel", "may", "(IJ)Z"⟩ ⟨"RunStoreModel", "may", "(IJ)Z"⟩ ∈ fhT := List.mem_filter.mpr ⟨List.mem_of_getElem? (i := 1071) (by decide +kernel), by decide +kernel⟩
theorem k_cd_MD_may : Cond.code ⟨"RunStoreModel", "may", "(IJ)Z"⟩ prog_9_method_49_code 4 (some .boolean) ∈ fhT := List.mem_filter.mpr ⟨List.mem_of_getElem? (i := 1072) (by decide +kernel), by decide +kernel⟩
theorem k_ml_LW_116 : Cond.methodLink "RunStoreLaw" 116 ⟨"RunStoreModel", "table", "(II)I"⟩ ∈ fhT := List.mem_filter.mpr ⟨List.mem_of_getElem? (i := 1073) (by decide +kernel), by decide +kernel⟩
theorem k_im_MD_table : Cond.instanceMethod ⟨"RunStoreModel", "table", "(II)I"⟩ ∈ fhT := List.mem_filter.mpr ⟨List.mem_of_getElem? (i := 1074) (by decide +kernel), by decide +kernel⟩
theorem k_se_MD_table : Cond.selects "RunStoreModel" ⟨"RunStoreModel", "table", "(II)I"⟩ ⟨"RunStoreModel", "table", "(II)I"⟩ ∈ fhT := List.mem_filter.mpr ⟨List.mem_of_getElem? (i := 1075) (by decide +kernel), by decide +kernel⟩
theorem k_cd_MD_table : Cond.code ⟨"RunStoreModel", "table", "(II)I"⟩ prog_9_method_50_code 3 (some .int) ∈ fhT := List.mem_filter.mpr ⟨List.mem_of_getElem? (i := 1076) (by decide +kernel), by decide +kernel⟩
theorem k_ml_LW_119 : Cond.methodLink "RunStoreLaw" 119 ⟨"RunStoreModel", "byteAt", "(II)I"⟩ ∈ fhT := List.mem_filter.mpr ⟨List.mem_of_getElem? (i := 1077) (by decide +kernel), by decide +kernel⟩
theorem k_im_MD_byteAt : Cond.instanceMethod ⟨"RunStoreModel", "byteAt", "(II)I"⟩ ∈ fhT := List.mem_filter.mpr ⟨List.mem_of_getElem? (i := 1078) (by decide +kernel), by decide +kernel⟩
theorem k_se_MD_byteAt : Cond.selects "RunStoreModel" ⟨"RunStoreModel", "byteAt", "(II)I"⟩ ⟨"RunStoreModel", "byteAt", "(II)I"⟩ ∈ fhT := List.mem_filter.mpr ⟨List.mem_of_getElem? (i := 1079) (by decide +kernel), by decide +kernel⟩
theorem k_cd_MD_byteAt : Cond.code ⟨"RunStoreModel", "byteAt", "(II)I"⟩ prog_9_method_52_code 3 (some .int) ∈ fhT := List.mem_filter.mpr ⟨List.mem_of_getElem? (i := 1080) (by decide +kernel), by decide +kernel⟩
theorem k_ml_MD_258 : Cond.methodLink "RunStoreModel" 258 ⟨"RunStoreModel", "isByte", "(II)Z"⟩ ∈ fhT := List.mem_filter.mpr ⟨List.mem_of_getElem? (i := 1081) (by decide +kernel), by decide +kernel⟩
theorem k_im_MD_isByte : Cond.instanceMethod ⟨"RunStoreModel", "isByte", "(II)Z"⟩ ∈ fhT := List.mem_filter.mpr ⟨List.mem_of_getElem? (i := 1083) (by decide +kernel), by decide +kernel⟩
theorem k_cd_MD_isByte : Cond.code ⟨"RunStoreModel", "isByte", "(II)Z"⟩ prog_9_method_51_code 3 (some .boolean) ∈ fhT := List.mem_filter.mpr ⟨List.mem_of_getElem? (i := 1084) (by decide +kernel), by decide +kernel⟩
theorem k_ml_LW_123 : Cond.methodLink "RunStoreLaw" 123 ⟨"RunStoreModel", "poke", "(III)I"⟩ ∈ fhT := List.mem_filter.mpr ⟨List.mem_of_getElem? (i := 1085) (by decide +kernel), by decide +kernel⟩
theorem k_im_MD_poke : Cond.instanceMethod ⟨"RunStoreModel", "poke", "(III)I"⟩ ∈ fhT := List.mem_filter.mpr ⟨List.mem_of_getElem? (i := 1086) (by decide +kernel), by decide +kernel⟩
theorem k_se_MD_poke : Cond.selects "RunStoreModel" ⟨"RunStoreModel", "poke", "(III)I"⟩ ⟨"RunStoreModel", "poke", "(III)I"⟩ ∈ fhT := List.mem_filter.mpr ⟨List.mem_of_getElem? (i := 1087) (by decide +kernel), by decide +kernel⟩
theorem k_cd_MD_poke : Cond.code ⟨"RunStoreModel", "poke", "(III)I"⟩ prog_9_method_53_code 4 (some .int) ∈ fhT := List.mem_filter.mpr ⟨List.mem_of_getElem? (i := 1088) (by decide +kernel), by decide +kernel⟩
theorem k_ml_LW_126 : Cond.methodLink "RunStoreLaw" 126 ⟨"RunStoreModel", "sum", "(I)I"⟩ ∈ fhT := List.mem_filter.mpr ⟨List.mem_of_getElem? (i := 1089) (by decide +kernel), by decide +kernel⟩
theorem k_im_MD_sum : Cond.instanceMethod ⟨"RunStoreModel", "sum", "(I)I"⟩ ∈ fhT := List.mem_filter.mpr ⟨List.mem_of_getElem? (i := 1090) (by decide +kernel), by decide +kernel⟩
theorem k_se_MD_sum : Cond.selects "RunStoreModel" ⟨"RunStoreModel", "sum", "(I)I"⟩ ⟨"RunStoreModel", "sum", "(I)I"⟩ ∈ fhT := List.mem_filter.mpr ⟨List.mem_of_getElem? (i := 1091) (by decide +kernel), by decide +kernel⟩
theorem k_cd_MD_sum : Cond.code ⟨"RunStoreModel", "sum", "(I)I"⟩ prog_9_method_54_code 2 (some .int) ∈ fhT := List.mem_filter.mpr ⟨List.mem_of_getElem? (i := 1092) (by decide +kernel), by decide +kernel⟩
theorem k_ml_LW_129 : Cond.methodLink "RunStoreLaw" 129 ⟨"RunStoreModel", "logged", "(I)I"⟩ ∈ fhT := List.mem_filter.mpr ⟨List.mem_of_getElem? (i := 1093) (by decide +kernel), by decide +kernel⟩
theorem k_im_MD_logged : Cond.instanceMethod ⟨"RunStoreModel", "logged", "(I)I"⟩ ∈ fhT := List.mem_filter.mpr ⟨List.mem_of_getElem? (i := 1094) (by decide +kernel), by decide +kernel⟩
theorem k_se_MD_logged : Cond.selects "RunStoreModel" ⟨"RunStoreModel", "logged", "(I)I"⟩ ⟨"RunStoreModel", "logged", "(I)I"⟩ ∈ fhT := List.mem_filter.mpr ⟨List.mem_of_getElem? (i := 1095) (by decide +kernel), by decide +kernel⟩
theorem k_cd_MD_logged : Cond.code ⟨"RunStoreModel", "logged", "(I)I"⟩ prog_9_method_55_code 2 (some .int) ∈ fhT := List.mem_filter.mpr ⟨List.mem_of_getElem? (i := 1096) (by decide +kernel), by decide +kernel⟩
theorem k_ml_LW_132 : Cond.methodLink "RunStoreLaw" 132 ⟨"RunStoreModel", "crash", "(III)I"⟩ ∈ fhT := List.mem_filter.mpr ⟨List.mem_of_getElem? (i := 1097) (by decide +kernel), by decide +kernel⟩
theorem k_im_MD_crash : Cond.instanceMethod ⟨"RunStoreModel", "crash", "(III)I"⟩ ∈ fhT := List.mem_filter.mpr ⟨List.mem_of_getElem? (i := 1098) (by decide +kernel), by decide +kernel⟩
theorem k_se_MD_crash : Cond.selects "RunStoreModel" ⟨"RunStoreModel", "crash", "(III)I"⟩ ⟨"RunStoreModel", "crash", "(III)I"⟩ ∈ fhT := List.mem_filter.mpr ⟨List.mem_of_getElem? (i := 1099) (by decide +kernel), by decide +kernel⟩
theorem k_cd_MD_crash : Cond.code ⟨"RunStoreModel", "crash", "(III)I"⟩ prog_9_method_57_code 12 (some .int) ∈ fhT := List.mem_filter.mpr ⟨List.mem_of_getElem? (i := 1100) (by decide +kernel), by decide +kernel⟩
theorem k_ml_MD_261 : Cond.methodLink "RunStoreModel" 261 ⟨"RunStoreModel", "wholeAt", "(II)I"⟩ ∈ fhT := List.mem_filter.mpr ⟨List.mem_of_getElem? (i := 1101) (by decide +kernel), by decide +kernel⟩
theorem k_im_MD_wholeAt : Cond.instanceMethod ⟨"RunStoreModel", "wholeAt", "(II)I"⟩ ∈ fhT := List.mem_filter.mpr ⟨List.mem_of_getElem? (i := 1103) (by decide +kernel), by decide +kernel⟩
theorem k_cd_MD_wholeAt : Cond.code ⟨"RunStoreModel", "wholeAt", "(II)I"⟩ prog_9_method_56_code 5 (some .int) ∈ fhT := List.mem_filter.mpr ⟨List.mem_of_getElem? (i := 1104) (by decide +kernel), by decide +kernel⟩
theorem k_ml_LW_136 : Cond.methodLink "RunStoreLaw" 136 ⟨"RunStoreModel", "badAt", "()I"⟩ ∈ fhT := List.mem_filter.mpr ⟨List.mem_of_getElem? (i := 1105) (by decide +kernel), by decide +kernel⟩
theorem k_im_MD_badAt : Cond.instanceMethod ⟨"RunStoreModel", "badAt", "()I"⟩ ∈ fhT := List.mem_filter.mpr ⟨List.mem_of_getElem? (i := 1106) (by decide +kernel), by decide +kernel⟩
theorem k_se_MD_badAt : Cond.selects "RunStoreModel" ⟨"RunStoreModel", "badAt", "()I"⟩ ⟨"RunStoreModel", "badAt", "()I"⟩ ∈ fhT := List.mem_filter.mpr ⟨List.mem_of_getElem? (i := 1107) (by decide +kernel), by decide +kernel⟩
theorem k_cd_MD_badAt : Cond.code ⟨"RunStoreModel", "badAt", "()I"⟩ prog_9_method_58_code 1 (some .int) ∈ fhT := List.mem_filter.mpr ⟨List.mem_of_getElem? (i := 1108) (by decide +kernel), by decide +kernel⟩
theorem k_ml_LW_140 : Cond.methodLink "RunStoreLaw" 140 ⟨"RunStoreModel", "check", "()I"⟩ ∈ fhT := List.mem_filter.mpr ⟨List.mem_of_getElem? (i := 1109) (by decide +kernel), by decide +kernel⟩
theorem k_im_MD_check : Cond.instanceMethod ⟨"RunStoreModel", "check", "()I"⟩ ∈ fhT := List.mem_filter.mpr ⟨List.mem_of_getElem? (i := 1110) (by decide +kernel), by decide +kernel⟩
theorem k_se_MD_check : Cond.selects "RunStoreModel" ⟨"RunStoreModel", "check", "()I"⟩ ⟨"RunStoreModel", "check", "()I"⟩ ∈ fhT := List.mem_filter.mpr ⟨List.mem_of_getElem? (i := 1111) (by decide +kernel), by decide +kernel⟩
theorem k_cd_MD_check : Cond.code ⟨"RunStoreModel", "check", "()I"⟩ prog_9_method_59_code 5 (some .int) ∈ fhT := List.mem_filter.mpr ⟨List.mem_of_getElem? (i := 1112) (by decide +kernel), by decide +kernel⟩
theorem k_ml_LW_144 : Cond.methodLink "RunStoreLaw" 144 ⟨"RunStoreModel", "count", "(I)I"⟩ ∈ fhT := List.mem_filter.mpr ⟨List.mem_of_getElem? (i := 1113) (by decide +kernel), by decide +kernel⟩
theorem k_im_MD_count : Cond.instanceMethod ⟨"RunStoreModel", "count", "(I)I"⟩ ∈ fhT := List.mem_filter.mpr ⟨List.mem_of_getElem? (i := 1114) (by decide +kernel), by decide +kernel⟩
theorem k_se_MD_count : Cond.selects "RunStoreModel" ⟨"RunStoreModel", "count", "(I)I"⟩ ⟨"RunStoreModel", "count", "(I)I"⟩ ∈ fhT := List.mem_filter.mpr ⟨List.mem_of_getElem? (i := 1115) (by decide +kernel), by decide +kernel⟩
theorem k_cd_MD_count : Cond.code ⟨"RunStoreModel", "count", "(I)I"⟩ prog_9_method_60_code 4 (some .int) ∈ fhT := List.mem_filter.mpr ⟨List.mem_of_getElem? (i := 1116) (by decide +kernel), by decide +kernel⟩
theorem k_ct_LW_79 : Cond.constantLong "RunStoreLaw" 79 4294967295 ∈ fhT := List.mem_filter.mpr ⟨List.mem_of_getElem? (i := 1117) (by decide +kernel), by decide +kernel⟩
theorem k_se_LG_nextByte : Cond.selects "RunStore$Log" ⟨"RunStore$Log", "nextByte", "()I"⟩ ⟨"RunStore$Log", "nextByte", "()I"⟩ ∈ fhT := List.mem_filter.mpr ⟨List.mem_of_getElem? (i := 1119) (by decide +kernel), by decide +kernel⟩
theorem i_BL : ∀ w ∈ u_ws R_BL T_BL 4, w ∈ fhT := by decide +kernel
theorem i_LG : ∀ w ∈ u_ws R_LG T_LG 7, w ∈ fhT := by decide +kernel
theorem i_RW : ∀ w ∈ u_ws R_RW T_RW 4, w ∈ fhT := by decide +kernel
theorem i_TB : ∀ w ∈ u_ws R_TB T_TB 4, w ∈ fhT := by decide +kernel
theorem i_TR : ∀ w ∈ u_ws R_TR T_TR 8, w ∈ fhT := by decide +kernel
theorem i_RS : ∀ w ∈ u_ws R_RS T_RS 10, w ∈ fhT := by decide +kernel
theorem i_MD : ∀ w ∈ u_ws R_MD T_MD 34, w ∈ fhT := by decide +kernel
theorem n_BL : ∀ a, a < 4 → ∀ b, b < 4 → a ≠ b → (T_BL a).2.1 ≠ (T_BL b).2.1 := by decide +kernel
theorem t_BL_ok : ∀ k, k < 4 → parseFieldDescriptor (T_BL k).2.2.1 = some (t_BL k) := by decide +kernel
theorem n_LG : ∀ a, a < 7 → ∀ b, b < 7 → a ≠ b → (T_LG a).2.1 ≠ (T_LG b).2.1 := by decide +kernel
theorem t_LG_ok : ∀ k, k < 7 → parseFieldDescriptor (T_LG k).2.2.1 = some (t_LG k) := by decide +kernel
theorem n_RW : ∀ a, a < 4 → ∀ b, b < 4 → a ≠ b → (T_RW a).2.1 ≠ (T_RW b).2.1 := by decide +kernel
theorem t_RW_ok : ∀ k, k < 4 → parseFieldDescriptor (T_RW k).2.2.1 = some (t_RW k) := by decide +kernel
theorem n_TB : ∀ a, a < 4 → ∀ b, b < 4 → a ≠ b → (T_TB a).2.1 ≠ (T_TB b).2.1 := by decide +kernel
theorem t_TB_ok : ∀ k, k < 4 → parseFieldDescriptor (T_TB k).2.2.1 = some (t_TB k) := by decide +kernel
theorem n_TR : ∀ a, a < 8 → ∀ b, b < 8 → a ≠ b → (T_TR a).2.1 ≠ (T_TR b).2.1 := by decide +kernel
theorem t_TR_ok : ∀ k, k < 8 → parseFieldDescriptor (T_TR k).2.2.1 = some (t_TR k) := by decide +kernel
theorem n_RS : ∀ a, a < 10 → ∀ b, b < 10 → a ≠ b → (T_RS a).2.1 ≠ (T_RS b).2.1 := by decide +kernel
theorem t_RS_ok : ∀ k, k < 10 → parseFieldDescriptor (T_RS k).2.2.1 = some (t_RS k) := by decide +kernel
theorem n_MD : ∀ a, a < 34 → ∀ b, b < 34 → a ≠ b → (T_MD a).2.1 ≠ (T_MD b).2.1 := by decide +kernel
theorem t_MD_ok : ∀ k, k < 34 → parseFieldDescriptor (T_MD k).2.2.1 = some (t_MD k) := by decide +kernel
