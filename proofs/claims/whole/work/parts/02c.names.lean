abbrev b_RS_init : ByteArray := prog_1_method_1_code
def y_RS_init : MethodName := ⟨"RunStore", "<init>", "(I)V"⟩
theorem d_RS_init_0 : decode b_RS_init 0 = .ok (.aload_n 0, 1) := by decide +kernel
theorem d_RS_init_1 : decode b_RS_init 1 = .ok (.invokespecial 3, 3) := by decide +kernel
theorem d_RS_init_4 : decode b_RS_init 4 = .ok (.iconst 4, 1) := by decide +kernel
theorem d_RS_init_5 : decode b_RS_init 5 = .ok (.iload_n 1, 1) := by decide +kernel
theorem d_RS_init_6 : decode b_RS_init 6 = .ok (.bipush 125, 2) := by decide +kernel
theorem d_RS_init_8 : decode b_RS_init 8 = .ok (.invokestatic 9, 3) := by decide +kernel
theorem d_RS_init_11 : decode b_RS_init 11 = .ok (.iadd, 1) := by decide +kernel
theorem d_RS_init_12 : decode b_RS_init 12 = .ok (.istore_n 2, 1) := by decide +kernel
theorem d_RS_init_13 : decode b_RS_init 13 = .ok (.aload_n 0, 1) := by decide +kernel
theorem d_RS_init_14 : decode b_RS_init 14 = .ok (.new 15, 3) := by decide +kernel
theorem d_RS_init_17 : decode b_RS_init 17 = .ok (.dup, 1) := by decide +kernel
theorem d_RS_init_18 : decode b_RS_init 18 = .ok (.bipush 24, 2) := by decide +kernel
theorem d_RS_init_20 : decode b_RS_init 20 = .ok (.invokespecial 17, 3) := by decide +kernel
theorem d_RS_init_23 : decode b_RS_init 23 = .ok (.putfield 20, 3) := by decide +kernel
theorem d_RS_init_26 : decode b_RS_init 26 = .ok (.aload_n 0, 1) := by decide +kernel
theorem d_RS_init_27 : decode b_RS_init 27 = .ok (.new 24, 3) := by decide +kernel
theorem d_RS_init_30 : decode b_RS_init 30 = .ok (.dup, 1) := by decide +kernel
theorem d_RS_init_31 : decode b_RS_init 31 = .ok (.invokespecial 26, 3) := by decide +kernel
theorem d_RS_init_34 : decode b_RS_init 34 = .ok (.putfield 27, 3) := by decide +kernel
theorem d_RS_init_37 : decode b_RS_init 37 = .ok (.aload_n 0, 1) := by decide +kernel
theorem d_RS_init_38 : decode b_RS_init 38 = .ok (.new 31, 3) := by decide +kernel
theorem d_RS_init_41 : decode b_RS_init 41 = .ok (.dup, 1) := by decide +kernel
theorem d_RS_init_42 : decode b_RS_init 42 = .ok (.iload_n 2, 1) := by decide +kernel
theorem d_RS_init_43 : decode b_RS_init 43 = .ok (.invokespecial 33, 3) := by decide +kernel
theorem d_RS_init_46 : decode b_RS_init 46 = .ok (.putfield 34, 3) := by decide +kernel
theorem d_RS_init_49 : decode b_RS_init 49 = .ok (.aload_n 0, 1) := by decide +kernel
theorem d_RS_init_50 : decode b_RS_init 50 = .ok (.new 38, 3) := by decide +kernel
theorem d_RS_init_53 : decode b_RS_init 53 = .ok (.dup, 1) := by decide +kernel
theorem d_RS_init_54 : decode b_RS_init 54 = .ok (.aload_n 0, 1) := by decide +kernel
theorem d_RS_init_55 : decode b_RS_init 55 = .ok (.getfield 34, 3) := by decide +kernel
theorem d_RS_init_58 : decode b_RS_init 58 = .ok (.invokespecial 40, 3) := by decide +kernel
theorem d_RS_init_61 : decode b_RS_init 61 = .ok (.putfield 43, 3) := by decide +kernel
theorem d_RS_init_64 : decode b_RS_init 64 = .ok (.aload_n 0, 1) := by decide +kernel
theorem d_RS_init_65 : decode b_RS_init 65 = .ok (.bipush 16, 2) := by decide +kernel
theorem d_RS_init_67 : decode b_RS_init 67 = .ok (.anewarray 47, 3) := by decide +kernel
theorem d_RS_init_70 : decode b_RS_init 70 = .ok (.putfield 49, 3) := by decide +kernel
theorem d_RS_init_73 : decode b_RS_init 73 = .ok (.aload_n 0, 1) := by decide +kernel
theorem d_RS_init_74 : decode b_RS_init 74 = .ok (.new 15, 3) := by decide +kernel
theorem d_RS_init_77 : decode b_RS_init 77 = .ok (.dup, 1) := by decide +kernel
theorem d_RS_init_78 : decode b_RS_init 78 = .ok (.bipush 24, 2) := by decide +kernel
theorem d_RS_init_80 : decode b_RS_init 80 = .ok (.iload_n 2, 1) := by decide +kernel
theorem d_RS_init_81 : decode b_RS_init 81 = .ok (.bipush 32, 2) := by decide +kernel
theorem d_RS_init_83 : decode b_RS_init 83 = .ok (.imul, 1) := by decide +kernel
theorem d_RS_init_84 : decode b_RS_init 84 = .ok (.bipush 9, 2) := by decide +kernel
theorem d_RS_init_86 : decode b_RS_init 86 = .ok (.idiv, 1) := by decide +kernel
theorem d_RS_init_87 : decode b_RS_init 87 = .ok (.iadd, 1) := by decide +kernel
theorem d_RS_init_88 : decode b_RS_init 88 = .ok (.invokespecial 17, 3) := by decide +kernel
theorem d_RS_init_91 : decode b_RS_init 91 = .ok (.putfield 53, 3) := by decide +kernel
theorem d_RS_init_94 : decode b_RS_init 94 = .ok (.aload_n 0, 1) := by decide +kernel
theorem d_RS_init_95 : decode b_RS_init 95 = .ok (.iconst (-1), 1) := by decide +kernel
theorem d_RS_init_96 : decode b_RS_init 96 = .ok (.putfield 56, 3) := by decide +kernel
theorem d_RS_init_99 : decode b_RS_init 99 = .ok (.return_, 1) := by decide +kernel
abbrev b_MA_floorMod : ByteArray := prog_14_method_50_code
def y_MA_floorMod : MethodName := ⟨"java/lang/Math", "floorMod", "(II)I"⟩
abbrev b_RS_badAt : ByteArray := prog_1_method_16_code
def y_RS_badAt : MethodName := ⟨"RunStore", "badAt", "()I"⟩
theorem d_RS_badAt_0 : decode b_RS_badAt 0 = .ok (.aload_n 0, 1) := by decide +kernel
theorem d_RS_badAt_1 : decode b_RS_badAt 1 = .ok (.getfield 56, 3) := by decide +kernel
theorem d_RS_badAt_4 : decode b_RS_badAt 4 = .ok (.ireturn, 1) := by decide +kernel
abbrev b_RS_check : ByteArray := prog_1_method_17_code
def y_RS_check : MethodName := ⟨"RunStore", "check", "()I"⟩
theorem d_RS_check_0 : decode b_RS_check 0 = .ok (.aload_n 0, 1) := by decide +kernel
theorem d_RS_check_1 : decode b_RS_check 1 = .ok (.getfield 34, 3) := by decide +kernel
theorem d_RS_check_4 : decode b_RS_check 4 = .ok (.invokevirtual 206, 3) := by decide +kernel
theorem d_RS_check_7 : decode b_RS_check 7 = .ok (.ireturn, 1) := by decide +kernel
abbrev b_RS_count : ByteArray := prog_1_method_18_code
def y_RS_count : MethodName := ⟨"RunStore", "count", "(I)I"⟩
theorem d_RS_count_0 : decode b_RS_count 0 = .ok (.iload_n 1, 1) := by decide +kernel
theorem d_RS_count_1 : decode b_RS_count 1 = .ok (.tableswitch 103 0 7 #[47, 56, 64, 72, 77, 85, 93, 98], 47) := by decide +kernel
theorem d_RS_count_48 : decode b_RS_count 48 = .ok (.aload_n 0, 1) := by decide +kernel
theorem d_RS_count_49 : decode b_RS_count 49 = .ok (.getfield 34, 3) := by decide +kernel
theorem d_RS_count_52 : decode b_RS_count 52 = .ok (.getfield 185, 3) := by decide +kernel
theorem d_RS_count_55 : decode b_RS_count 55 = .ok (.arraylength, 1) := by decide +kernel
theorem d_RS_count_56 : decode b_RS_count 56 = .ok (.ireturn, 1) := by decide +kernel
theorem d_RS_count_57 : decode b_RS_count 57 = .ok (.aload_n 0, 1) := by decide +kernel
theorem d_RS_count_58 : decode b_RS_count 58 = .ok (.getfield 20, 3) := by decide +kernel
theorem d_RS_count_61 : decode b_RS_count 61 = .ok (.getfield 75, 3) := by decide +kernel
theorem d_RS_count_64 : decode b_RS_count 64 = .ok (.ireturn, 1) := by decide +kernel
theorem d_RS_count_65 : decode b_RS_count 65 = .ok (.aload_n 0, 1) := by decide +kernel
theorem d_RS_count_66 : decode b_RS_count 66 = .ok (.getfield 27, 3) := by decide +kernel
theorem d_RS_count_69 : decode b_RS_count 69 = .ok (.getfield 188, 3) := by decide +kernel
theorem d_RS_count_72 : decode b_RS_count 72 = .ok (.ireturn, 1) := by decide +kernel
theorem d_RS_count_73 : decode b_RS_count 73 = .ok (.aload_n 0, 1) := by decide +kernel
theorem d_RS_count_74 : decode b_RS_count 74 = .ok (.getfield 83, 3) := by decide +kernel
theorem d_RS_count_77 : decode b_RS_count 77 = .ok (.ireturn, 1) := by decide +kernel
theorem d_RS_count_78 : decode b_RS_count 78 = .ok (.aload_n 0, 1) := by decide +kernel
theorem d_RS_count_79 : decode b_RS_count 79 = .ok (.getfield 34, 3) := by decide +kernel
theorem d_RS_count_82 : decode b_RS_count 82 = .ok (.invokevirtual 210, 3) := by decide +kernel
theorem d_RS_count_85 : decode b_RS_count 85 = .ok (.ireturn, 1) := by decide +kernel
theorem d_RS_count_86 : decode b_RS_count 86 = .ok (.aload_n 0, 1) := by decide +kernel
theorem d_RS_count_87 : decode b_RS_count 87 = .ok (.getfield 34, 3) := by decide +kernel
theorem d_RS_count_90 : decode b_RS_count 90 = .ok (.getfield 213, 3) := by decide +kernel
theorem d_RS_count_93 : decode b_RS_count 93 = .ok (.ireturn, 1) := by decide +kernel
theorem d_RS_count_94 : decode b_RS_count 94 = .ok (.aload_n 0, 1) := by decide +kernel
theorem d_RS_count_95 : decode b_RS_count 95 = .ok (.getfield 216, 3) := by decide +kernel
theorem d_RS_count_98 : decode b_RS_count 98 = .ok (.ireturn, 1) := by decide +kernel
theorem d_RS_count_99 : decode b_RS_count 99 = .ok (.aload_n 0, 1) := by decide +kernel
theorem d_RS_count_100 : decode b_RS_count 100 = .ok (.invokevirtual 219, 3) := by decide +kernel
theorem d_RS_count_103 : decode b_RS_count 103 = .ok (.ireturn, 1) := by decide +kernel
theorem d_RS_count_104 : decode b_RS_count 104 = .ok (.iconst (-1), 1) := by decide +kernel
theorem d_RS_count_105 : decode b_RS_count 105 = .ok (.ireturn, 1) := by decide +kernel
abbrev b_RS_entriesOfTables : ByteArray := prog_1_method_28_code
def y_RS_entriesOfTables : MethodName := ⟨"RunStore", "entriesOfTables", "()I"⟩
theorem d_RS_entriesOfTables_0 : decode b_RS_entriesOfTables 0 = .ok (.iconst 0, 1) := by decide +kernel
theorem d_RS_entriesOfTables_1 : decode b_RS_entriesOfTables 1 = .ok (.istore_n 1, 1) := by decide +kernel
theorem d_RS_entriesOfTables_2 : decode b_RS_entriesOfTables 2 = .ok (.iconst 0, 1) := by decide +kernel
theorem d_RS_entriesOfTables_3 : decode b_RS_entriesOfTables 3 = .ok (.istore_n 2, 1) := by decide +kernel
theorem d_RS_entriesOfTables_4 : decode b_RS_entriesOfTables 4 = .ok (.iload_n 2, 1) := by decide +kernel
theorem d_RS_entriesOfTables_5 : decode b_RS_entriesOfTables 5 = .ok (.aload_n 0, 1) := by decide +kernel
theorem d_RS_entriesOfTables_6 : decode b_RS_entriesOfTables 6 = .ok (.getfield 83, 3) := by decide +kernel
theorem d_RS_entriesOfTables_9 : decode b_RS_entriesOfTables 9 = .ok (.if_icmp .ge 30, 3) := by decide +kernel
theorem d_RS_entriesOfTables_12 : decode b_RS_entriesOfTables 12 = .ok (.aload_n 0, 1) := by decide +kernel
theorem d_RS_entriesOfTables_13 : decode b_RS_entriesOfTables 13 = .ok (.getfield 49, 3) := by decide +kernel
theorem d_RS_entriesOfTables_16 : decode b_RS_entriesOfTables 16 = .ok (.iload_n 2, 1) := by decide +kernel
theorem d_RS_entriesOfTables_17 : decode b_RS_entriesOfTables 17 = .ok (.aaload, 1) := by decide +kernel
theorem d_RS_entriesOfTables_18 : decode b_RS_entriesOfTables 18 = .ok (.ifnull 15, 3) := by decide +kernel
theorem d_RS_entriesOfTables_21 : decode b_RS_entriesOfTables 21 = .ok (.iload_n 1, 1) := by decide +kernel
theorem d_RS_entriesOfTables_22 : decode b_RS_entriesOfTables 22 = .ok (.aload_n 0, 1) := by decide +kernel
theorem d_RS_entriesOfTables_23 : decode b_RS_entriesOfTables 23 = .ok (.getfield 49, 3) := by decide +kernel
theorem d_RS_entriesOfTables_26 : decode b_RS_entriesOfTables 26 = .ok (.iload_n 2, 1) := by decide +kernel
theorem d_RS_entriesOfTables_27 : decode b_RS_entriesOfTables 27 = .ok (.aaload, 1) := by decide +kernel
theorem d_RS_entriesOfTables_28 : decode b_RS_entriesOfTables 28 = .ok (.getfield 158, 3) := by decide +kernel
theorem d_RS_entriesOfTables_31 : decode b_RS_entriesOfTables 31 = .ok (.iadd, 1) := by decide +kernel
theorem d_RS_entriesOfTables_32 : decode b_RS_entriesOfTables 32 = .ok (.istore_n 1, 1) := by decide +kernel
theorem d_RS_entriesOfTables_33 : decode b_RS_entriesOfTables 33 = .ok (.iinc 2 1, 3) := by decide +kernel
theorem d_RS_entriesOfTables_36 : decode b_RS_entriesOfTables 36 = .ok (.goto (-32), 3) := by decide +kernel
theorem d_RS_entriesOfTables_39 : decode b_RS_entriesOfTables 39 = .ok (.iload_n 1, 1) := by decide +kernel
theorem d_RS_entriesOfTables_40 : decode b_RS_entriesOfTables 40 = .ok (.ireturn, 1) := by decide +kernel
abbrev b_RS_put : ByteArray := prog_1_method_2_code
def y_RS_put : MethodName := ⟨"RunStore", "put", "(JJI)I"⟩
theorem d_RS_put_0 : decode b_RS_put 0 = .ok (.iload 5, 2) := by decide +kernel
theorem d_RS_put_2 : decode b_RS_put 2 = .ok (.ifCond .lt 10, 3) := by decide +kernel
theorem d_RS_put_5 : decode b_RS_put 5 = .ok (.iload 5, 2) := by decide +kernel
theorem d_RS_put_7 : decode b_RS_put 7 = .ok (.bipush 8, 2) := by decide +kernel
theorem d_RS_put_9 : decode b_RS_put 9 = .ok (.if_icmp .le 13, 3) := by decide +kernel
theorem d_RS_put_12 : decode b_RS_put 12 = .ok (.new 60, 3) := by decide +kernel
theorem d_RS_put_15 : decode b_RS_put 15 = .ok (.dup, 1) := by decide +kernel
theorem d_RS_put_16 : decode b_RS_put 16 = .ok (.ldc 62, 2) := by decide +kernel
theorem d_RS_put_18 : decode b_RS_put 18 = .ok (.invokespecial 64, 3) := by decide +kernel
theorem d_RS_put_21 : decode b_RS_put 21 = .ok (.athrow, 1) := by decide +kernel
theorem d_RS_put_22 : decode b_RS_put 22 = .ok (.aload_n 0, 1) := by decide +kernel
theorem d_RS_put_23 : decode b_RS_put 23 = .ok (.lload_n 1, 1) := by decide +kernel
theorem d_RS_put_24 : decode b_RS_put 24 = .ok (.iload 5, 2) := by decide +kernel
theorem d_RS_put_26 : decode b_RS_put 26 = .ok (.lload_n 3, 1) := by decide +kernel
theorem d_RS_put_27 : decode b_RS_put 27 = .ok (.iload 5, 2) := by decide +kernel
theorem d_RS_put_29 : decode b_RS_put 29 = .ok (.invokestatic 67, 3) := by decide +kernel
theorem d_RS_put_32 : decode b_RS_put 32 = .ok (.invokevirtual 71, 3) := by decide +kernel
theorem d_RS_put_35 : decode b_RS_put 35 = .ok (.ireturn, 1) := by decide +kernel
abbrev b_RS_lowestBytes : ByteArray := prog_1_method_31_code
def y_RS_lowestBytes : MethodName := ⟨"RunStore", "lowestBytes", "(JI)J"⟩
theorem d_RS_lowestBytes_0 : decode b_RS_lowestBytes 0 = .ok (.iload_n 2, 1) := by decide +kernel
theorem d_RS_lowestBytes_1 : decode b_RS_lowestBytes 1 = .ok (.bipush 8, 2) := by decide +kernel
theorem d_RS_lowestBytes_3 : decode b_RS_lowestBytes 3 = .ok (.if_icmp .lt 7, 3) := by decide +kernel
theorem d_RS_lowestBytes_6 : decode b_RS_lowestBytes 6 = .ok (.lload_n 0, 1) := by decide +kernel
theorem d_RS_lowestBytes_7 : decode b_RS_lowestBytes 7 = .ok (.goto 13, 3) := by decide +kernel
theorem d_RS_lowestBytes_10 : decode b_RS_lowestBytes 10 = .ok (.lload_n 0, 1) := by decide +kernel
theorem d_RS_lowestBytes_11 : decode b_RS_lowestBytes 11 = .ok (.lconst 1, 1) := by decide +kernel
theorem d_RS_lowestBytes_12 : decode b_RS_lowestBytes 12 = .ok (.bipush 8, 2) := by decide +kernel
theorem d_RS_lowestBytes_14 : decode b_RS_lowestBytes 14 = .ok (.iload_n 2, 1) := by decide +kernel
theorem d_RS_lowestBytes_15 : decode b_RS_lowestBytes 15 = .ok (.imul, 1) := by decide +kernel
theorem d_RS_lowestBytes_16 : decode b_RS_lowestBytes 16 = .ok (.lshl, 1) := by decide +kernel
theorem d_RS_lowestBytes_17 : decode b_RS_lowestBytes 17 = .ok (.lconst 1, 1) := by decide +kernel
theorem d_RS_lowestBytes_18 : decode b_RS_lowestBytes 18 = .ok (.lsub, 1) := by decide +kernel
theorem d_RS_lowestBytes_19 : decode b_RS_lowestBytes 19 = .ok (.land, 1) := by decide +kernel
theorem d_RS_lowestBytes_20 : decode b_RS_lowestBytes 20 = .ok (.lreturn, 1) := by decide +kernel
abbrev b_RS_enter : ByteArray := prog_1_method_19_code
def y_RS_enter : MethodName := ⟨"RunStore", "enter", "(JIJ)I"⟩
theorem d_RS_enter_0 : decode b_RS_enter 0 = .ok (.aload_n 0, 1) := by decide +kernel
theorem d_RS_enter_1 : decode b_RS_enter 1 = .ok (.getfield 20, 3) := by decide +kernel
theorem d_RS_enter_4 : decode b_RS_enter 4 = .ok (.lload_n 1, 1) := by decide +kernel
theorem d_RS_enter_5 : decode b_RS_enter 5 = .ok (.invokevirtual 222, 3) := by decide +kernel
theorem d_RS_enter_8 : decode b_RS_enter 8 = .ok (.ifCond .ne 13, 3) := by decide +kernel
theorem d_RS_enter_11 : decode b_RS_enter 11 = .ok (.new 86, 3) := by decide +kernel
theorem d_RS_enter_14 : decode b_RS_enter 14 = .ok (.dup, 1) := by decide +kernel
theorem d_RS_enter_15 : decode b_RS_enter 15 = .ok (.ldc 225, 2) := by decide +kernel
theorem d_RS_enter_17 : decode b_RS_enter 17 = .ok (.invokespecial 90, 3) := by decide +kernel
theorem d_RS_enter_20 : decode b_RS_enter 20 = .ok (.athrow, 1) := by decide +kernel
theorem d_RS_enter_21 : decode b_RS_enter 21 = .ok (.aload_n 0, 1) := by decide +kernel
theorem d_RS_enter_22 : decode b_RS_enter 22 = .ok (.getfield 27, 3) := by decide +kernel
theorem d_RS_enter_25 : decode b_RS_enter 25 = .ok (.iload_n 3, 1) := by decide +kernel
theorem d_RS_enter_26 : decode b_RS_enter 26 = .ok (.invokevirtual 227, 3) := by decide +kernel
theorem d_RS_enter_29 : decode b_RS_enter 29 = .ok (.ifCond .ne 13, 3) := by decide +kernel
theorem d_RS_enter_32 : decode b_RS_enter 32 = .ok (.new 86, 3) := by decide +kernel
theorem d_RS_enter_35 : decode b_RS_enter 35 = .ok (.dup, 1) := by decide +kernel
theorem d_RS_enter_36 : decode b_RS_enter 36 = .ok (.ldc 229, 2) := by decide +kernel
theorem d_RS_enter_38 : decode b_RS_enter 38 = .ok (.invokespecial 90, 3) := by decide +kernel
theorem d_RS_enter_41 : decode b_RS_enter 41 = .ok (.athrow, 1) := by decide +kernel
theorem d_RS_enter_42 : decode b_RS_enter 42 = .ok (.aload_n 0, 1) := by decide +kernel
theorem d_RS_enter_43 : decode b_RS_enter 43 = .ok (.getfield 27, 3) := by decide +kernel
theorem d_RS_enter_46 : decode b_RS_enter 46 = .ok (.lload_n 1, 1) := by decide +kernel
theorem d_RS_enter_47 : decode b_RS_enter 47 = .ok (.iload_n 3, 1) := by decide +kernel
theorem d_RS_enter_48 : decode b_RS_enter 48 = .ok (.lload 4, 2) := by decide +kernel
theorem d_RS_enter_50 : decode b_RS_enter 50 = .ok (.invokevirtual 231, 3) := by decide +kernel
theorem d_RS_enter_53 : decode b_RS_enter 53 = .ok (.aload_n 0, 1) := by decide +kernel
theorem d_RS_enter_54 : decode b_RS_enter 54 = .ok (.getfield 20, 3) := by decide +kernel
theorem d_RS_enter_57 : decode b_RS_enter 57 = .ok (.lload_n 1, 1) := by decide +kernel
theorem d_RS_enter_58 : decode b_RS_enter 58 = .ok (.iload_n 3, 1) := by decide +kernel
theorem d_RS_enter_59 : decode b_RS_enter 59 = .ok (.lload 4, 2) := by decide +kernel
theorem d_RS_enter_61 : decode b_RS_enter 61 = .ok (.invokevirtual 235, 3) := by decide +kernel
theorem d_RS_enter_64 : decode b_RS_enter 64 = .ok (.pop, 1) := by decide +kernel
theorem d_RS_enter_65 : decode b_RS_enter 65 = .ok (.aload_n 0, 1) := by decide +kernel
theorem d_RS_enter_66 : decode b_RS_enter 66 = .ok (.getfield 20, 3) := by decide +kernel
theorem d_RS_enter_69 : decode b_RS_enter 69 = .ok (.getfield 75, 3) := by decide +kernel
theorem d_RS_enter_72 : decode b_RS_enter 72 = .ok (.ireturn, 1) := by decide +kernel
abbrev b_RS_entryBytes : ByteArray := prog_1_method_32_code
def y_RS_entryBytes : MethodName := ⟨"RunStore", "entryBytes", "(I)I"⟩
theorem d_RS_entryBytes_0 : decode b_RS_entryBytes 0 = .ok (.iload_n 0, 1) := by decide +kernel
theorem d_RS_entryBytes_1 : decode b_RS_entryBytes 1 = .ok (.sipush 255, 3) := by decide +kernel
theorem d_RS_entryBytes_4 : decode b_RS_entryBytes 4 = .ok (.if_icmp .ne 8, 3) := by decide +kernel
theorem d_RS_entryBytes_7 : decode b_RS_entryBytes 7 = .ok (.bipush 9, 2) := by decide +kernel
theorem d_RS_entryBytes_9 : decode b_RS_entryBytes 9 = .ok (.goto 7, 3) := by decide +kernel
theorem d_RS_entryBytes_12 : decode b_RS_entryBytes 12 = .ok (.bipush 9, 2) := by decide +kernel
theorem d_RS_entryBytes_14 : decode b_RS_entryBytes 14 = .ok (.iload_n 0, 1) := by decide +kernel
theorem d_RS_entryBytes_15 : decode b_RS_entryBytes 15 = .ok (.iadd, 1) := by decide +kernel
theorem d_RS_entryBytes_16 : decode b_RS_entryBytes 16 = .ok (.ireturn, 1) := by decide +kernel
abbrev b_RS_entryByte : ByteArray := prog_1_method_33_code
def y_RS_entryByte : MethodName := ⟨"RunStore", "entryByte", "(JIJI)I"⟩
theorem d_RS_entryByte_0 : decode b_RS_entryByte 0 = .ok (.iload 5, 2) := by decide +kernel
theorem d_RS_entryByte_2 : decode b_RS_entryByte 2 = .ok (.bipush 8, 2) := by decide +kernel
theorem d_RS_entryByte_4 : decode b_RS_entryByte 4 = .ok (.if_icmp .ge 19, 3) := by decide +kernel
theorem d_RS_entryByte_7 : decode b_RS_entryByte 7 = .ok (.lload_n 0, 1) := by decide +kernel
theorem d_RS_entryByte_8 : decode b_RS_entryByte 8 = .ok (.bipush 8, 2) := by decide +kernel
theorem d_RS_entryByte_10 : decode b_RS_entryByte 10 = .ok (.bipush 7, 2) := by decide +kernel
theorem d_RS_entryByte_12 : decode b_RS_entryByte 12 = .ok (.iload 5, 2) := by decide +kernel
theorem d_RS_entryByte_14 : decode b_RS_entryByte 14 = .ok (.isub, 1) := by decide +kernel
theorem d_RS_entryByte_15 : decode b_RS_entryByte 15 = .ok (.imul, 1) := by decide +kernel
theorem d_RS_entryByte_16 : decode b_RS_entryByte 16 = .ok (.lushr, 1) := by decide +kernel
theorem d_RS_entryByte_17 : decode b_RS_entryByte 17 = .ok (.l2i, 1) := by decide +kernel
theorem d_RS_entryByte_18 : decode b_RS_entryByte 18 = .ok (.sipush 255, 3) := by decide +kernel
theorem d_RS_entryByte_21 : decode b_RS_entryByte 21 = .ok (.iand, 1) := by decide +kernel
theorem d_RS_entryByte_22 : decode b_RS_entryByte 22 = .ok (.ireturn, 1) := by decide +kernel
theorem d_RS_entryByte_23 : decode b_RS_entryByte 23 = .ok (.iload 5, 2) := by decide +kernel
theorem d_RS_entryByte_25 : decode b_RS_entryByte 25 = .ok (.bipush 8, 2) := by decide +kernel
theorem d_RS_entryByte_27 : decode b_RS_entryByte 27 = .ok (.if_icmp .ne 5, 3) := by decide +kernel
theorem d_RS_entryByte_30 : decode b_RS_entryByte 30 = .ok (.iload_n 2, 1) := by decide +kernel
theorem d_RS_entryByte_31 : decode b_RS_entryByte 31 = .ok (.ireturn, 1) := by decide +kernel
theorem d_RS_entryByte_32 : decode b_RS_entryByte 32 = .ok (.lload_n 3, 1) := by decide +kernel
theorem d_RS_entryByte_33 : decode b_RS_entryByte 33 = .ok (.bipush 8, 2) := by decide +kernel
theorem d_RS_entryByte_35 : decode b_RS_entryByte 35 = .ok (.iload_n 2, 1) := by decide +kernel
theorem d_RS_entryByte_36 : decode b_RS_entryByte 36 = .ok (.invokestatic 287, 3) := by decide +kernel
theorem d_RS_entryByte_39 : decode b_RS_entryByte 39 = .ok (.iconst 1, 1) := by decide +kernel
theorem d_RS_entryByte_40 : decode b_RS_entryByte 40 = .ok (.isub, 1) := by decide +kernel
theorem d_RS_entryByte_41 : decode b_RS_entryByte 41 = .ok (.iload 5, 2) := by decide +kernel
theorem d_RS_entryByte_43 : decode b_RS_entryByte 43 = .ok (.isub, 1) := by decide +kernel
theorem d_RS_entryByte_44 : decode b_RS_entryByte 44 = .ok (.imul, 1) := by decide +kernel
theorem d_RS_entryByte_45 : decode b_RS_entryByte 45 = .ok (.lushr, 1) := by decide +kernel
theorem d_RS_entryByte_46 : decode b_RS_entryByte 46 = .ok (.l2i, 1) := by decide +kernel
theorem d_RS_entryByte_47 : decode b_RS_entryByte 47 = .ok (.sipush 255, 3) := by decide +kernel
theorem d_RS_entryByte_50 : decode b_RS_entryByte 50 = .ok (.iand, 1) := by decide +kernel
theorem d_RS_entryByte_51 : decode b_RS_entryByte 51 = .ok (.ireturn, 1) := by decide +kernel
abbrev b_RS_drop : ByteArray := prog_1_method_3_code
def y_RS_drop : MethodName := ⟨"RunStore", "drop", "(J)I"⟩
theorem d_RS_drop_0 : decode b_RS_drop 0 = .ok (.aload_n 0, 1) := by decide +kernel
theorem d_RS_drop_1 : decode b_RS_drop 1 = .ok (.lload_n 1, 1) := by decide +kernel
theorem d_RS_drop_2 : decode b_RS_drop 2 = .ok (.sipush 255, 3) := by decide +kernel
theorem d_RS_drop_5 : decode b_RS_drop 5 = .ok (.lconst 0, 1) := by decide +kernel
theorem d_RS_drop_6 : decode b_RS_drop 6 = .ok (.invokevirtual 71, 3) := by decide +kernel
theorem d_RS_drop_9 : decode b_RS_drop 9 = .ok (.ireturn, 1) := by decide +kernel
abbrev b_RS_flush : ByteArray := prog_1_method_4_code
def y_RS_flush : MethodName := ⟨"RunStore", "flush", "()I"⟩
theorem d_RS_flush_0 : decode b_RS_flush 0 = .ok (.aload_n 0, 1) := by decide +kernel
theorem d_RS_flush_1 : decode b_RS_flush 1 = .ok (.getfield 20, 3) := by decide +kernel
theorem d_RS_flush_4 : decode b_RS_flush 4 = .ok (.getfield 75, 3) := by decide +kernel
theorem d_RS_flush_7 : decode b_RS_flush 7 = .ok (.ifCond .ne 13, 3) := by decide +kernel
theorem d_RS_flush_10 : decode b_RS_flush 10 = .ok (.new 78, 3) := by decide +kernel
theorem d_RS_flush_13 : decode b_RS_flush 13 = .ok (.dup, 1) := by decide +kernel
theorem d_RS_flush_14 : decode b_RS_flush 14 = .ok (.ldc 80, 2) := by decide +kernel
theorem d_RS_flush_16 : decode b_RS_flush 16 = .ok (.invokespecial 82, 3) := by decide +kernel
theorem d_RS_flush_19 : decode b_RS_flush 19 = .ok (.athrow, 1) := by decide +kernel
theorem d_RS_flush_20 : decode b_RS_flush 20 = .ok (.aload_n 0, 1) := by decide +kernel
theorem d_RS_flush_21 : decode b_RS_flush 21 = .ok (.getfield 83, 3) := by decide +kernel
theorem d_RS_flush_24 : decode b_RS_flush 24 = .ok (.bipush 16, 2) := by decide +kernel
theorem d_RS_flush_26 : decode b_RS_flush 26 = .ok (.if_icmp .lt 13, 3) := by decide +kernel
theorem d_RS_flush_29 : decode b_RS_flush 29 = .ok (.new 86, 3) := by decide +kernel
theorem d_RS_flush_32 : decode b_RS_flush 32 = .ok (.dup, 1) := by decide +kernel
theorem d_RS_flush_33 : decode b_RS_flush 33 = .ok (.ldc 88, 2) := by decide +kernel
theorem d_RS_flush_35 : decode b_RS_flush 35 = .ok (.invokespecial 90, 3) := by decide +kernel
theorem d_RS_flush_38 : decode b_RS_flush 38 = .ok (.athrow, 1) := by decide +kernel
theorem d_RS_flush_39 : decode b_RS_flush 39 = .ok (.aload_n 0, 1) := by decide +kernel
theorem d_RS_flush_40 : decode b_RS_flush 40 = .ok (.getfield 34, 3) := by decide +kernel
theorem d_RS_flush_43 : decode b_RS_flush 43 = .ok (.iconst 0, 1) := by decide +kernel
theorem d_RS_flush_44 : decode b_RS_flush 44 = .ok (.aload_n 0, 1) := by decide +kernel
theorem d_RS_flush_45 : decode b_RS_flush 45 = .ok (.getfield 20, 3) := by decide +kernel
theorem d_RS_flush_48 : decode b_RS_flush 48 = .ok (.invokevirtual 91, 3) := by decide +kernel
theorem d_RS_flush_51 : decode b_RS_flush 51 = .ok (.astore_n 1, 1) := by decide +kernel
theorem d_RS_flush_52 : decode b_RS_flush 52 = .ok (.aload_n 1, 1) := by decide +kernel
theorem d_RS_flush_53 : decode b_RS_flush 53 = .ok (.ifnonnull 13, 3) := by decide +kernel
theorem d_RS_flush_56 : decode b_RS_flush 56 = .ok (.new 86, 3) := by decide +kernel
theorem d_RS_flush_59 : decode b_RS_flush 59 = .ok (.dup, 1) := by decide +kernel
theorem d_RS_flush_60 : decode b_RS_flush 60 = .ok (.ldc 95, 2) := by decide +kernel
theorem d_RS_flush_62 : decode b_RS_flush 62 = .ok (.invokespecial 90, 3) := by decide +kernel
theorem d_RS_flush_65 : decode b_RS_flush 65 = .ok (.athrow, 1) := by decide +kernel
theorem d_RS_flush_66 : decode b_RS_flush 66 = .ok (.aload_n 0, 1) := by decide +kernel
theorem d_RS_flush_67 : decode b_RS_flush 67 = .ok (.iconst 0, 1) := by decide +kernel
theorem d_RS_flush_68 : decode b_RS_flush 68 = .ok (.aload_n 1, 1) := by decide +kernel
theorem d_RS_flush_69 : decode b_RS_flush 69 = .ok (.invokevirtual 97, 3) := by decide +kernel
theorem d_RS_flush_72 : decode b_RS_flush 72 = .ok (.aload_n 0, 1) := by decide +kernel
theorem d_RS_flush_73 : decode b_RS_flush 73 = .ok (.getfield 20, 3) := by decide +kernel
theorem d_RS_flush_76 : decode b_RS_flush 76 = .ok (.invokevirtual 101, 3) := by decide +kernel
theorem d_RS_flush_79 : decode b_RS_flush 79 = .ok (.aload_n 0, 1) := by decide +kernel
theorem d_RS_flush_80 : decode b_RS_flush 80 = .ok (.getfield 27, 3) := by decide +kernel
theorem d_RS_flush_83 : decode b_RS_flush 83 = .ok (.invokevirtual 104, 3) := by decide +kernel
theorem d_RS_flush_86 : decode b_RS_flush 86 = .ok (.aload_n 1, 1) := by decide +kernel
theorem d_RS_flush_87 : decode b_RS_flush 87 = .ok (.getfield 105, 3) := by decide +kernel
theorem d_RS_flush_90 : decode b_RS_flush 90 = .ok (.arraylength, 1) := by decide +kernel
theorem d_RS_flush_91 : decode b_RS_flush 91 = .ok (.ireturn, 1) := by decide +kernel
abbrev b_RS_filterBits : ByteArray := prog_1_method_34_code
def y_RS_filterBits : MethodName := ⟨"RunStore", "filterBits", "(J)J"⟩
theorem d_RS_filterBits_0 : decode b_RS_filterBits 0 = .ok (.lload_n 0, 1) := by decide +kernel
theorem d_RS_filterBits_1 : decode b_RS_filterBits 1 = .ok (.ldc2_w 290, 3) := by decide +kernel
theorem d_RS_filterBits_4 : decode b_RS_filterBits 4 = .ok (.lmul, 1) := by decide +kernel
theorem d_RS_filterBits_5 : decode b_RS_filterBits 5 = .ok (.lstore_n 2, 1) := by decide +kernel
theorem d_RS_filterBits_6 : decode b_RS_filterBits 6 = .ok (.lconst 1, 1) := by decide +kernel
theorem d_RS_filterBits_7 : decode b_RS_filterBits 7 = .ok (.lload_n 2, 1) := by decide +kernel
theorem d_RS_filterBits_8 : decode b_RS_filterBits 8 = .ok (.bipush 58, 2) := by decide +kernel
theorem d_RS_filterBits_10 : decode b_RS_filterBits 10 = .ok (.lushr, 1) := by decide +kernel
theorem d_RS_filterBits_11 : decode b_RS_filterBits 11 = .ok (.l2i, 1) := by decide +kernel
theorem d_RS_filterBits_12 : decode b_RS_filterBits 12 = .ok (.lshl, 1) := by decide +kernel
theorem d_RS_filterBits_13 : decode b_RS_filterBits 13 = .ok (.lconst 1, 1) := by decide +kernel
theorem d_RS_filterBits_14 : decode b_RS_filterBits 14 = .ok (.lload_n 2, 1) := by decide +kernel
theorem d_RS_filterBits_15 : decode b_RS_filterBits 15 = .ok (.bipush 52, 2) := by decide +kernel
theorem d_RS_filterBits_17 : decode b_RS_filterBits 17 = .ok (.lushr, 1) := by decide +kernel
theorem d_RS_filterBits_18 : decode b_RS_filterBits 18 = .ok (.ldc2_w 292, 3) := by decide +kernel
theorem d_RS_filterBits_21 : decode b_RS_filterBits 21 = .ok (.land, 1) := by decide +kernel
theorem d_RS_filterBits_22 : decode b_RS_filterBits 22 = .ok (.l2i, 1) := by decide +kernel
theorem d_RS_filterBits_23 : decode b_RS_filterBits 23 = .ok (.lshl, 1) := by decide +kernel
theorem d_RS_filterBits_24 : decode b_RS_filterBits 24 = .ok (.lor, 1) := by decide +kernel
theorem d_RS_filterBits_25 : decode b_RS_filterBits 25 = .ok (.lreturn, 1) := by decide +kernel
abbrev b_RS_insertTable : ByteArray := prog_1_method_29_code
def y_RS_insertTable : MethodName := ⟨"RunStore", "insertTable", "(ILRunStore$Table;)V"⟩
theorem d_RS_insertTable_0 : decode b_RS_insertTable 0 = .ok (.aload_n 0, 1) := by decide +kernel
theorem d_RS_insertTable_1 : decode b_RS_insertTable 1 = .ok (.getfield 83, 3) := by decide +kernel
theorem d_RS_insertTable_4 : decode b_RS_insertTable 4 = .ok (.bipush 16, 2) := by decide +kernel
theorem d_RS_insertTable_6 : decode b_RS_insertTable 6 = .ok (.if_icmp .ge 15, 3) := by decide +kernel
theorem d_RS_insertTable_9 : decode b_RS_insertTable 9 = .ok (.iload_n 1, 1) := by decide +kernel
theorem d_RS_insertTable_10 : decode b_RS_insertTable 10 = .ok (.ifCond .lt 11, 3) := by decide +kernel
theorem d_RS_insertTable_13 : decode b_RS_insertTable 13 = .ok (.iload_n 1, 1) := by decide +kernel
theorem d_RS_insertTable_14 : decode b_RS_insertTable 14 = .ok (.aload_n 0, 1) := by decide +kernel
theorem d_RS_insertTable_15 : decode b_RS_insertTable 15 = .ok (.getfield 83, 3) := by decide +kernel
theorem d_RS_insertTable_18 : decode b_RS_insertTable 18 = .ok (.if_icmp .le 4, 3) := by decide +kernel
theorem d_RS_insertTable_21 : decode b_RS_insertTable 21 = .ok (.return_, 1) := by decide +kernel
theorem d_RS_insertTable_22 : decode b_RS_insertTable 22 = .ok (.aload_n 0, 1) := by decide +kernel
theorem d_RS_insertTable_23 : decode b_RS_insertTable 23 = .ok (.getfield 83, 3) := by decide +kernel
theorem d_RS_insertTable_26 : decode b_RS_insertTable 26 = .ok (.istore_n 3, 1) := by decide +kernel
theorem d_RS_insertTable_27 : decode b_RS_insertTable 27 = .ok (.iload_n 3, 1) := by decide +kernel
theorem d_RS_insertTable_28 : decode b_RS_insertTable 28 = .ok (.iload_n 1, 1) := by decide +kernel
theorem d_RS_insertTable_29 : decode b_RS_insertTable 29 = .ok (.if_icmp .le 23, 3) := by decide +kernel
theorem d_RS_insertTable_32 : decode b_RS_insertTable 32 = .ok (.aload_n 0, 1) := by decide +kernel
theorem d_RS_insertTable_33 : decode b_RS_insertTable 33 = .ok (.getfield 49, 3) := by decide +kernel
theorem d_RS_insertTable_36 : decode b_RS_insertTable 36 = .ok (.iload_n 3, 1) := by decide +kernel
theorem d_RS_insertTable_37 : decode b_RS_insertTable 37 = .ok (.aload_n 0, 1) := by decide +kernel
theorem d_RS_insertTable_38 : decode b_RS_insertTable 38 = .ok (.getfield 49, 3) := by decide +kernel
theorem d_RS_insertTable_41 : decode b_RS_insertTable 41 = .ok (.iload_n 3, 1) := by decide +kernel
theorem d_RS_insertTable_42 : decode b_RS_insertTable 42 = .ok (.iconst 1, 1) := by decide +kernel
theorem d_RS_insertTable_43 : decode b_RS_insertTable 43 = .ok (.isub, 1) := by decide +kernel
theorem d_RS_insertTable_44 : decode b_RS_insertTable 44 = .ok (.aaload, 1) := by decide +kernel
theorem d_RS_insertTable_45 : decode b_RS_insertTable 45 = .ok (.aastore, 1) := by decide +kernel
theorem d_RS_insertTable_46 : decode b_RS_insertTable 46 = .ok (.iinc 3 (-1), 3) := by decide +kernel
theorem d_RS_insertTable_49 : decode b_RS_insertTable 49 = .ok (.goto (-22), 3) := by decide +kernel
theorem d_RS_insertTable_52 : decode b_RS_insertTable 52 = .ok (.aload_n 0, 1) := by decide +kernel
theorem d_RS_insertTable_53 : decode b_RS_insertTable 53 = .ok (.getfield 49, 3) := by decide +kernel
theorem d_RS_insertTable_56 : decode b_RS_insertTable 56 = .ok (.iload_n 1, 1) := by decide +kernel
theorem d_RS_insertTable_57 : decode b_RS_insertTable 57 = .ok (.aload_n 2, 1) := by decide +kernel
theorem d_RS_insertTable_58 : decode b_RS_insertTable 58 = .ok (.aastore, 1) := by decide +kernel
theorem d_RS_insertTable_59 : decode b_RS_insertTable 59 = .ok (.aload_n 0, 1) := by decide +kernel
theorem d_RS_insertTable_60 : decode b_RS_insertTable 60 = .ok (.dup, 1) := by decide +kernel
theorem d_RS_insertTable_61 : decode b_RS_insertTable 61 = .ok (.getfield 83, 3) := by decide +kernel
theorem d_RS_insertTable_64 : decode b_RS_insertTable 64 = .ok (.iconst 1, 1) := by decide +kernel
theorem d_RS_insertTable_65 : decode b_RS_insertTable 65 = .ok (.iadd, 1) := by decide +kernel
theorem d_RS_insertTable_66 : decode b_RS_insertTable 66 = .ok (.putfield 83, 3) := by decide +kernel
theorem d_RS_insertTable_69 : decode b_RS_insertTable 69 = .ok (.return_, 1) := by decide +kernel
abbrev b_RS_join : ByteArray := prog_1_method_5_code
def y_RS_join : MethodName := ⟨"RunStore", "join", "(I)I"⟩
theorem d_RS_join_0 : decode b_RS_join 0 = .ok (.iload_n 1, 1) := by decide +kernel
theorem d_RS_join_1 : decode b_RS_join 1 = .ok (.ifCond .lt 8, 3) := by decide +kernel
theorem d_RS_join_4 : decode b_RS_join 4 = .ok (.iload_n 1, 1) := by decide +kernel
theorem d_RS_join_5 : decode b_RS_join 5 = .ok (.iconst 3, 1) := by decide +kernel
theorem d_RS_join_6 : decode b_RS_join 6 = .ok (.if_icmp .lt 13, 3) := by decide +kernel
theorem d_RS_join_9 : decode b_RS_join 9 = .ok (.new 60, 3) := by decide +kernel
theorem d_RS_join_12 : decode b_RS_join 12 = .ok (.dup, 1) := by decide +kernel
theorem d_RS_join_13 : decode b_RS_join 13 = .ok (.ldc 109, 2) := by decide +kernel
theorem d_RS_join_15 : decode b_RS_join 15 = .ok (.invokespecial 64, 3) := by decide +kernel
theorem d_RS_join_18 : decode b_RS_join 18 = .ok (.athrow, 1) := by decide +kernel
theorem d_RS_join_19 : decode b_RS_join 19 = .ok (.aload_n 0, 1) := by decide +kernel
theorem d_RS_join_20 : decode b_RS_join 20 = .ok (.iload_n 1, 1) := by decide +kernel
theorem d_RS_join_21 : decode b_RS_join 21 = .ok (.iconst 1, 1) := by decide +kernel
theorem d_RS_join_22 : decode b_RS_join 22 = .ok (.isub, 1) := by decide +kernel
theorem d_RS_join_23 : decode b_RS_join 23 = .ok (.invokevirtual 111, 3) := by decide +kernel
theorem d_RS_join_26 : decode b_RS_join 26 = .ok (.istore_n 2, 1) := by decide +kernel
theorem d_RS_join_27 : decode b_RS_join 27 = .ok (.iload_n 2, 1) := by decide +kernel
theorem d_RS_join_28 : decode b_RS_join 28 = .ok (.aload_n 0, 1) := by decide +kernel
theorem d_RS_join_29 : decode b_RS_join 29 = .ok (.iload_n 1, 1) := by decide +kernel
theorem d_RS_join_30 : decode b_RS_join 30 = .ok (.invokevirtual 111, 3) := by decide +kernel
theorem d_RS_join_33 : decode b_RS_join 33 = .ok (.if_icmp .ne 13, 3) := by decide +kernel
theorem d_RS_join_36 : decode b_RS_join 36 = .ok (.new 78, 3) := by decide +kernel
theorem d_RS_join_39 : decode b_RS_join 39 = .ok (.dup, 1) := by decide +kernel
theorem d_RS_join_40 : decode b_RS_join 40 = .ok (.ldc 115, 2) := by decide +kernel
theorem d_RS_join_42 : decode b_RS_join 42 = .ok (.invokespecial 82, 3) := by decide +kernel
theorem d_RS_join_45 : decode b_RS_join 45 = .ok (.athrow, 1) := by decide +kernel
theorem d_RS_join_46 : decode b_RS_join 46 = .ok (.aload_n 0, 1) := by decide +kernel
theorem d_RS_join_47 : decode b_RS_join 47 = .ok (.iload_n 1, 1) := by decide +kernel
theorem d_RS_join_48 : decode b_RS_join 48 = .ok (.iconst 1, 1) := by decide +kernel
theorem d_RS_join_49 : decode b_RS_join 49 = .ok (.iadd, 1) := by decide +kernel
theorem d_RS_join_50 : decode b_RS_join 50 = .ok (.invokevirtual 111, 3) := by decide +kernel
theorem d_RS_join_53 : decode b_RS_join 53 = .ok (.istore_n 3, 1) := by decide +kernel
theorem d_RS_join_54 : decode b_RS_join 54 = .ok (.aload_n 0, 1) := by decide +kernel
theorem d_RS_join_55 : decode b_RS_join 55 = .ok (.iconst (-1), 1) := by decide +kernel
theorem d_RS_join_56 : decode b_RS_join 56 = .ok (.putfield 56, 3) := by decide +kernel
theorem d_RS_join_59 : decode b_RS_join 59 = .ok (.aload_n 0, 1) := by decide +kernel
theorem d_RS_join_60 : decode b_RS_join 60 = .ok (.getfield 53, 3) := by decide +kernel
theorem d_RS_join_63 : decode b_RS_join 63 = .ok (.invokevirtual 101, 3) := by decide +kernel
theorem d_RS_join_66 : decode b_RS_join 66 = .ok (.aload_n 0, 1) := by decide +kernel
theorem d_RS_join_67 : decode b_RS_join 67 = .ok (.iload_n 2, 1) := by decide +kernel
theorem d_RS_join_68 : decode b_RS_join 68 = .ok (.iload_n 3, 1) := by decide +kernel
theorem d_RS_join_69 : decode b_RS_join 69 = .ok (.invokevirtual 117, 3) := by decide +kernel
theorem d_RS_join_72 : decode b_RS_join 72 = .ok (.aload_n 0, 1) := by decide +kernel
theorem d_RS_join_73 : decode b_RS_join 73 = .ok (.iload_n 2, 1) := by decide +kernel
theorem d_RS_join_74 : decode b_RS_join 74 = .ok (.iload_n 3, 1) := by decide +kernel
theorem d_RS_join_75 : decode b_RS_join 75 = .ok (.iconst 0, 1) := by decide +kernel
theorem d_RS_join_76 : decode b_RS_join 76 = .ok (.invokevirtual 121, 3) := by decide +kernel
theorem d_RS_join_79 : decode b_RS_join 79 = .ok (.iload_n 3, 1) := by decide +kernel
theorem d_RS_join_80 : decode b_RS_join 80 = .ok (.aload_n 0, 1) := by decide +kernel
theorem d_RS_join_81 : decode b_RS_join 81 = .ok (.getfield 83, 3) := by decide +kernel
theorem d_RS_join_84 : decode b_RS_join 84 = .ok (.if_icmp .ne 10, 3) := by decide +kernel
theorem d_RS_join_87 : decode b_RS_join 87 = .ok (.aload_n 0, 1) := by decide +kernel
theorem d_RS_join_88 : decode b_RS_join 88 = .ok (.getfield 53, 3) := by decide +kernel
theorem d_RS_join_91 : decode b_RS_join 91 = .ok (.invokevirtual 125, 3) := by decide +kernel
theorem d_RS_join_94 : decode b_RS_join 94 = .ok (.aconst_null, 1) := by decide +kernel
theorem d_RS_join_95 : decode b_RS_join 95 = .ok (.astore 4, 2) := by decide +kernel
theorem d_RS_join_97 : decode b_RS_join 97 = .ok (.aload_n 0, 1) := by decide +kernel
theorem d_RS_join_98 : decode b_RS_join 98 = .ok (.getfield 53, 3) := by decide +kernel
theorem d_RS_join_101 : decode b_RS_join 101 = .ok (.getfield 75, 3) := by decide +kernel
theorem d_RS_join_104 : decode b_RS_join 104 = .ok (.ifCond .le 34, 3) := by decide +kernel
theorem d_RS_join_107 : decode b_RS_join 107 = .ok (.aload_n 0, 1) := by decide +kernel
theorem d_RS_join_108 : decode b_RS_join 108 = .ok (.getfield 34, 3) := by decide +kernel
theorem d_RS_join_111 : decode b_RS_join 111 = .ok (.iload_n 1, 1) := by decide +kernel
theorem d_RS_join_112 : decode b_RS_join 112 = .ok (.iconst 1, 1) := by decide +kernel
theorem d_RS_join_113 : decode b_RS_join 113 = .ok (.iadd, 1) := by decide +kernel
theorem d_RS_join_114 : decode b_RS_join 114 = .ok (.aload_n 0, 1) := by decide +kernel
theorem d_RS_join_115 : decode b_RS_join 115 = .ok (.getfield 53, 3) := by decide +kernel
theorem d_RS_join_118 : decode b_RS_join 118 = .ok (.invokevirtual 91, 3) := by decide +kernel
theorem d_RS_join_121 : decode b_RS_join 121 = .ok (.astore 4, 2) := by decide +kernel
theorem d_RS_join_123 : decode b_RS_join 123 = .ok (.aload 4, 2) := by decide +kernel
theorem d_RS_join_125 : decode b_RS_join 125 = .ok (.ifnonnull 13, 3) := by decide +kernel
theorem d_RS_join_128 : decode b_RS_join 128 = .ok (.new 86, 3) := by decide +kernel
theorem d_RS_join_131 : decode b_RS_join 131 = .ok (.dup, 1) := by decide +kernel
theorem d_RS_join_132 : decode b_RS_join 132 = .ok (.ldc 95, 2) := by decide +kernel
theorem d_RS_join_134 : decode b_RS_join 134 = .ok (.invokespecial 90, 3) := by decide +kernel
theorem d_RS_join_137 : decode b_RS_join 137 = .ok (.athrow, 1) := by decide +kernel
theorem d_RS_join_138 : decode b_RS_join 138 = .ok (.aload_n 0, 1) := by decide +kernel
theorem d_RS_join_139 : decode b_RS_join 139 = .ok (.iload_n 2, 1) := by decide +kernel
theorem d_RS_join_140 : decode b_RS_join 140 = .ok (.iload_n 3, 1) := by decide +kernel
theorem d_RS_join_141 : decode b_RS_join 141 = .ok (.invokevirtual 128, 3) := by decide +kernel
theorem d_RS_join_144 : decode b_RS_join 144 = .ok (.aload 4, 2) := by decide +kernel
theorem d_RS_join_146 : decode b_RS_join 146 = .ok (.ifnull 10, 3) := by decide +kernel
theorem d_RS_join_149 : decode b_RS_join 149 = .ok (.aload_n 0, 1) := by decide +kernel
theorem d_RS_join_150 : decode b_RS_join 150 = .ok (.iload_n 2, 1) := by decide +kernel
theorem d_RS_join_151 : decode b_RS_join 151 = .ok (.aload 4, 2) := by decide +kernel
theorem d_RS_join_153 : decode b_RS_join 153 = .ok (.invokevirtual 97, 3) := by decide +kernel
theorem d_RS_join_156 : decode b_RS_join 156 = .ok (.aload_n 0, 1) := by decide +kernel
theorem d_RS_join_157 : decode b_RS_join 157 = .ok (.getfield 53, 3) := by decide +kernel
theorem d_RS_join_160 : decode b_RS_join 160 = .ok (.getfield 75, 3) := by decide +kernel
theorem d_RS_join_163 : decode b_RS_join 163 = .ok (.ireturn, 1) := by decide +kernel
abbrev b_RS_tablesUpTo : ByteArray := prog_1_method_27_code
def y_RS_tablesUpTo : MethodName := ⟨"RunStore", "tablesUpTo", "(I)I"⟩
theorem d_RS_tablesUpTo_0 : decode b_RS_tablesUpTo 0 = .ok (.iconst 0, 1) := by decide +kernel
theorem d_RS_tablesUpTo_1 : decode b_RS_tablesUpTo 1 = .ok (.istore_n 2, 1) := by decide +kernel
theorem d_RS_tablesUpTo_2 : decode b_RS_tablesUpTo 2 = .ok (.iconst 0, 1) := by decide +kernel
theorem d_RS_tablesUpTo_3 : decode b_RS_tablesUpTo 3 = .ok (.istore_n 3, 1) := by decide +kernel
theorem d_RS_tablesUpTo_4 : decode b_RS_tablesUpTo 4 = .ok (.iload_n 3, 1) := by decide +kernel
theorem d_RS_tablesUpTo_5 : decode b_RS_tablesUpTo 5 = .ok (.aload_n 0, 1) := by decide +kernel
theorem d_RS_tablesUpTo_6 : decode b_RS_tablesUpTo 6 = .ok (.getfield 83, 3) := by decide +kernel
theorem d_RS_tablesUpTo_9 : decode b_RS_tablesUpTo 9 = .ok (.if_icmp .ge 34, 3) := by decide +kernel
theorem d_RS_tablesUpTo_12 : decode b_RS_tablesUpTo 12 = .ok (.aload_n 0, 1) := by decide +kernel
theorem d_RS_tablesUpTo_13 : decode b_RS_tablesUpTo 13 = .ok (.getfield 49, 3) := by decide +kernel
theorem d_RS_tablesUpTo_16 : decode b_RS_tablesUpTo 16 = .ok (.iload_n 3, 1) := by decide +kernel
theorem d_RS_tablesUpTo_17 : decode b_RS_tablesUpTo 17 = .ok (.aaload, 1) := by decide +kernel
theorem d_RS_tablesUpTo_18 : decode b_RS_tablesUpTo 18 = .ok (.ifnull 19, 3) := by decide +kernel
theorem d_RS_tablesUpTo_21 : decode b_RS_tablesUpTo 21 = .ok (.aload_n 0, 1) := by decide +kernel
theorem d_RS_tablesUpTo_22 : decode b_RS_tablesUpTo 22 = .ok (.getfield 49, 3) := by decide +kernel
theorem d_RS_tablesUpTo_25 : decode b_RS_tablesUpTo 25 = .ok (.iload_n 3, 1) := by decide +kernel
theorem d_RS_tablesUpTo_26 : decode b_RS_tablesUpTo 26 = .ok (.aaload, 1) := by decide +kernel
theorem d_RS_tablesUpTo_27 : decode b_RS_tablesUpTo 27 = .ok (.getfield 155, 3) := by decide +kernel
theorem d_RS_tablesUpTo_30 : decode b_RS_tablesUpTo 30 = .ok (.iload_n 1, 1) := by decide +kernel
theorem d_RS_tablesUpTo_31 : decode b_RS_tablesUpTo 31 = .ok (.if_icmp .gt 6, 3) := by decide +kernel
theorem d_RS_tablesUpTo_34 : decode b_RS_tablesUpTo 34 = .ok (.iinc 2 1, 3) := by decide +kernel
theorem d_RS_tablesUpTo_37 : decode b_RS_tablesUpTo 37 = .ok (.iinc 3 1, 3) := by decide +kernel
theorem d_RS_tablesUpTo_40 : decode b_RS_tablesUpTo 40 = .ok (.goto (-36), 3) := by decide +kernel
theorem d_RS_tablesUpTo_43 : decode b_RS_tablesUpTo 43 = .ok (.iload_n 2, 1) := by decide +kernel
theorem d_RS_tablesUpTo_44 : decode b_RS_tablesUpTo 44 = .ok (.ireturn, 1) := by decide +kernel
abbrev b_RS_inspectTables : ByteArray := prog_1_method_22_code
def y_RS_inspectTables : MethodName := ⟨"RunStore", "inspectTables", "(II)V"⟩
theorem d_RS_inspectTables_0 : decode b_RS_inspectTables 0 = .ok (.iload_n 1, 1) := by decide +kernel
theorem d_RS_inspectTables_1 : decode b_RS_inspectTables 1 = .ok (.istore_n 3, 1) := by decide +kernel
theorem d_RS_inspectTables_2 : decode b_RS_inspectTables 2 = .ok (.iload_n 3, 1) := by decide +kernel
theorem d_RS_inspectTables_3 : decode b_RS_inspectTables 3 = .ok (.iload_n 2, 1) := by decide +kernel
theorem d_RS_inspectTables_4 : decode b_RS_inspectTables 4 = .ok (.if_icmp .ge 35, 3) := by decide +kernel
theorem d_RS_inspectTables_7 : decode b_RS_inspectTables 7 = .ok (.aload_n 0, 1) := by decide +kernel
theorem d_RS_inspectTables_8 : decode b_RS_inspectTables 8 = .ok (.getfield 49, 3) := by decide +kernel
theorem d_RS_inspectTables_11 : decode b_RS_inspectTables 11 = .ok (.iload_n 3, 1) := by decide +kernel
theorem d_RS_inspectTables_12 : decode b_RS_inspectTables 12 = .ok (.aaload, 1) := by decide +kernel
theorem d_RS_inspectTables_13 : decode b_RS_inspectTables 13 = .ok (.astore 4, 2) := by decide +kernel
theorem d_RS_inspectTables_15 : decode b_RS_inspectTables 15 = .ok (.aload 4, 2) := by decide +kernel
theorem d_RS_inspectTables_17 : decode b_RS_inspectTables 17 = .ok (.ifnull 16, 3) := by decide +kernel
theorem d_RS_inspectTables_20 : decode b_RS_inspectTables 20 = .ok (.aload_n 0, 1) := by decide +kernel
theorem d_RS_inspectTables_21 : decode b_RS_inspectTables 21 = .ok (.aload_n 0, 1) := by decide +kernel
theorem d_RS_inspectTables_22 : decode b_RS_inspectTables 22 = .ok (.getfield 34, 3) := by decide +kernel
theorem d_RS_inspectTables_25 : decode b_RS_inspectTables 25 = .ok (.aload 4, 2) := by decide +kernel
theorem d_RS_inspectTables_27 : decode b_RS_inspectTables 27 = .ok (.invokevirtual 269, 3) := by decide +kernel
theorem d_RS_inspectTables_30 : decode b_RS_inspectTables 30 = .ok (.invokevirtual 266, 3) := by decide +kernel
theorem d_RS_inspectTables_33 : decode b_RS_inspectTables 33 = .ok (.iinc 3 1, 3) := by decide +kernel
theorem d_RS_inspectTables_36 : decode b_RS_inspectTables 36 = .ok (.goto (-34), 3) := by decide +kernel
theorem d_RS_inspectTables_39 : decode b_RS_inspectTables 39 = .ok (.return_, 1) := by decide +kernel
abbrev b_RS_refuseFault : ByteArray := prog_1_method_24_code
def y_RS_refuseFault : MethodName := ⟨"RunStore", "refuseFault", "(I)V"⟩
theorem d_RS_refuseFault_0 : decode b_RS_refuseFault 0 = .ok (.iload_n 1, 1) := by decide +kernel
theorem d_RS_refuseFault_1 : decode b_RS_refuseFault 1 = .ok (.iconst (-1), 1) := by decide +kernel
theorem d_RS_refuseFault_2 : decode b_RS_refuseFault 2 = .ok (.if_icmp .eq 19, 3) := by decide +kernel
theorem d_RS_refuseFault_5 : decode b_RS_refuseFault 5 = .ok (.aload_n 0, 1) := by decide +kernel
theorem d_RS_refuseFault_6 : decode b_RS_refuseFault 6 = .ok (.iload_n 1, 1) := by decide +kernel
theorem d_RS_refuseFault_7 : decode b_RS_refuseFault 7 = .ok (.putfield 56, 3) := by decide +kernel
theorem d_RS_refuseFault_10 : decode b_RS_refuseFault 10 = .ok (.new 78, 3) := by decide +kernel
theorem d_RS_refuseFault_13 : decode b_RS_refuseFault 13 = .ok (.dup, 1) := by decide +kernel
theorem d_RS_refuseFault_14 : decode b_RS_refuseFault 14 = .ok (.ldc_w 277, 3) := by decide +kernel
theorem d_RS_refuseFault_17 : decode b_RS_refuseFault 17 = .ok (.invokespecial 82, 3) := by decide +kernel
theorem d_RS_refuseFault_20 : decode b_RS_refuseFault 20 = .ok (.athrow, 1) := by decide +kernel
theorem d_RS_refuseFault_21 : decode b_RS_refuseFault 21 = .ok (.return_, 1) := by decide +kernel
abbrev b_RS_gatherTables : ByteArray := prog_1_method_23_code
def y_RS_gatherTables : MethodName := ⟨"RunStore", "gatherTables", "(IIZ)V"⟩
theorem d_RS_gatherTables_0 : decode b_RS_gatherTables 0 = .ok (.iload_n 1, 1) := by decide +kernel
theorem d_RS_gatherTables_1 : decode b_RS_gatherTables 1 = .ok (.istore 4, 2) := by decide +kernel
theorem d_RS_gatherTables_3 : decode b_RS_gatherTables 3 = .ok (.iload 4, 2) := by decide +kernel
theorem d_RS_gatherTables_5 : decode b_RS_gatherTables 5 = .ok (.iload_n 2, 1) := by decide +kernel
theorem d_RS_gatherTables_6 : decode b_RS_gatherTables 6 = .ok (.if_icmp .ge 48, 3) := by decide +kernel
theorem d_RS_gatherTables_9 : decode b_RS_gatherTables 9 = .ok (.aload_n 0, 1) := by decide +kernel
theorem d_RS_gatherTables_10 : decode b_RS_gatherTables 10 = .ok (.getfield 49, 3) := by decide +kernel
theorem d_RS_gatherTables_13 : decode b_RS_gatherTables 13 = .ok (.iload 4, 2) := by decide +kernel
theorem d_RS_gatherTables_15 : decode b_RS_gatherTables 15 = .ok (.aaload, 1) := by decide +kernel
theorem d_RS_gatherTables_16 : decode b_RS_gatherTables 16 = .ok (.astore 5, 2) := by decide +kernel
theorem d_RS_gatherTables_18 : decode b_RS_gatherTables 18 = .ok (.aload 5, 2) := by decide +kernel
theorem d_RS_gatherTables_20 : decode b_RS_gatherTables 20 = .ok (.ifnull 28, 3) := by decide +kernel
theorem d_RS_gatherTables_23 : decode b_RS_gatherTables 23 = .ok (.aload_n 0, 1) := by decide +kernel
theorem d_RS_gatherTables_24 : decode b_RS_gatherTables 24 = .ok (.getfield 43, 3) := by decide +kernel
theorem d_RS_gatherTables_27 : decode b_RS_gatherTables 27 = .ok (.aload 5, 2) := by decide +kernel
theorem d_RS_gatherTables_29 : decode b_RS_gatherTables 29 = .ok (.iload_n 3, 1) := by decide +kernel
theorem d_RS_gatherTables_30 : decode b_RS_gatherTables 30 = .ok (.aload_n 0, 1) := by decide +kernel
theorem d_RS_gatherTables_31 : decode b_RS_gatherTables 31 = .ok (.getfield 53, 3) := by decide +kernel
theorem d_RS_gatherTables_34 : decode b_RS_gatherTables 34 = .ok (.invokevirtual 273, 3) := by decide +kernel
theorem d_RS_gatherTables_37 : decode b_RS_gatherTables 37 = .ok (.aload_n 0, 1) := by decide +kernel
theorem d_RS_gatherTables_38 : decode b_RS_gatherTables 38 = .ok (.aload_n 0, 1) := by decide +kernel
theorem d_RS_gatherTables_39 : decode b_RS_gatherTables 39 = .ok (.getfield 43, 3) := by decide +kernel
theorem d_RS_gatherTables_42 : decode b_RS_gatherTables 42 = .ok (.getfield 263, 3) := by decide +kernel
theorem d_RS_gatherTables_45 : decode b_RS_gatherTables 45 = .ok (.invokevirtual 266, 3) := by decide +kernel
theorem d_RS_gatherTables_48 : decode b_RS_gatherTables 48 = .ok (.iinc 4 1, 3) := by decide +kernel
theorem d_RS_gatherTables_51 : decode b_RS_gatherTables 51 = .ok (.goto (-48), 3) := by decide +kernel
theorem d_RS_gatherTables_54 : decode b_RS_gatherTables 54 = .ok (.return_, 1) := by decide +kernel
abbrev b_RS_removeTables : ByteArray := prog_1_method_30_code
def y_RS_removeTables : MethodName := ⟨"RunStore", "removeTables", "(II)V"⟩
theorem d_RS_removeTables_0 : decode b_RS_removeTables 0 = .ok (.iload_n 1, 1) := by decide +kernel
theorem d_RS_removeTables_1 : decode b_RS_removeTables 1 = .ok (.istore_n 3, 1) := by decide +kernel
theorem d_RS_removeTables_2 : decode b_RS_removeTables 2 = .ok (.iload_n 1, 1) := by decide +kernel
theorem d_RS_removeTables_3 : decode b_RS_removeTables 3 = .ok (.istore 4, 2) := by decide +kernel
theorem d_RS_removeTables_5 : decode b_RS_removeTables 5 = .ok (.iload 4, 2) := by decide +kernel
theorem d_RS_removeTables_7 : decode b_RS_removeTables 7 = .ok (.aload_n 0, 1) := by decide +kernel
theorem d_RS_removeTables_8 : decode b_RS_removeTables 8 = .ok (.getfield 83, 3) := by decide +kernel
theorem d_RS_removeTables_11 : decode b_RS_removeTables 11 = .ok (.if_icmp .ge 58, 3) := by decide +kernel
theorem d_RS_removeTables_14 : decode b_RS_removeTables 14 = .ok (.iload 4, 2) := by decide +kernel
theorem d_RS_removeTables_16 : decode b_RS_removeTables 16 = .ok (.iload_n 2, 1) := by decide +kernel
theorem d_RS_removeTables_17 : decode b_RS_removeTables 17 = .ok (.if_icmp .lt 22, 3) := by decide +kernel
theorem d_RS_removeTables_20 : decode b_RS_removeTables 20 = .ok (.aload_n 0, 1) := by decide +kernel
theorem d_RS_removeTables_21 : decode b_RS_removeTables 21 = .ok (.getfield 49, 3) := by decide +kernel
theorem d_RS_removeTables_24 : decode b_RS_removeTables 24 = .ok (.iload_n 3, 1) := by decide +kernel
theorem d_RS_removeTables_25 : decode b_RS_removeTables 25 = .ok (.aload_n 0, 1) := by decide +kernel
theorem d_RS_removeTables_26 : decode b_RS_removeTables 26 = .ok (.getfield 49, 3) := by decide +kernel
theorem d_RS_removeTables_29 : decode b_RS_removeTables 29 = .ok (.iload 4, 2) := by decide +kernel
theorem d_RS_removeTables_31 : decode b_RS_removeTables 31 = .ok (.aaload, 1) := by decide +kernel
theorem d_RS_removeTables_32 : decode b_RS_removeTables 32 = .ok (.aastore, 1) := by decide +kernel
theorem d_RS_removeTables_33 : decode b_RS_removeTables 33 = .ok (.iinc 3 1, 3) := by decide +kernel
theorem d_RS_removeTables_36 : decode b_RS_removeTables 36 = .ok (.goto 27, 3) := by decide +kernel
theorem d_RS_removeTables_39 : decode b_RS_removeTables 39 = .ok (.aload_n 0, 1) := by decide +kernel
theorem d_RS_removeTables_40 : decode b_RS_removeTables 40 = .ok (.getfield 49, 3) := by decide +kernel
theorem d_RS_removeTables_43 : decode b_RS_removeTables 43 = .ok (.iload 4, 2) := by decide +kernel
theorem d_RS_removeTables_45 : decode b_RS_removeTables 45 = .ok (.aaload, 1) := by decide +kernel
theorem d_RS_removeTables_46 : decode b_RS_removeTables 46 = .ok (.ifnull 17, 3) := by decide +kernel
theorem d_RS_removeTables_49 : decode b_RS_removeTables 49 = .ok (.aload_n 0, 1) := by decide +kernel
theorem d_RS_removeTables_50 : decode b_RS_removeTables 50 = .ok (.getfield 34, 3) := by decide +kernel
theorem d_RS_removeTables_53 : decode b_RS_removeTables 53 = .ok (.aload_n 0, 1) := by decide +kernel
theorem d_RS_removeTables_54 : decode b_RS_removeTables 54 = .ok (.getfield 49, 3) := by decide +kernel
theorem d_RS_removeTables_57 : decode b_RS_removeTables 57 = .ok (.iload 4, 2) := by decide +kernel
theorem d_RS_removeTables_59 : decode b_RS_removeTables 59 = .ok (.aaload, 1) := by decide +kernel
theorem d_RS_removeTables_60 : decode b_RS_removeTables 60 = .ok (.invokevirtual 283, 3) := by decide +kernel
theorem d_RS_removeTables_63 : decode b_RS_removeTables 63 = .ok (.iinc 4 1, 3) := by decide +kernel
theorem d_RS_removeTables_66 : decode b_RS_removeTables 66 = .ok (.goto (-61), 3) := by decide +kernel
theorem d_RS_removeTables_69 : decode b_RS_removeTables 69 = .ok (.iload_n 3, 1) := by decide +kernel
theorem d_RS_removeTables_70 : decode b_RS_removeTables 70 = .ok (.istore 4, 2) := by decide +kernel
theorem d_RS_removeTables_72 : decode b_RS_removeTables 72 = .ok (.iload 4, 2) := by decide +kernel
theorem d_RS_removeTables_74 : decode b_RS_removeTables 74 = .ok (.aload_n 0, 1) := by decide +kernel
theorem d_RS_removeTables_75 : decode b_RS_removeTables 75 = .ok (.getfield 83, 3) := by decide +kernel
theorem d_RS_removeTables_78 : decode b_RS_removeTables 78 = .ok (.if_icmp .ge 17, 3) := by decide +kernel
theorem d_RS_removeTables_81 : decode b_RS_removeTables 81 = .ok (.aload_n 0, 1) := by decide +kernel
theorem d_RS_removeTables_82 : decode b_RS_removeTables 82 = .ok (.getfield 49, 3) := by decide +kernel
theorem d_RS_removeTables_85 : decode b_RS_removeTables 85 = .ok (.iload 4, 2) := by decide +kernel
theorem d_RS_removeTables_87 : decode b_RS_removeTables 87 = .ok (.aconst_null, 1) := by decide +kernel
theorem d_RS_removeTables_88 : decode b_RS_removeTables 88 = .ok (.aastore, 1) := by decide +kernel
theorem d_RS_removeTables_89 : decode b_RS_removeTables 89 = .ok (.iinc 4 1, 3) := by decide +kernel
theorem d_RS_removeTables_92 : decode b_RS_removeTables 92 = .ok (.goto (-20), 3) := by decide +kernel
theorem d_RS_removeTables_95 : decode b_RS_removeTables 95 = .ok (.aload_n 0, 1) := by decide +kernel
theorem d_RS_removeTables_96 : decode b_RS_removeTables 96 = .ok (.iload_n 3, 1) := by decide +kernel
theorem d_RS_removeTables_97 : decode b_RS_removeTables 97 = .ok (.putfield 83, 3) := by decide +kernel
theorem d_RS_removeTables_100 : decode b_RS_removeTables 100 = .ok (.return_, 1) := by decide +kernel
abbrev b_RS_find : ByteArray := prog_1_method_6_code
def y_RS_find : MethodName := ⟨"RunStore", "find", "(J)J"⟩
theorem d_RS_find_0 : decode b_RS_find 0 = .ok (.aload_n 0, 1) := by decide +kernel
theorem d_RS_find_1 : decode b_RS_find 1 = .ok (.lload_n 1, 1) := by decide +kernel
theorem d_RS_find_2 : decode b_RS_find 2 = .ok (.invokevirtual 131, 3) := by decide +kernel
theorem d_RS_find_5 : decode b_RS_find 5 = .ok (.iconst (-1), 1) := by decide +kernel
theorem d_RS_find_6 : decode b_RS_find 6 = .ok (.if_icmp .ne 7, 3) := by decide +kernel
theorem d_RS_find_9 : decode b_RS_find 9 = .ok (.lconst 0, 1) := by decide +kernel
theorem d_RS_find_10 : decode b_RS_find 10 = .ok (.goto 7, 3) := by decide +kernel
theorem d_RS_find_13 : decode b_RS_find 13 = .ok (.aload_n 0, 1) := by decide +kernel
theorem d_RS_find_14 : decode b_RS_find 14 = .ok (.getfield 135, 3) := by decide +kernel
theorem d_RS_find_17 : decode b_RS_find 17 = .ok (.lreturn, 1) := by decide +kernel
abbrev b_RS_seek : ByteArray := prog_1_method_20_code
def y_RS_seek : MethodName := ⟨"RunStore", "seek", "(J)I"⟩
theorem d_RS_seek_0 : decode b_RS_seek 0 = .ok (.aload_n 0, 1) := by decide +kernel
theorem d_RS_seek_1 : decode b_RS_seek 1 = .ok (.iconst (-1), 1) := by decide +kernel
theorem d_RS_seek_2 : decode b_RS_seek 2 = .ok (.putfield 56, 3) := by decide +kernel
theorem d_RS_seek_5 : decode b_RS_seek 5 = .ok (.aload_n 0, 1) := by decide +kernel
theorem d_RS_seek_6 : decode b_RS_seek 6 = .ok (.getfield 20, 3) := by decide +kernel
theorem d_RS_seek_9 : decode b_RS_seek 9 = .ok (.lload_n 1, 1) := by decide +kernel
theorem d_RS_seek_10 : decode b_RS_seek 10 = .ok (.invokevirtual 239, 3) := by decide +kernel
theorem d_RS_seek_13 : decode b_RS_seek 13 = .ok (.istore_n 3, 1) := by decide +kernel
theorem d_RS_seek_14 : decode b_RS_seek 14 = .ok (.iload_n 3, 1) := by decide +kernel
theorem d_RS_seek_15 : decode b_RS_seek 15 = .ok (.ifCond .lt 26, 3) := by decide +kernel
theorem d_RS_seek_18 : decode b_RS_seek 18 = .ok (.aload_n 0, 1) := by decide +kernel
theorem d_RS_seek_19 : decode b_RS_seek 19 = .ok (.aload_n 0, 1) := by decide +kernel
theorem d_RS_seek_20 : decode b_RS_seek 20 = .ok (.getfield 20, 3) := by decide +kernel
theorem d_RS_seek_23 : decode b_RS_seek 23 = .ok (.getfield 242, 3) := by decide +kernel
theorem d_RS_seek_26 : decode b_RS_seek 26 = .ok (.iload_n 3, 1) := by decide +kernel
theorem d_RS_seek_27 : decode b_RS_seek 27 = .ok (.iaload, 1) := by decide +kernel
theorem d_RS_seek_28 : decode b_RS_seek 28 = .ok (.aload_n 0, 1) := by decide +kernel
theorem d_RS_seek_29 : decode b_RS_seek 29 = .ok (.getfield 20, 3) := by decide +kernel
theorem d_RS_seek_32 : decode b_RS_seek 32 = .ok (.getfield 245, 3) := by decide +kernel
theorem d_RS_seek_35 : decode b_RS_seek 35 = .ok (.iload_n 3, 1) := by decide +kernel
theorem d_RS_seek_36 : decode b_RS_seek 36 = .ok (.laload, 1) := by decide +kernel
theorem d_RS_seek_37 : decode b_RS_seek 37 = .ok (.invokevirtual 249, 3) := by decide +kernel
theorem d_RS_seek_40 : decode b_RS_seek 40 = .ok (.ireturn, 1) := by decide +kernel
theorem d_RS_seek_41 : decode b_RS_seek 41 = .ok (.iconst 0, 1) := by decide +kernel
theorem d_RS_seek_42 : decode b_RS_seek 42 = .ok (.istore 4, 2) := by decide +kernel
theorem d_RS_seek_44 : decode b_RS_seek 44 = .ok (.iload 4, 2) := by decide +kernel
theorem d_RS_seek_46 : decode b_RS_seek 46 = .ok (.aload_n 0, 1) := by decide +kernel
theorem d_RS_seek_47 : decode b_RS_seek 47 = .ok (.getfield 83, 3) := by decide +kernel
theorem d_RS_seek_50 : decode b_RS_seek 50 = .ok (.if_icmp .ge 91, 3) := by decide +kernel
theorem d_RS_seek_53 : decode b_RS_seek 53 = .ok (.aload_n 0, 1) := by decide +kernel
theorem d_RS_seek_54 : decode b_RS_seek 54 = .ok (.getfield 49, 3) := by decide +kernel
theorem d_RS_seek_57 : decode b_RS_seek 57 = .ok (.iload 4, 2) := by decide +kernel
theorem d_RS_seek_59 : decode b_RS_seek 59 = .ok (.aaload, 1) := by decide +kernel
theorem d_RS_seek_60 : decode b_RS_seek 60 = .ok (.astore 5, 2) := by decide +kernel
theorem d_RS_seek_62 : decode b_RS_seek 62 = .ok (.aload 5, 2) := by decide +kernel
theorem d_RS_seek_64 : decode b_RS_seek 64 = .ok (.ifnonnull 6, 3) := by decide +kernel
theorem d_RS_seek_67 : decode b_RS_seek 67 = .ok (.goto 68, 3) := by decide +kernel
theorem d_RS_seek_70 : decode b_RS_seek 70 = .ok (.aload 5, 2) := by decide +kernel
theorem d_RS_seek_72 : decode b_RS_seek 72 = .ok (.lload_n 1, 1) := by decide +kernel
theorem d_RS_seek_73 : decode b_RS_seek 73 = .ok (.invokevirtual 151, 3) := by decide +kernel
theorem d_RS_seek_76 : decode b_RS_seek 76 = .ok (.ifCond .ne 16, 3) := by decide +kernel
theorem d_RS_seek_79 : decode b_RS_seek 79 = .ok (.aload_n 0, 1) := by decide +kernel
theorem d_RS_seek_80 : decode b_RS_seek 80 = .ok (.dup, 1) := by decide +kernel
theorem d_RS_seek_81 : decode b_RS_seek 81 = .ok (.getfield 216, 3) := by decide +kernel
theorem d_RS_seek_84 : decode b_RS_seek 84 = .ok (.iconst 1, 1) := by decide +kernel
theorem d_RS_seek_85 : decode b_RS_seek 85 = .ok (.iadd, 1) := by decide +kernel
theorem d_RS_seek_86 : decode b_RS_seek 86 = .ok (.putfield 216, 3) := by decide +kernel
theorem d_RS_seek_89 : decode b_RS_seek 89 = .ok (.goto 46, 3) := by decide +kernel
theorem d_RS_seek_92 : decode b_RS_seek 92 = .ok (.aload_n 0, 1) := by decide +kernel
theorem d_RS_seek_93 : decode b_RS_seek 93 = .ok (.getfield 43, 3) := by decide +kernel
theorem d_RS_seek_96 : decode b_RS_seek 96 = .ok (.aload 5, 2) := by decide +kernel
theorem d_RS_seek_98 : decode b_RS_seek 98 = .ok (.lload_n 1, 1) := by decide +kernel
theorem d_RS_seek_99 : decode b_RS_seek 99 = .ok (.invokevirtual 253, 3) := by decide +kernel
theorem d_RS_seek_102 : decode b_RS_seek 102 = .ok (.ifCond .eq 22, 3) := by decide +kernel
theorem d_RS_seek_105 : decode b_RS_seek 105 = .ok (.aload_n 0, 1) := by decide +kernel
theorem d_RS_seek_106 : decode b_RS_seek 106 = .ok (.aload_n 0, 1) := by decide +kernel
theorem d_RS_seek_107 : decode b_RS_seek 107 = .ok (.getfield 43, 3) := by decide +kernel
theorem d_RS_seek_110 : decode b_RS_seek 110 = .ok (.getfield 257, 3) := by decide +kernel
theorem d_RS_seek_113 : decode b_RS_seek 113 = .ok (.aload_n 0, 1) := by decide +kernel
theorem d_RS_seek_114 : decode b_RS_seek 114 = .ok (.getfield 43, 3) := by decide +kernel
theorem d_RS_seek_117 : decode b_RS_seek 117 = .ok (.getfield 260, 3) := by decide +kernel
theorem d_RS_seek_120 : decode b_RS_seek 120 = .ok (.invokevirtual 249, 3) := by decide +kernel
theorem d_RS_seek_123 : decode b_RS_seek 123 = .ok (.ireturn, 1) := by decide +kernel
theorem d_RS_seek_124 : decode b_RS_seek 124 = .ok (.aload_n 0, 1) := by decide +kernel
theorem d_RS_seek_125 : decode b_RS_seek 125 = .ok (.aload_n 0, 1) := by decide +kernel
theorem d_RS_seek_126 : decode b_RS_seek 126 = .ok (.getfield 43, 3) := by decide +kernel
theorem d_RS_seek_129 : decode b_RS_seek 129 = .ok (.getfield 263, 3) := by decide +kernel
theorem d_RS_seek_132 : decode b_RS_seek 132 = .ok (.invokevirtual 266, 3) := by decide +kernel
theorem d_RS_seek_135 : decode b_RS_seek 135 = .ok (.iinc 4 1, 3) := by decide +kernel
theorem d_RS_seek_138 : decode b_RS_seek 138 = .ok (.goto (-94), 3) := by decide +kernel
theorem d_RS_seek_141 : decode b_RS_seek 141 = .ok (.iconst (-1), 1) := by decide +kernel
theorem d_RS_seek_142 : decode b_RS_seek 142 = .ok (.ireturn, 1) := by decide +kernel
abbrev b_RS_sought : ByteArray := prog_1_method_21_code
def y_RS_sought : MethodName := ⟨"RunStore", "sought", "(IJ)I"⟩
theorem d_RS_sought_0 : decode b_RS_sought 0 = .ok (.aload_n 0, 1) := by decide +kernel
theorem d_RS_sought_1 : decode b_RS_sought 1 = .ok (.lload_n 2, 1) := by decide +kernel
theorem d_RS_sought_2 : decode b_RS_sought 2 = .ok (.putfield 135, 3) := by decide +kernel
theorem d_RS_sought_5 : decode b_RS_sought 5 = .ok (.iload_n 1, 1) := by decide +kernel
theorem d_RS_sought_6 : decode b_RS_sought 6 = .ok (.sipush 255, 3) := by decide +kernel
theorem d_RS_sought_9 : decode b_RS_sought 9 = .ok (.if_icmp .ne 7, 3) := by decide +kernel
theorem d_RS_sought_12 : decode b_RS_sought 12 = .ok (.iconst (-1), 1) := by decide +kernel
theorem d_RS_sought_13 : decode b_RS_sought 13 = .ok (.goto 4, 3) := by decide +kernel
theorem d_RS_sought_16 : decode b_RS_sought 16 = .ok (.iload_n 1, 1) := by decide +kernel
theorem d_RS_sought_17 : decode b_RS_sought 17 = .ok (.ireturn, 1) := by decide +kernel
abbrev b_RS_length : ByteArray := prog_1_method_7_code
def y_RS_length : MethodName := ⟨"RunStore", "length", "(J)I"⟩
theorem d_RS_length_0 : decode b_RS_length 0 = .ok (.aload_n 0, 1) := by decide +kernel
theorem d_RS_length_1 : decode b_RS_length 1 = .ok (.lload_n 1, 1) := by decide +kernel
theorem d_RS_length_2 : decode b_RS_length 2 = .ok (.invokevirtual 131, 3) := by decide +kernel
theorem d_RS_length_5 : decode b_RS_length 5 = .ok (.ireturn, 1) := by decide +kernel
abbrev b_RS_after : ByteArray := prog_1_method_8_code
def y_RS_after : MethodName := ⟨"RunStore", "after", "(J)J"⟩
theorem d_RS_after_0 : decode b_RS_after 0 = .ok (.aload_n 0, 1) := by decide +kernel
theorem d_RS_after_1 : decode b_RS_after 1 = .ok (.iconst (-1), 1) := by decide +kernel
theorem d_RS_after_2 : decode b_RS_after 2 = .ok (.putfield 56, 3) := by decide +kernel
theorem d_RS_after_5 : decode b_RS_after 5 = .ok (.aload_n 0, 1) := by decide +kernel
theorem d_RS_after_6 : decode b_RS_after 6 = .ok (.getfield 53, 3) := by decide +kernel
theorem d_RS_after_9 : decode b_RS_after 9 = .ok (.invokevirtual 101, 3) := by decide +kernel
theorem d_RS_after_12 : decode b_RS_after 12 = .ok (.aload_n 0, 1) := by decide +kernel
theorem d_RS_after_13 : decode b_RS_after 13 = .ok (.getfield 53, 3) := by decide +kernel
theorem d_RS_after_16 : decode b_RS_after 16 = .ok (.aload_n 0, 1) := by decide +kernel
theorem d_RS_after_17 : decode b_RS_after 17 = .ok (.getfield 20, 3) := by decide +kernel
theorem d_RS_after_20 : decode b_RS_after 20 = .ok (.invokevirtual 139, 3) := by decide +kernel
theorem d_RS_after_23 : decode b_RS_after 23 = .ok (.aload_n 0, 1) := by decide +kernel
theorem d_RS_after_24 : decode b_RS_after 24 = .ok (.iconst 0, 1) := by decide +kernel
theorem d_RS_after_25 : decode b_RS_after 25 = .ok (.aload_n 0, 1) := by decide +kernel
theorem d_RS_after_26 : decode b_RS_after 26 = .ok (.getfield 83, 3) := by decide +kernel
theorem d_RS_after_29 : decode b_RS_after 29 = .ok (.iconst 1, 1) := by decide +kernel
theorem d_RS_after_30 : decode b_RS_after 30 = .ok (.invokevirtual 121, 3) := by decide +kernel
theorem d_RS_after_33 : decode b_RS_after 33 = .ok (.aload_n 0, 1) := by decide +kernel
theorem d_RS_after_34 : decode b_RS_after 34 = .ok (.getfield 53, 3) := by decide +kernel
theorem d_RS_after_37 : decode b_RS_after 37 = .ok (.lload_n 1, 1) := by decide +kernel
theorem d_RS_after_38 : decode b_RS_after 38 = .ok (.invokevirtual 143, 3) := by decide +kernel
theorem d_RS_after_41 : decode b_RS_after 41 = .ok (.lreturn, 1) := by decide +kernel
abbrev b_RS_may : ByteArray := prog_1_method_9_code
def y_RS_may : MethodName := ⟨"RunStore", "may", "(IJ)Z"⟩
theorem d_RS_may_0 : decode b_RS_may 0 = .ok (.aload_n 0, 1) := by decide +kernel
theorem d_RS_may_1 : decode b_RS_may 1 = .ok (.iload_n 1, 1) := by decide +kernel
theorem d_RS_may_2 : decode b_RS_may 2 = .ok (.invokevirtual 147, 3) := by decide +kernel
theorem d_RS_may_5 : decode b_RS_may 5 = .ok (.lload_n 2, 1) := by decide +kernel
theorem d_RS_may_6 : decode b_RS_may 6 = .ok (.invokevirtual 151, 3) := by decide +kernel
theorem d_RS_may_9 : decode b_RS_may 9 = .ok (.ireturn, 1) := by decide +kernel
abbrev b_RS_tableNumbered : ByteArray := prog_1_method_26_code
def y_RS_tableNumbered : MethodName := ⟨"RunStore", "tableNumbered", "(I)LRunStore$Table;"⟩
theorem d_RS_tableNumbered_0 : decode b_RS_tableNumbered 0 = .ok (.iload_n 1, 1) := by decide +kernel
theorem d_RS_tableNumbered_1 : decode b_RS_tableNumbered 1 = .ok (.ifCond .lt 20, 3) := by decide +kernel
theorem d_RS_tableNumbered_4 : decode b_RS_tableNumbered 4 = .ok (.iload_n 1, 1) := by decide +kernel
theorem d_RS_tableNumbered_5 : decode b_RS_tableNumbered 5 = .ok (.aload_n 0, 1) := by decide +kernel
theorem d_RS_tableNumbered_6 : decode b_RS_tableNumbered 6 = .ok (.getfield 83, 3) := by decide +kernel
theorem d_RS_tableNumbered_9 : decode b_RS_tableNumbered 9 = .ok (.if_icmp .ge 12, 3) := by decide +kernel
theorem d_RS_tableNumbered_12 : decode b_RS_tableNumbered 12 = .ok (.aload_n 0, 1) := by decide +kernel
theorem d_RS_tableNumbered_13 : decode b_RS_tableNumbered 13 = .ok (.getfield 49, 3) := by decide +kernel
theorem d_RS_tableNumbered_16 : decode b_RS_tableNumbered 16 = .ok (.iload_n 1, 1) := by decide +kernel
theorem d_RS_tableNumbered_17 : decode b_RS_tableNumbered 17 = .ok (.aaload, 1) := by decide +kernel
theorem d_RS_tableNumbered_18 : decode b_RS_tableNumbered 18 = .ok (.ifnonnull 14, 3) := by decide +kernel
theorem d_RS_tableNumbered_21 : decode b_RS_tableNumbered 21 = .ok (.new 164, 3) := by decide +kernel
theorem d_RS_tableNumbered_24 : decode b_RS_tableNumbered 24 = .ok (.dup, 1) := by decide +kernel
theorem d_RS_tableNumbered_25 : decode b_RS_tableNumbered 25 = .ok (.ldc_w 281, 3) := by decide +kernel
theorem d_RS_tableNumbered_28 : decode b_RS_tableNumbered 28 = .ok (.invokespecial 168, 3) := by decide +kernel
theorem d_RS_tableNumbered_31 : decode b_RS_tableNumbered 31 = .ok (.athrow, 1) := by decide +kernel
theorem d_RS_tableNumbered_32 : decode b_RS_tableNumbered 32 = .ok (.aload_n 0, 1) := by decide +kernel
theorem d_RS_tableNumbered_33 : decode b_RS_tableNumbered 33 = .ok (.getfield 49, 3) := by decide +kernel
theorem d_RS_tableNumbered_36 : decode b_RS_tableNumbered 36 = .ok (.iload_n 1, 1) := by decide +kernel
theorem d_RS_tableNumbered_37 : decode b_RS_tableNumbered 37 = .ok (.aaload, 1) := by decide +kernel
theorem d_RS_tableNumbered_38 : decode b_RS_tableNumbered 38 = .ok (.areturn, 1) := by decide +kernel
abbrev b_RS_table : ByteArray := prog_1_method_10_code
def y_RS_table : MethodName := ⟨"RunStore", "table", "(II)I"⟩
theorem d_RS_table_0 : decode b_RS_table 0 = .ok (.aload_n 0, 1) := by decide +kernel
theorem d_RS_table_1 : decode b_RS_table 1 = .ok (.iload_n 1, 1) := by decide +kernel
theorem d_RS_table_2 : decode b_RS_table 2 = .ok (.invokevirtual 147, 3) := by decide +kernel
theorem d_RS_table_5 : decode b_RS_table 5 = .ok (.astore_n 3, 1) := by decide +kernel
theorem d_RS_table_6 : decode b_RS_table 6 = .ok (.iload_n 2, 1) := by decide +kernel
theorem d_RS_table_7 : decode b_RS_table 7 = .ok (.tableswitch 51 0 3 #[29, 34, 39, 45], 29) := by decide +kernel
theorem d_RS_table_36 : decode b_RS_table 36 = .ok (.aload_n 3, 1) := by decide +kernel
theorem d_RS_table_37 : decode b_RS_table 37 = .ok (.getfield 155, 3) := by decide +kernel
theorem d_RS_table_40 : decode b_RS_table 40 = .ok (.ireturn, 1) := by decide +kernel
theorem d_RS_table_41 : decode b_RS_table 41 = .ok (.aload_n 3, 1) := by decide +kernel
theorem d_RS_table_42 : decode b_RS_table 42 = .ok (.getfield 158, 3) := by decide +kernel
theorem d_RS_table_45 : decode b_RS_table 45 = .ok (.ireturn, 1) := by decide +kernel
theorem d_RS_table_46 : decode b_RS_table 46 = .ok (.aload_n 3, 1) := by decide +kernel
theorem d_RS_table_47 : decode b_RS_table 47 = .ok (.getfield 105, 3) := by decide +kernel
theorem d_RS_table_50 : decode b_RS_table 50 = .ok (.arraylength, 1) := by decide +kernel
theorem d_RS_table_51 : decode b_RS_table 51 = .ok (.ireturn, 1) := by decide +kernel
theorem d_RS_table_52 : decode b_RS_table 52 = .ok (.aload_n 3, 1) := by decide +kernel
theorem d_RS_table_53 : decode b_RS_table 53 = .ok (.iconst 0, 1) := by decide +kernel
theorem d_RS_table_54 : decode b_RS_table 54 = .ok (.invokevirtual 161, 3) := by decide +kernel
theorem d_RS_table_57 : decode b_RS_table 57 = .ok (.ireturn, 1) := by decide +kernel
theorem d_RS_table_58 : decode b_RS_table 58 = .ok (.new 164, 3) := by decide +kernel
theorem d_RS_table_61 : decode b_RS_table 61 = .ok (.dup, 1) := by decide +kernel
theorem d_RS_table_62 : decode b_RS_table 62 = .ok (.ldc 166, 2) := by decide +kernel
theorem d_RS_table_64 : decode b_RS_table 64 = .ok (.invokespecial 168, 3) := by decide +kernel
theorem d_RS_table_67 : decode b_RS_table 67 = .ok (.athrow, 1) := by decide +kernel
abbrev b_RS_byteAt : ByteArray := prog_1_method_11_code
def y_RS_byteAt : MethodName := ⟨"RunStore", "byteAt", "(II)I"⟩
theorem d_RS_byteAt_0 : decode b_RS_byteAt 0 = .ok (.aload_n 0, 1) := by decide +kernel
theorem d_RS_byteAt_1 : decode b_RS_byteAt 1 = .ok (.iload_n 1, 1) := by decide +kernel
theorem d_RS_byteAt_2 : decode b_RS_byteAt 2 = .ok (.iload_n 2, 1) := by decide +kernel
theorem d_RS_byteAt_3 : decode b_RS_byteAt 3 = .ok (.invokevirtual 169, 3) := by decide +kernel
theorem d_RS_byteAt_6 : decode b_RS_byteAt 6 = .ok (.aload_n 0, 1) := by decide +kernel
theorem d_RS_byteAt_7 : decode b_RS_byteAt 7 = .ok (.getfield 34, 3) := by decide +kernel
theorem d_RS_byteAt_10 : decode b_RS_byteAt 10 = .ok (.iload_n 1, 1) := by decide +kernel
theorem d_RS_byteAt_11 : decode b_RS_byteAt 11 = .ok (.iload_n 2, 1) := by decide +kernel
theorem d_RS_byteAt_12 : decode b_RS_byteAt 12 = .ok (.invokevirtual 172, 3) := by decide +kernel
theorem d_RS_byteAt_15 : decode b_RS_byteAt 15 = .ok (.ireturn, 1) := by decide +kernel
abbrev b_RS_refuseNoByte : ByteArray := prog_1_method_25_code
def y_RS_refuseNoByte : MethodName := ⟨"RunStore", "refuseNoByte", "(II)V"⟩
theorem d_RS_refuseNoByte_0 : decode b_RS_refuseNoByte 0 = .ok (.aload_n 0, 1) := by decide +kernel
theorem d_RS_refuseNoByte_1 : decode b_RS_refuseNoByte 1 = .ok (.getfield 34, 3) := by decide +kernel
theorem d_RS_refuseNoByte_4 : decode b_RS_refuseNoByte 4 = .ok (.iload_n 1, 1) := by decide +kernel
theorem d_RS_refuseNoByte_5 : decode b_RS_refuseNoByte 5 = .ok (.invokevirtual 179, 3) := by decide +kernel
theorem d_RS_refuseNoByte_8 : decode b_RS_refuseNoByte 8 = .ok (.ifCond .eq 13, 3) := by decide +kernel
theorem d_RS_refuseNoByte_11 : decode b_RS_refuseNoByte 11 = .ok (.iload_n 2, 1) := by decide +kernel
theorem d_RS_refuseNoByte_12 : decode b_RS_refuseNoByte 12 = .ok (.ifCond .lt 9, 3) := by decide +kernel
theorem d_RS_refuseNoByte_15 : decode b_RS_refuseNoByte 15 = .ok (.iload_n 2, 1) := by decide +kernel
theorem d_RS_refuseNoByte_16 : decode b_RS_refuseNoByte 16 = .ok (.bipush 32, 2) := by decide +kernel
theorem d_RS_refuseNoByte_18 : decode b_RS_refuseNoByte 18 = .ok (.if_icmp .lt 14, 3) := by decide +kernel
theorem d_RS_refuseNoByte_21 : decode b_RS_refuseNoByte 21 = .ok (.new 164, 3) := by decide +kernel
theorem d_RS_refuseNoByte_24 : decode b_RS_refuseNoByte 24 = .ok (.dup, 1) := by decide +kernel
theorem d_RS_refuseNoByte_25 : decode b_RS_refuseNoByte 25 = .ok (.ldc_w 279, 3) := by decide +kernel
theorem d_RS_refuseNoByte_28 : decode b_RS_refuseNoByte 28 = .ok (.invokespecial 168, 3) := by decide +kernel
theorem d_RS_refuseNoByte_31 : decode b_RS_refuseNoByte 31 = .ok (.athrow, 1) := by decide +kernel
theorem d_RS_refuseNoByte_32 : decode b_RS_refuseNoByte 32 = .ok (.return_, 1) := by decide +kernel
abbrev b_RS_poke : ByteArray := prog_1_method_12_code
def y_RS_poke : MethodName := ⟨"RunStore", "poke", "(III)I"⟩
theorem d_RS_poke_0 : decode b_RS_poke 0 = .ok (.aload_n 0, 1) := by decide +kernel
theorem d_RS_poke_1 : decode b_RS_poke 1 = .ok (.iload_n 1, 1) := by decide +kernel
theorem d_RS_poke_2 : decode b_RS_poke 2 = .ok (.iload_n 2, 1) := by decide +kernel
theorem d_RS_poke_3 : decode b_RS_poke 3 = .ok (.invokevirtual 169, 3) := by decide +kernel
theorem d_RS_poke_6 : decode b_RS_poke 6 = .ok (.aload_n 0, 1) := by decide +kernel
theorem d_RS_poke_7 : decode b_RS_poke 7 = .ok (.getfield 34, 3) := by decide +kernel
theorem d_RS_poke_10 : decode b_RS_poke 10 = .ok (.iload_n 1, 1) := by decide +kernel
theorem d_RS_poke_11 : decode b_RS_poke 11 = .ok (.iload_n 2, 1) := by decide +kernel
theorem d_RS_poke_12 : decode b_RS_poke 12 = .ok (.aload_n 0, 1) := by decide +kernel
theorem d_RS_poke_13 : decode b_RS_poke 13 = .ok (.getfield 34, 3) := by decide +kernel
theorem d_RS_poke_16 : decode b_RS_poke 16 = .ok (.iload_n 1, 1) := by decide +kernel
theorem d_RS_poke_17 : decode b_RS_poke 17 = .ok (.iload_n 2, 1) := by decide +kernel
theorem d_RS_poke_18 : decode b_RS_poke 18 = .ok (.invokevirtual 172, 3) := by decide +kernel
theorem d_RS_poke_21 : decode b_RS_poke 21 = .ok (.iload_n 3, 1) := by decide +kernel
theorem d_RS_poke_22 : decode b_RS_poke 22 = .ok (.ixor, 1) := by decide +kernel
theorem d_RS_poke_23 : decode b_RS_poke 23 = .ok (.invokevirtual 175, 3) := by decide +kernel
theorem d_RS_poke_26 : decode b_RS_poke 26 = .ok (.aload_n 0, 1) := by decide +kernel
theorem d_RS_poke_27 : decode b_RS_poke 27 = .ok (.getfield 34, 3) := by decide +kernel
theorem d_RS_poke_30 : decode b_RS_poke 30 = .ok (.iload_n 1, 1) := by decide +kernel
theorem d_RS_poke_31 : decode b_RS_poke 31 = .ok (.iload_n 2, 1) := by decide +kernel
theorem d_RS_poke_32 : decode b_RS_poke 32 = .ok (.invokevirtual 172, 3) := by decide +kernel
theorem d_RS_poke_35 : decode b_RS_poke 35 = .ok (.ireturn, 1) := by decide +kernel
abbrev b_RS_sum : ByteArray := prog_1_method_13_code
def y_RS_sum : MethodName := ⟨"RunStore", "sum", "(I)I"⟩
theorem d_RS_sum_0 : decode b_RS_sum 0 = .ok (.aload_n 0, 1) := by decide +kernel
theorem d_RS_sum_1 : decode b_RS_sum 1 = .ok (.getfield 34, 3) := by decide +kernel
theorem d_RS_sum_4 : decode b_RS_sum 4 = .ok (.iload_n 1, 1) := by decide +kernel
theorem d_RS_sum_5 : decode b_RS_sum 5 = .ok (.invokevirtual 179, 3) := by decide +kernel
theorem d_RS_sum_8 : decode b_RS_sum 8 = .ok (.ifCond .ne 13, 3) := by decide +kernel
theorem d_RS_sum_11 : decode b_RS_sum 11 = .ok (.new 164, 3) := by decide +kernel
theorem d_RS_sum_14 : decode b_RS_sum 14 = .ok (.dup, 1) := by decide +kernel
theorem d_RS_sum_15 : decode b_RS_sum 15 = .ok (.ldc 183, 2) := by decide +kernel
theorem d_RS_sum_17 : decode b_RS_sum 17 = .ok (.invokespecial 168, 3) := by decide +kernel
theorem d_RS_sum_20 : decode b_RS_sum 20 = .ok (.athrow, 1) := by decide +kernel
theorem d_RS_sum_21 : decode b_RS_sum 21 = .ok (.aload_n 0, 1) := by decide +kernel
theorem d_RS_sum_22 : decode b_RS_sum 22 = .ok (.getfield 34, 3) := by decide +kernel
theorem d_RS_sum_25 : decode b_RS_sum 25 = .ok (.getfield 185, 3) := by decide +kernel
theorem d_RS_sum_28 : decode b_RS_sum 28 = .ok (.iload_n 1, 1) := by decide +kernel
theorem d_RS_sum_29 : decode b_RS_sum 29 = .ok (.iaload, 1) := by decide +kernel
theorem d_RS_sum_30 : decode b_RS_sum 30 = .ok (.ireturn, 1) := by decide +kernel
abbrev b_RS_logged : ByteArray := prog_1_method_14_code
def y_RS_logged : MethodName := ⟨"RunStore", "logged", "(I)I"⟩
theorem d_RS_logged_0 : decode b_RS_logged 0 = .ok (.iload_n 1, 1) := by decide +kernel
theorem d_RS_logged_1 : decode b_RS_logged 1 = .ok (.ifCond .lt 14, 3) := by decide +kernel
theorem d_RS_logged_4 : decode b_RS_logged 4 = .ok (.iload_n 1, 1) := by decide +kernel
theorem d_RS_logged_5 : decode b_RS_logged 5 = .ok (.aload_n 0, 1) := by decide +kernel
theorem d_RS_logged_6 : decode b_RS_logged 6 = .ok (.getfield 27, 3) := by decide +kernel
theorem d_RS_logged_9 : decode b_RS_logged 9 = .ok (.getfield 188, 3) := by decide +kernel
theorem d_RS_logged_12 : decode b_RS_logged 12 = .ok (.if_icmp .lt 13, 3) := by decide +kernel
theorem d_RS_logged_15 : decode b_RS_logged 15 = .ok (.new 164, 3) := by decide +kernel
theorem d_RS_logged_18 : decode b_RS_logged 18 = .ok (.dup, 1) := by decide +kernel
theorem d_RS_logged_19 : decode b_RS_logged 19 = .ok (.ldc 189, 2) := by decide +kernel
theorem d_RS_logged_21 : decode b_RS_logged 21 = .ok (.invokespecial 168, 3) := by decide +kernel
theorem d_RS_logged_24 : decode b_RS_logged 24 = .ok (.athrow, 1) := by decide +kernel
theorem d_RS_logged_25 : decode b_RS_logged 25 = .ok (.aload_n 0, 1) := by decide +kernel
theorem d_RS_logged_26 : decode b_RS_logged 26 = .ok (.getfield 27, 3) := by decide +kernel
theorem d_RS_logged_29 : decode b_RS_logged 29 = .ok (.iload_n 1, 1) := by decide +kernel
theorem d_RS_logged_30 : decode b_RS_logged 30 = .ok (.invokevirtual 191, 3) := by decide +kernel
theorem d_RS_logged_33 : decode b_RS_logged 33 = .ok (.ireturn, 1) := by decide +kernel
abbrev b_RS_crash : ByteArray := prog_1_method_15_code
def y_RS_crash : MethodName := ⟨"RunStore", "crash", "(III)I"⟩
theorem d_RS_crash_0 : decode b_RS_crash 0 = .ok (.iload_n 1, 1) := by decide +kernel
theorem d_RS_crash_1 : decode b_RS_crash 1 = .ok (.ifCond .lt 14, 3) := by decide +kernel
theorem d_RS_crash_4 : decode b_RS_crash 4 = .ok (.iload_n 1, 1) := by decide +kernel
theorem d_RS_crash_5 : decode b_RS_crash 5 = .ok (.aload_n 0, 1) := by decide +kernel
theorem d_RS_crash_6 : decode b_RS_crash 6 = .ok (.getfield 27, 3) := by decide +kernel
theorem d_RS_crash_9 : decode b_RS_crash 9 = .ok (.getfield 188, 3) := by decide +kernel
theorem d_RS_crash_12 : decode b_RS_crash 12 = .ok (.if_icmp .le 13, 3) := by decide +kernel
theorem d_RS_crash_15 : decode b_RS_crash 15 = .ok (.new 60, 3) := by decide +kernel
theorem d_RS_crash_18 : decode b_RS_crash 18 = .ok (.dup, 1) := by decide +kernel
theorem d_RS_crash_19 : decode b_RS_crash 19 = .ok (.ldc 193, 2) := by decide +kernel
theorem d_RS_crash_21 : decode b_RS_crash 21 = .ok (.invokespecial 64, 3) := by decide +kernel
theorem d_RS_crash_24 : decode b_RS_crash 24 = .ok (.athrow, 1) := by decide +kernel
theorem d_RS_crash_25 : decode b_RS_crash 25 = .ok (.iload_n 2, 1) := by decide +kernel
theorem d_RS_crash_26 : decode b_RS_crash 26 = .ok (.iconst (-1), 1) := by decide +kernel
theorem d_RS_crash_27 : decode b_RS_crash 27 = .ok (.if_icmp .lt 8, 3) := by decide +kernel
theorem d_RS_crash_30 : decode b_RS_crash 30 = .ok (.iload_n 2, 1) := by decide +kernel
theorem d_RS_crash_31 : decode b_RS_crash 31 = .ok (.iload_n 1, 1) := by decide +kernel
theorem d_RS_crash_32 : decode b_RS_crash 32 = .ok (.if_icmp .lt 13, 3) := by decide +kernel
theorem d_RS_crash_35 : decode b_RS_crash 35 = .ok (.new 60, 3) := by decide +kernel
theorem d_RS_crash_38 : decode b_RS_crash 38 = .ok (.dup, 1) := by decide +kernel
theorem d_RS_crash_39 : decode b_RS_crash 39 = .ok (.ldc 195, 2) := by decide +kernel
theorem d_RS_crash_41 : decode b_RS_crash 41 = .ok (.invokespecial 64, 3) := by decide +kernel
theorem d_RS_crash_44 : decode b_RS_crash 44 = .ok (.athrow, 1) := by decide +kernel
theorem d_RS_crash_45 : decode b_RS_crash 45 = .ok (.aload_n 0, 1) := by decide +kernel
theorem d_RS_crash_46 : decode b_RS_crash 46 = .ok (.getfield 27, 3) := by decide +kernel
theorem d_RS_crash_49 : decode b_RS_crash 49 = .ok (.iload_n 1, 1) := by decide +kernel
theorem d_RS_crash_50 : decode b_RS_crash 50 = .ok (.invokevirtual 197, 3) := by decide +kernel
theorem d_RS_crash_53 : decode b_RS_crash 53 = .ok (.iload_n 2, 1) := by decide +kernel
theorem d_RS_crash_54 : decode b_RS_crash 54 = .ok (.iconst (-1), 1) := by decide +kernel
theorem d_RS_crash_55 : decode b_RS_crash 55 = .ok (.if_icmp .eq 12, 3) := by decide +kernel
theorem d_RS_crash_58 : decode b_RS_crash 58 = .ok (.aload_n 0, 1) := by decide +kernel
theorem d_RS_crash_59 : decode b_RS_crash 59 = .ok (.getfield 27, 3) := by decide +kernel
theorem d_RS_crash_62 : decode b_RS_crash 62 = .ok (.iload_n 2, 1) := by decide +kernel
theorem d_RS_crash_63 : decode b_RS_crash 63 = .ok (.iload_n 3, 1) := by decide +kernel
theorem d_RS_crash_64 : decode b_RS_crash 64 = .ok (.invokevirtual 200, 3) := by decide +kernel
theorem d_RS_crash_67 : decode b_RS_crash 67 = .ok (.aload_n 0, 1) := by decide +kernel
theorem d_RS_crash_68 : decode b_RS_crash 68 = .ok (.getfield 27, 3) := by decide +kernel
theorem d_RS_crash_71 : decode b_RS_crash 71 = .ok (.aload_n 0, 1) := by decide +kernel
theorem d_RS_crash_72 : decode b_RS_crash 72 = .ok (.getfield 20, 3) := by decide +kernel
theorem d_RS_crash_75 : decode b_RS_crash 75 = .ok (.invokevirtual 203, 3) := by decide +kernel
theorem d_RS_crash_78 : decode b_RS_crash 78 = .ok (.aload_n 0, 1) := by decide +kernel
theorem d_RS_crash_79 : decode b_RS_crash 79 = .ok (.getfield 20, 3) := by decide +kernel
theorem d_RS_crash_82 : decode b_RS_crash 82 = .ok (.getfield 75, 3) := by decide +kernel
theorem d_RS_crash_85 : decode b_RS_crash 85 = .ok (.ireturn, 1) := by decide +kernel
