abbrev b_RW_init : ByteArray := prog_5_method_1_code
def y_RW_init : MethodName := ⟨"RunStore$Rows", "<init>", "(I)V"⟩
theorem d_RW_init_0 : decode b_RW_init 0 = .ok (.aload_n 0, 1) := by decide +kernel
theorem d_RW_init_1 : decode b_RW_init 1 = .ok (.invokespecial 3, 3) := by decide +kernel
theorem d_RW_init_4 : decode b_RW_init 4 = .ok (.aload_n 0, 1) := by decide +kernel
theorem d_RW_init_5 : decode b_RW_init 5 = .ok (.iload_n 1, 1) := by decide +kernel
theorem d_RW_init_6 : decode b_RW_init 6 = .ok (.newarray .long, 2) := by decide +kernel
theorem d_RW_init_8 : decode b_RW_init 8 = .ok (.putfield 9, 3) := by decide +kernel
theorem d_RW_init_11 : decode b_RW_init 11 = .ok (.aload_n 0, 1) := by decide +kernel
theorem d_RW_init_12 : decode b_RW_init 12 = .ok (.iload_n 1, 1) := by decide +kernel
theorem d_RW_init_13 : decode b_RW_init 13 = .ok (.newarray .int, 2) := by decide +kernel
theorem d_RW_init_15 : decode b_RW_init 15 = .ok (.putfield 15, 3) := by decide +kernel
theorem d_RW_init_18 : decode b_RW_init 18 = .ok (.aload_n 0, 1) := by decide +kernel
theorem d_RW_init_19 : decode b_RW_init 19 = .ok (.iload_n 1, 1) := by decide +kernel
theorem d_RW_init_20 : decode b_RW_init 20 = .ok (.newarray .long, 2) := by decide +kernel
theorem d_RW_init_22 : decode b_RW_init 22 = .ok (.putfield 19, 3) := by decide +kernel
theorem d_RW_init_25 : decode b_RW_init 25 = .ok (.return_, 1) := by decide +kernel
abbrev b_ER_init : ByteArray := prog_3_method_1_code
def y_ER_init : MethodName := ⟨"RunStore$EntryReader", "<init>", "()V"⟩
theorem d_ER_init_0 : decode b_ER_init 0 = .ok (.aload_n 0, 1) := by decide +kernel
theorem d_ER_init_1 : decode b_ER_init 1 = .ok (.invokespecial 3, 3) := by decide +kernel
theorem d_ER_init_4 : decode b_ER_init 4 = .ok (.return_, 1) := by decide +kernel
abbrev b_RW_takes : ByteArray := prog_5_method_4_code
def y_RW_takes : MethodName := ⟨"RunStore$Rows", "takes", "(J)Z"⟩
theorem d_RW_takes_0 : decode b_RW_takes 0 = .ok (.aload_n 0, 1) := by decide +kernel
theorem d_RW_takes_1 : decode b_RW_takes 1 = .ok (.getfield 22, 3) := by decide +kernel
theorem d_RW_takes_4 : decode b_RW_takes 4 = .ok (.aload_n 0, 1) := by decide +kernel
theorem d_RW_takes_5 : decode b_RW_takes 5 = .ok (.getfield 9, 3) := by decide +kernel
theorem d_RW_takes_8 : decode b_RW_takes 8 = .ok (.arraylength, 1) := by decide +kernel
theorem d_RW_takes_9 : decode b_RW_takes 9 = .ok (.if_icmp .lt 11, 3) := by decide +kernel
theorem d_RW_takes_12 : decode b_RW_takes 12 = .ok (.aload_n 0, 1) := by decide +kernel
theorem d_RW_takes_13 : decode b_RW_takes 13 = .ok (.lload_n 1, 1) := by decide +kernel
theorem d_RW_takes_14 : decode b_RW_takes 14 = .ok (.invokevirtual 26, 3) := by decide +kernel
theorem d_RW_takes_17 : decode b_RW_takes 17 = .ok (.ifCond .lt 7, 3) := by decide +kernel
theorem d_RW_takes_20 : decode b_RW_takes 20 = .ok (.iconst 1, 1) := by decide +kernel
theorem d_RW_takes_21 : decode b_RW_takes 21 = .ok (.goto 4, 3) := by decide +kernel
theorem d_RW_takes_24 : decode b_RW_takes 24 = .ok (.iconst 0, 1) := by decide +kernel
theorem d_RW_takes_25 : decode b_RW_takes 25 = .ok (.ireturn, 1) := by decide +kernel
abbrev b_RW_placeOf : ByteArray := prog_5_method_3_code
def y_RW_placeOf : MethodName := ⟨"RunStore$Rows", "placeOf", "(J)I"⟩
theorem d_RW_placeOf_0 : decode b_RW_placeOf 0 = .ok (.iconst 0, 1) := by decide +kernel
theorem d_RW_placeOf_1 : decode b_RW_placeOf 1 = .ok (.istore_n 3, 1) := by decide +kernel
theorem d_RW_placeOf_2 : decode b_RW_placeOf 2 = .ok (.aload_n 0, 1) := by decide +kernel
theorem d_RW_placeOf_3 : decode b_RW_placeOf 3 = .ok (.getfield 22, 3) := by decide +kernel
theorem d_RW_placeOf_6 : decode b_RW_placeOf 6 = .ok (.istore 4, 2) := by decide +kernel
theorem d_RW_placeOf_8 : decode b_RW_placeOf 8 = .ok (.iconst 0, 1) := by decide +kernel
theorem d_RW_placeOf_9 : decode b_RW_placeOf 9 = .ok (.istore 5, 2) := by decide +kernel
theorem d_RW_placeOf_11 : decode b_RW_placeOf 11 = .ok (.iload 5, 2) := by decide +kernel
theorem d_RW_placeOf_13 : decode b_RW_placeOf 13 = .ok (.bipush 32, 2) := by decide +kernel
theorem d_RW_placeOf_15 : decode b_RW_placeOf 15 = .ok (.if_icmp .ge 47, 3) := by decide +kernel
theorem d_RW_placeOf_18 : decode b_RW_placeOf 18 = .ok (.iload_n 3, 1) := by decide +kernel
theorem d_RW_placeOf_19 : decode b_RW_placeOf 19 = .ok (.iload 4, 2) := by decide +kernel
theorem d_RW_placeOf_21 : decode b_RW_placeOf 21 = .ok (.if_icmp .ge 41, 3) := by decide +kernel
theorem d_RW_placeOf_24 : decode b_RW_placeOf 24 = .ok (.iload_n 3, 1) := by decide +kernel
theorem d_RW_placeOf_25 : decode b_RW_placeOf 25 = .ok (.iload 4, 2) := by decide +kernel
theorem d_RW_placeOf_27 : decode b_RW_placeOf 27 = .ok (.iadd, 1) := by decide +kernel
theorem d_RW_placeOf_28 : decode b_RW_placeOf 28 = .ok (.iconst 1, 1) := by decide +kernel
theorem d_RW_placeOf_29 : decode b_RW_placeOf 29 = .ok (.iushr, 1) := by decide +kernel
theorem d_RW_placeOf_30 : decode b_RW_placeOf 30 = .ok (.istore 6, 2) := by decide +kernel
theorem d_RW_placeOf_32 : decode b_RW_placeOf 32 = .ok (.aload_n 0, 1) := by decide +kernel
theorem d_RW_placeOf_33 : decode b_RW_placeOf 33 = .ok (.getfield 9, 3) := by decide +kernel
theorem d_RW_placeOf_36 : decode b_RW_placeOf 36 = .ok (.iload 6, 2) := by decide +kernel
theorem d_RW_placeOf_38 : decode b_RW_placeOf 38 = .ok (.laload, 1) := by decide +kernel
theorem d_RW_placeOf_39 : decode b_RW_placeOf 39 = .ok (.lload_n 1, 1) := by decide +kernel
theorem d_RW_placeOf_40 : decode b_RW_placeOf 40 = .ok (.lcmp, 1) := by decide +kernel
theorem d_RW_placeOf_41 : decode b_RW_placeOf 41 = .ok (.ifCond .ge 11, 3) := by decide +kernel
theorem d_RW_placeOf_44 : decode b_RW_placeOf 44 = .ok (.iload 6, 2) := by decide +kernel
theorem d_RW_placeOf_46 : decode b_RW_placeOf 46 = .ok (.iconst 1, 1) := by decide +kernel
theorem d_RW_placeOf_47 : decode b_RW_placeOf 47 = .ok (.iadd, 1) := by decide +kernel
theorem d_RW_placeOf_48 : decode b_RW_placeOf 48 = .ok (.istore_n 3, 1) := by decide +kernel
theorem d_RW_placeOf_49 : decode b_RW_placeOf 49 = .ok (.goto 7, 3) := by decide +kernel
theorem d_RW_placeOf_52 : decode b_RW_placeOf 52 = .ok (.iload 6, 2) := by decide +kernel
theorem d_RW_placeOf_54 : decode b_RW_placeOf 54 = .ok (.istore 4, 2) := by decide +kernel
theorem d_RW_placeOf_56 : decode b_RW_placeOf 56 = .ok (.iinc 5 1, 3) := by decide +kernel
theorem d_RW_placeOf_59 : decode b_RW_placeOf 59 = .ok (.goto (-48), 3) := by decide +kernel
theorem d_RW_placeOf_62 : decode b_RW_placeOf 62 = .ok (.iload_n 3, 1) := by decide +kernel
theorem d_RW_placeOf_63 : decode b_RW_placeOf 63 = .ok (.aload_n 0, 1) := by decide +kernel
theorem d_RW_placeOf_64 : decode b_RW_placeOf 64 = .ok (.getfield 22, 3) := by decide +kernel
theorem d_RW_placeOf_67 : decode b_RW_placeOf 67 = .ok (.if_icmp .ge 18, 3) := by decide +kernel
theorem d_RW_placeOf_70 : decode b_RW_placeOf 70 = .ok (.aload_n 0, 1) := by decide +kernel
theorem d_RW_placeOf_71 : decode b_RW_placeOf 71 = .ok (.getfield 9, 3) := by decide +kernel
theorem d_RW_placeOf_74 : decode b_RW_placeOf 74 = .ok (.iload_n 3, 1) := by decide +kernel
theorem d_RW_placeOf_75 : decode b_RW_placeOf 75 = .ok (.laload, 1) := by decide +kernel
theorem d_RW_placeOf_76 : decode b_RW_placeOf 76 = .ok (.lload_n 1, 1) := by decide +kernel
theorem d_RW_placeOf_77 : decode b_RW_placeOf 77 = .ok (.lcmp, 1) := by decide +kernel
theorem d_RW_placeOf_78 : decode b_RW_placeOf 78 = .ok (.ifCond .ne 7, 3) := by decide +kernel
theorem d_RW_placeOf_81 : decode b_RW_placeOf 81 = .ok (.iload_n 3, 1) := by decide +kernel
theorem d_RW_placeOf_82 : decode b_RW_placeOf 82 = .ok (.goto 6, 3) := by decide +kernel
theorem d_RW_placeOf_85 : decode b_RW_placeOf 85 = .ok (.iconst (-1), 1) := by decide +kernel
theorem d_RW_placeOf_86 : decode b_RW_placeOf 86 = .ok (.iload_n 3, 1) := by decide +kernel
theorem d_RW_placeOf_87 : decode b_RW_placeOf 87 = .ok (.isub, 1) := by decide +kernel
theorem d_RW_placeOf_88 : decode b_RW_placeOf 88 = .ok (.ireturn, 1) := by decide +kernel
abbrev b_RW_set : ByteArray := prog_5_method_5_code
def y_RW_set : MethodName := ⟨"RunStore$Rows", "set", "(JIJ)Z"⟩
theorem d_RW_set_0 : decode b_RW_set 0 = .ok (.aload_n 0, 1) := by decide +kernel
theorem d_RW_set_1 : decode b_RW_set 1 = .ok (.lload_n 1, 1) := by decide +kernel
theorem d_RW_set_2 : decode b_RW_set 2 = .ok (.invokevirtual 26, 3) := by decide +kernel
theorem d_RW_set_5 : decode b_RW_set 5 = .ok (.istore 6, 2) := by decide +kernel
theorem d_RW_set_7 : decode b_RW_set 7 = .ok (.iload 6, 2) := by decide +kernel
theorem d_RW_set_9 : decode b_RW_set 9 = .ok (.ifCond .lt 22, 3) := by decide +kernel
theorem d_RW_set_12 : decode b_RW_set 12 = .ok (.aload_n 0, 1) := by decide +kernel
theorem d_RW_set_13 : decode b_RW_set 13 = .ok (.getfield 15, 3) := by decide +kernel
theorem d_RW_set_16 : decode b_RW_set 16 = .ok (.iload 6, 2) := by decide +kernel
theorem d_RW_set_18 : decode b_RW_set 18 = .ok (.iload_n 3, 1) := by decide +kernel
theorem d_RW_set_19 : decode b_RW_set 19 = .ok (.iastore, 1) := by decide +kernel
theorem d_RW_set_20 : decode b_RW_set 20 = .ok (.aload_n 0, 1) := by decide +kernel
theorem d_RW_set_21 : decode b_RW_set 21 = .ok (.getfield 19, 3) := by decide +kernel
theorem d_RW_set_24 : decode b_RW_set 24 = .ok (.iload 6, 2) := by decide +kernel
theorem d_RW_set_26 : decode b_RW_set 26 = .ok (.lload 4, 2) := by decide +kernel
theorem d_RW_set_28 : decode b_RW_set 28 = .ok (.lastore, 1) := by decide +kernel
theorem d_RW_set_29 : decode b_RW_set 29 = .ok (.iconst 1, 1) := by decide +kernel
theorem d_RW_set_30 : decode b_RW_set 30 = .ok (.ireturn, 1) := by decide +kernel
theorem d_RW_set_31 : decode b_RW_set 31 = .ok (.aload_n 0, 1) := by decide +kernel
theorem d_RW_set_32 : decode b_RW_set 32 = .ok (.iconst (-1), 1) := by decide +kernel
theorem d_RW_set_33 : decode b_RW_set 33 = .ok (.iload 6, 2) := by decide +kernel
theorem d_RW_set_35 : decode b_RW_set 35 = .ok (.isub, 1) := by decide +kernel
theorem d_RW_set_36 : decode b_RW_set 36 = .ok (.lload_n 1, 1) := by decide +kernel
theorem d_RW_set_37 : decode b_RW_set 37 = .ok (.iload_n 3, 1) := by decide +kernel
theorem d_RW_set_38 : decode b_RW_set 38 = .ok (.lload 4, 2) := by decide +kernel
theorem d_RW_set_40 : decode b_RW_set 40 = .ok (.invokevirtual 30, 3) := by decide +kernel
theorem d_RW_set_43 : decode b_RW_set 43 = .ok (.ireturn, 1) := by decide +kernel
abbrev b_RW_insert : ByteArray := prog_5_method_8_code
def y_RW_insert : MethodName := ⟨"RunStore$Rows", "insert", "(IJIJ)Z"⟩
theorem d_RW_insert_0 : decode b_RW_insert 0 = .ok (.aload_n 0, 1) := by decide +kernel
theorem d_RW_insert_1 : decode b_RW_insert 1 = .ok (.getfield 22, 3) := by decide +kernel
theorem d_RW_insert_4 : decode b_RW_insert 4 = .ok (.aload_n 0, 1) := by decide +kernel
theorem d_RW_insert_5 : decode b_RW_insert 5 = .ok (.getfield 9, 3) := by decide +kernel
theorem d_RW_insert_8 : decode b_RW_insert 8 = .ok (.arraylength, 1) := by decide +kernel
theorem d_RW_insert_9 : decode b_RW_insert 9 = .ok (.if_icmp .ge 15, 3) := by decide +kernel
theorem d_RW_insert_12 : decode b_RW_insert 12 = .ok (.iload_n 1, 1) := by decide +kernel
theorem d_RW_insert_13 : decode b_RW_insert 13 = .ok (.ifCond .lt 11, 3) := by decide +kernel
theorem d_RW_insert_16 : decode b_RW_insert 16 = .ok (.iload_n 1, 1) := by decide +kernel
theorem d_RW_insert_17 : decode b_RW_insert 17 = .ok (.aload_n 0, 1) := by decide +kernel
theorem d_RW_insert_18 : decode b_RW_insert 18 = .ok (.getfield 22, 3) := by decide +kernel
theorem d_RW_insert_21 : decode b_RW_insert 21 = .ok (.if_icmp .le 5, 3) := by decide +kernel
theorem d_RW_insert_24 : decode b_RW_insert 24 = .ok (.iconst 0, 1) := by decide +kernel
theorem d_RW_insert_25 : decode b_RW_insert 25 = .ok (.ireturn, 1) := by decide +kernel
theorem d_RW_insert_26 : decode b_RW_insert 26 = .ok (.aload_n 0, 1) := by decide +kernel
theorem d_RW_insert_27 : decode b_RW_insert 27 = .ok (.getfield 9, 3) := by decide +kernel
theorem d_RW_insert_30 : decode b_RW_insert 30 = .ok (.iload_n 1, 1) := by decide +kernel
theorem d_RW_insert_31 : decode b_RW_insert 31 = .ok (.aload_n 0, 1) := by decide +kernel
theorem d_RW_insert_32 : decode b_RW_insert 32 = .ok (.getfield 9, 3) := by decide +kernel
theorem d_RW_insert_35 : decode b_RW_insert 35 = .ok (.iload_n 1, 1) := by decide +kernel
theorem d_RW_insert_36 : decode b_RW_insert 36 = .ok (.iconst 1, 1) := by decide +kernel
theorem d_RW_insert_37 : decode b_RW_insert 37 = .ok (.iadd, 1) := by decide +kernel
theorem d_RW_insert_38 : decode b_RW_insert 38 = .ok (.aload_n 0, 1) := by decide +kernel
theorem d_RW_insert_39 : decode b_RW_insert 39 = .ok (.getfield 22, 3) := by decide +kernel
theorem d_RW_insert_42 : decode b_RW_insert 42 = .ok (.iload_n 1, 1) := by decide +kernel
theorem d_RW_insert_43 : decode b_RW_insert 43 = .ok (.isub, 1) := by decide +kernel
theorem d_RW_insert_44 : decode b_RW_insert 44 = .ok (.invokestatic 38, 3) := by decide +kernel
theorem d_RW_insert_47 : decode b_RW_insert 47 = .ok (.aload_n 0, 1) := by decide +kernel
theorem d_RW_insert_48 : decode b_RW_insert 48 = .ok (.getfield 15, 3) := by decide +kernel
theorem d_RW_insert_51 : decode b_RW_insert 51 = .ok (.iload_n 1, 1) := by decide +kernel
theorem d_RW_insert_52 : decode b_RW_insert 52 = .ok (.aload_n 0, 1) := by decide +kernel
theorem d_RW_insert_53 : decode b_RW_insert 53 = .ok (.getfield 15, 3) := by decide +kernel
theorem d_RW_insert_56 : decode b_RW_insert 56 = .ok (.iload_n 1, 1) := by decide +kernel
theorem d_RW_insert_57 : decode b_RW_insert 57 = .ok (.iconst 1, 1) := by decide +kernel
theorem d_RW_insert_58 : decode b_RW_insert 58 = .ok (.iadd, 1) := by decide +kernel
theorem d_RW_insert_59 : decode b_RW_insert 59 = .ok (.aload_n 0, 1) := by decide +kernel
theorem d_RW_insert_60 : decode b_RW_insert 60 = .ok (.getfield 22, 3) := by decide +kernel
theorem d_RW_insert_63 : decode b_RW_insert 63 = .ok (.iload_n 1, 1) := by decide +kernel
theorem d_RW_insert_64 : decode b_RW_insert 64 = .ok (.isub, 1) := by decide +kernel
theorem d_RW_insert_65 : decode b_RW_insert 65 = .ok (.invokestatic 38, 3) := by decide +kernel
theorem d_RW_insert_68 : decode b_RW_insert 68 = .ok (.aload_n 0, 1) := by decide +kernel
theorem d_RW_insert_69 : decode b_RW_insert 69 = .ok (.getfield 19, 3) := by decide +kernel
theorem d_RW_insert_72 : decode b_RW_insert 72 = .ok (.iload_n 1, 1) := by decide +kernel
theorem d_RW_insert_73 : decode b_RW_insert 73 = .ok (.aload_n 0, 1) := by decide +kernel
theorem d_RW_insert_74 : decode b_RW_insert 74 = .ok (.getfield 19, 3) := by decide +kernel
theorem d_RW_insert_77 : decode b_RW_insert 77 = .ok (.iload_n 1, 1) := by decide +kernel
theorem d_RW_insert_78 : decode b_RW_insert 78 = .ok (.iconst 1, 1) := by decide +kernel
theorem d_RW_insert_79 : decode b_RW_insert 79 = .ok (.iadd, 1) := by decide +kernel
theorem d_RW_insert_80 : decode b_RW_insert 80 = .ok (.aload_n 0, 1) := by decide +kernel
theorem d_RW_insert_81 : decode b_RW_insert 81 = .ok (.getfield 22, 3) := by decide +kernel
theorem d_RW_insert_84 : decode b_RW_insert 84 = .ok (.iload_n 1, 1) := by decide +kernel
theorem d_RW_insert_85 : decode b_RW_insert 85 = .ok (.isub, 1) := by decide +kernel
theorem d_RW_insert_86 : decode b_RW_insert 86 = .ok (.invokestatic 38, 3) := by decide +kernel
theorem d_RW_insert_89 : decode b_RW_insert 89 = .ok (.aload_n 0, 1) := by decide +kernel
theorem d_RW_insert_90 : decode b_RW_insert 90 = .ok (.iload_n 1, 1) := by decide +kernel
theorem d_RW_insert_91 : decode b_RW_insert 91 = .ok (.lload_n 2, 1) := by decide +kernel
theorem d_RW_insert_92 : decode b_RW_insert 92 = .ok (.iload 4, 2) := by decide +kernel
theorem d_RW_insert_94 : decode b_RW_insert 94 = .ok (.lload 5, 2) := by decide +kernel
theorem d_RW_insert_96 : decode b_RW_insert 96 = .ok (.invokevirtual 44, 3) := by decide +kernel
theorem d_RW_insert_99 : decode b_RW_insert 99 = .ok (.aload_n 0, 1) := by decide +kernel
theorem d_RW_insert_100 : decode b_RW_insert 100 = .ok (.dup, 1) := by decide +kernel
theorem d_RW_insert_101 : decode b_RW_insert 101 = .ok (.getfield 22, 3) := by decide +kernel
theorem d_RW_insert_104 : decode b_RW_insert 104 = .ok (.iconst 1, 1) := by decide +kernel
theorem d_RW_insert_105 : decode b_RW_insert 105 = .ok (.iadd, 1) := by decide +kernel
theorem d_RW_insert_106 : decode b_RW_insert 106 = .ok (.putfield 22, 3) := by decide +kernel
theorem d_RW_insert_109 : decode b_RW_insert 109 = .ok (.iconst 1, 1) := by decide +kernel
theorem d_RW_insert_110 : decode b_RW_insert 110 = .ok (.ireturn, 1) := by decide +kernel
abbrev b_RW_write : ByteArray := prog_5_method_9_code
def y_RW_write : MethodName := ⟨"RunStore$Rows", "write", "(IJIJ)V"⟩
theorem d_RW_write_0 : decode b_RW_write 0 = .ok (.aload_n 0, 1) := by decide +kernel
theorem d_RW_write_1 : decode b_RW_write 1 = .ok (.getfield 9, 3) := by decide +kernel
theorem d_RW_write_4 : decode b_RW_write 4 = .ok (.iload_n 1, 1) := by decide +kernel
theorem d_RW_write_5 : decode b_RW_write 5 = .ok (.lload_n 2, 1) := by decide +kernel
theorem d_RW_write_6 : decode b_RW_write 6 = .ok (.lastore, 1) := by decide +kernel
theorem d_RW_write_7 : decode b_RW_write 7 = .ok (.aload_n 0, 1) := by decide +kernel
theorem d_RW_write_8 : decode b_RW_write 8 = .ok (.getfield 15, 3) := by decide +kernel
theorem d_RW_write_11 : decode b_RW_write 11 = .ok (.iload_n 1, 1) := by decide +kernel
theorem d_RW_write_12 : decode b_RW_write 12 = .ok (.iload 4, 2) := by decide +kernel
theorem d_RW_write_14 : decode b_RW_write 14 = .ok (.iastore, 1) := by decide +kernel
theorem d_RW_write_15 : decode b_RW_write 15 = .ok (.aload_n 0, 1) := by decide +kernel
theorem d_RW_write_16 : decode b_RW_write 16 = .ok (.getfield 19, 3) := by decide +kernel
theorem d_RW_write_19 : decode b_RW_write 19 = .ok (.iload_n 1, 1) := by decide +kernel
theorem d_RW_write_20 : decode b_RW_write 20 = .ok (.lload 5, 2) := by decide +kernel
theorem d_RW_write_22 : decode b_RW_write 22 = .ok (.lastore, 1) := by decide +kernel
theorem d_RW_write_23 : decode b_RW_write 23 = .ok (.return_, 1) := by decide +kernel
abbrev b_RW_bytes : ByteArray := prog_5_method_12_code
def y_RW_bytes : MethodName := ⟨"RunStore$Rows", "bytes", "()I"⟩
theorem d_RW_bytes_0 : decode b_RW_bytes 0 = .ok (.iconst 0, 1) := by decide +kernel
theorem d_RW_bytes_1 : decode b_RW_bytes 1 = .ok (.istore_n 1, 1) := by decide +kernel
theorem d_RW_bytes_2 : decode b_RW_bytes 2 = .ok (.iconst 0, 1) := by decide +kernel
theorem d_RW_bytes_3 : decode b_RW_bytes 3 = .ok (.istore_n 2, 1) := by decide +kernel
theorem d_RW_bytes_4 : decode b_RW_bytes 4 = .ok (.iload_n 2, 1) := by decide +kernel
theorem d_RW_bytes_5 : decode b_RW_bytes 5 = .ok (.aload_n 0, 1) := by decide +kernel
theorem d_RW_bytes_6 : decode b_RW_bytes 6 = .ok (.getfield 22, 3) := by decide +kernel
theorem d_RW_bytes_9 : decode b_RW_bytes 9 = .ok (.if_icmp .ge 21, 3) := by decide +kernel
theorem d_RW_bytes_12 : decode b_RW_bytes 12 = .ok (.iload_n 1, 1) := by decide +kernel
theorem d_RW_bytes_13 : decode b_RW_bytes 13 = .ok (.aload_n 0, 1) := by decide +kernel
theorem d_RW_bytes_14 : decode b_RW_bytes 14 = .ok (.getfield 15, 3) := by decide +kernel
theorem d_RW_bytes_17 : decode b_RW_bytes 17 = .ok (.iload_n 2, 1) := by decide +kernel
theorem d_RW_bytes_18 : decode b_RW_bytes 18 = .ok (.iaload, 1) := by decide +kernel
theorem d_RW_bytes_19 : decode b_RW_bytes 19 = .ok (.invokestatic 48, 3) := by decide +kernel
theorem d_RW_bytes_22 : decode b_RW_bytes 22 = .ok (.iadd, 1) := by decide +kernel
theorem d_RW_bytes_23 : decode b_RW_bytes 23 = .ok (.istore_n 1, 1) := by decide +kernel
theorem d_RW_bytes_24 : decode b_RW_bytes 24 = .ok (.iinc 2 1, 3) := by decide +kernel
theorem d_RW_bytes_27 : decode b_RW_bytes 27 = .ok (.goto (-23), 3) := by decide +kernel
theorem d_RW_bytes_30 : decode b_RW_bytes 30 = .ok (.iload_n 1, 1) := by decide +kernel
theorem d_RW_bytes_31 : decode b_RW_bytes 31 = .ok (.ireturn, 1) := by decide +kernel
abbrev b_RW_filter : ByteArray := prog_5_method_13_code
def y_RW_filter : MethodName := ⟨"RunStore$Rows", "filter", "()J"⟩
theorem d_RW_filter_0 : decode b_RW_filter 0 = .ok (.lconst 0, 1) := by decide +kernel
theorem d_RW_filter_1 : decode b_RW_filter 1 = .ok (.lstore_n 1, 1) := by decide +kernel
theorem d_RW_filter_2 : decode b_RW_filter 2 = .ok (.iconst 0, 1) := by decide +kernel
theorem d_RW_filter_3 : decode b_RW_filter 3 = .ok (.istore_n 3, 1) := by decide +kernel
theorem d_RW_filter_4 : decode b_RW_filter 4 = .ok (.iload_n 3, 1) := by decide +kernel
theorem d_RW_filter_5 : decode b_RW_filter 5 = .ok (.aload_n 0, 1) := by decide +kernel
theorem d_RW_filter_6 : decode b_RW_filter 6 = .ok (.getfield 22, 3) := by decide +kernel
theorem d_RW_filter_9 : decode b_RW_filter 9 = .ok (.if_icmp .ge 21, 3) := by decide +kernel
theorem d_RW_filter_12 : decode b_RW_filter 12 = .ok (.lload_n 1, 1) := by decide +kernel
theorem d_RW_filter_13 : decode b_RW_filter 13 = .ok (.aload_n 0, 1) := by decide +kernel
theorem d_RW_filter_14 : decode b_RW_filter 14 = .ok (.getfield 9, 3) := by decide +kernel
theorem d_RW_filter_17 : decode b_RW_filter 17 = .ok (.iload_n 3, 1) := by decide +kernel
theorem d_RW_filter_18 : decode b_RW_filter 18 = .ok (.laload, 1) := by decide +kernel
theorem d_RW_filter_19 : decode b_RW_filter 19 = .ok (.invokestatic 52, 3) := by decide +kernel
theorem d_RW_filter_22 : decode b_RW_filter 22 = .ok (.lor, 1) := by decide +kernel
theorem d_RW_filter_23 : decode b_RW_filter 23 = .ok (.lstore_n 1, 1) := by decide +kernel
theorem d_RW_filter_24 : decode b_RW_filter 24 = .ok (.iinc 3 1, 3) := by decide +kernel
theorem d_RW_filter_27 : decode b_RW_filter 27 = .ok (.goto (-23), 3) := by decide +kernel
theorem d_RW_filter_30 : decode b_RW_filter 30 = .ok (.lload_n 1, 1) := by decide +kernel
theorem d_RW_filter_31 : decode b_RW_filter 31 = .ok (.lreturn, 1) := by decide +kernel
abbrev b_TB_init : ByteArray := prog_6_method_1_code
def y_TB_init : MethodName := ⟨"RunStore$Table", "<init>", "(IIJ[I)V"⟩
theorem d_TB_init_0 : decode b_TB_init 0 = .ok (.aload_n 0, 1) := by decide +kernel
theorem d_TB_init_1 : decode b_TB_init 1 = .ok (.invokespecial 3, 3) := by decide +kernel
theorem d_TB_init_4 : decode b_TB_init 4 = .ok (.aload_n 0, 1) := by decide +kernel
theorem d_TB_init_5 : decode b_TB_init 5 = .ok (.iload_n 1, 1) := by decide +kernel
theorem d_TB_init_6 : decode b_TB_init 6 = .ok (.putfield 9, 3) := by decide +kernel
theorem d_TB_init_9 : decode b_TB_init 9 = .ok (.aload_n 0, 1) := by decide +kernel
theorem d_TB_init_10 : decode b_TB_init 10 = .ok (.iload_n 2, 1) := by decide +kernel
theorem d_TB_init_11 : decode b_TB_init 11 = .ok (.putfield 15, 3) := by decide +kernel
theorem d_TB_init_14 : decode b_TB_init 14 = .ok (.aload_n 0, 1) := by decide +kernel
theorem d_TB_init_15 : decode b_TB_init 15 = .ok (.lload_n 3, 1) := by decide +kernel
theorem d_TB_init_16 : decode b_TB_init 16 = .ok (.putfield 18, 3) := by decide +kernel
theorem d_TB_init_19 : decode b_TB_init 19 = .ok (.aload_n 0, 1) := by decide +kernel
theorem d_TB_init_20 : decode b_TB_init 20 = .ok (.aload 5, 2) := by decide +kernel
theorem d_TB_init_22 : decode b_TB_init 22 = .ok (.putfield 22, 3) := by decide +kernel
theorem d_TB_init_25 : decode b_TB_init 25 = .ok (.return_, 1) := by decide +kernel
abbrev b_TB_idAt : ByteArray := prog_6_method_3_code
def y_TB_idAt : MethodName := ⟨"RunStore$Table", "idAt", "(I)I"⟩
theorem d_TB_idAt_0 : decode b_TB_idAt 0 = .ok (.iload_n 1, 1) := by decide +kernel
theorem d_TB_idAt_1 : decode b_TB_idAt 1 = .ok (.ifCond .lt 21, 3) := by decide +kernel
theorem d_TB_idAt_4 : decode b_TB_idAt 4 = .ok (.iload_n 1, 1) := by decide +kernel
theorem d_TB_idAt_5 : decode b_TB_idAt 5 = .ok (.aload_n 0, 1) := by decide +kernel
theorem d_TB_idAt_6 : decode b_TB_idAt 6 = .ok (.getfield 22, 3) := by decide +kernel
theorem d_TB_idAt_9 : decode b_TB_idAt 9 = .ok (.arraylength, 1) := by decide +kernel
theorem d_TB_idAt_10 : decode b_TB_idAt 10 = .ok (.if_icmp .ge 12, 3) := by decide +kernel
theorem d_TB_idAt_13 : decode b_TB_idAt 13 = .ok (.aload_n 0, 1) := by decide +kernel
theorem d_TB_idAt_14 : decode b_TB_idAt 14 = .ok (.getfield 22, 3) := by decide +kernel
theorem d_TB_idAt_17 : decode b_TB_idAt 17 = .ok (.iload_n 1, 1) := by decide +kernel
theorem d_TB_idAt_18 : decode b_TB_idAt 18 = .ok (.iaload, 1) := by decide +kernel
theorem d_TB_idAt_19 : decode b_TB_idAt 19 = .ok (.goto 4, 3) := by decide +kernel
theorem d_TB_idAt_22 : decode b_TB_idAt 22 = .ok (.iconst (-1), 1) := by decide +kernel
theorem d_TB_idAt_23 : decode b_TB_idAt 23 = .ok (.ireturn, 1) := by decide +kernel
abbrev b_RW_empty : ByteArray := prog_5_method_2_code
def y_RW_empty : MethodName := ⟨"RunStore$Rows", "empty", "()V"⟩
theorem d_RW_empty_0 : decode b_RW_empty 0 = .ok (.aload_n 0, 1) := by decide +kernel
theorem d_RW_empty_1 : decode b_RW_empty 1 = .ok (.iconst 0, 1) := by decide +kernel
theorem d_RW_empty_2 : decode b_RW_empty 2 = .ok (.putfield 22, 3) := by decide +kernel
theorem d_RW_empty_5 : decode b_RW_empty 5 = .ok (.return_, 1) := by decide +kernel
abbrev b_ER_readEntry : ByteArray := prog_3_method_4_code
def y_ER_readEntry : MethodName := ⟨"RunStore$EntryReader", "readEntry", "()Z"⟩
theorem d_ER_readEntry_0 : decode b_ER_readEntry 0 = .ok (.aload_n 0, 1) := by decide +kernel
theorem d_ER_readEntry_1 : decode b_ER_readEntry 1 = .ok (.lconst 0, 1) := by decide +kernel
theorem d_ER_readEntry_2 : decode b_ER_readEntry 2 = .ok (.putfield 9, 3) := by decide +kernel
theorem d_ER_readEntry_5 : decode b_ER_readEntry 5 = .ok (.aload_n 0, 1) := by decide +kernel
theorem d_ER_readEntry_6 : decode b_ER_readEntry 6 = .ok (.iconst 0, 1) := by decide +kernel
theorem d_ER_readEntry_7 : decode b_ER_readEntry 7 = .ok (.putfield 15, 3) := by decide +kernel
theorem d_ER_readEntry_10 : decode b_ER_readEntry 10 = .ok (.aload_n 0, 1) := by decide +kernel
theorem d_ER_readEntry_11 : decode b_ER_readEntry 11 = .ok (.lconst 0, 1) := by decide +kernel
theorem d_ER_readEntry_12 : decode b_ER_readEntry 12 = .ok (.putfield 19, 3) := by decide +kernel
theorem d_ER_readEntry_15 : decode b_ER_readEntry 15 = .ok (.bipush 9, 2) := by decide +kernel
theorem d_ER_readEntry_17 : decode b_ER_readEntry 17 = .ok (.istore_n 1, 1) := by decide +kernel
theorem d_ER_readEntry_18 : decode b_ER_readEntry 18 = .ok (.iconst 0, 1) := by decide +kernel
theorem d_ER_readEntry_19 : decode b_ER_readEntry 19 = .ok (.istore_n 2, 1) := by decide +kernel
theorem d_ER_readEntry_20 : decode b_ER_readEntry 20 = .ok (.iload_n 2, 1) := by decide +kernel
theorem d_ER_readEntry_21 : decode b_ER_readEntry 21 = .ok (.bipush 17, 2) := by decide +kernel
theorem d_ER_readEntry_23 : decode b_ER_readEntry 23 = .ok (.if_icmp .ge 104, 3) := by decide +kernel
theorem d_ER_readEntry_26 : decode b_ER_readEntry 26 = .ok (.iload_n 2, 1) := by decide +kernel
theorem d_ER_readEntry_27 : decode b_ER_readEntry 27 = .ok (.iload_n 1, 1) := by decide +kernel
theorem d_ER_readEntry_28 : decode b_ER_readEntry 28 = .ok (.if_icmp .ge 99, 3) := by decide +kernel
theorem d_ER_readEntry_31 : decode b_ER_readEntry 31 = .ok (.aload_n 0, 1) := by decide +kernel
theorem d_ER_readEntry_32 : decode b_ER_readEntry 32 = .ok (.invokevirtual 22, 3) := by decide +kernel
theorem d_ER_readEntry_35 : decode b_ER_readEntry 35 = .ok (.istore_n 3, 1) := by decide +kernel
theorem d_ER_readEntry_36 : decode b_ER_readEntry 36 = .ok (.iload_n 3, 1) := by decide +kernel
theorem d_ER_readEntry_37 : decode b_ER_readEntry 37 = .ok (.iconst (-1), 1) := by decide +kernel
theorem d_ER_readEntry_38 : decode b_ER_readEntry 38 = .ok (.if_icmp .ne 5, 3) := by decide +kernel
theorem d_ER_readEntry_41 : decode b_ER_readEntry 41 = .ok (.iconst 0, 1) := by decide +kernel
theorem d_ER_readEntry_42 : decode b_ER_readEntry 42 = .ok (.ireturn, 1) := by decide +kernel
theorem d_ER_readEntry_43 : decode b_ER_readEntry 43 = .ok (.iload_n 2, 1) := by decide +kernel
theorem d_ER_readEntry_44 : decode b_ER_readEntry 44 = .ok (.bipush 8, 2) := by decide +kernel
theorem d_ER_readEntry_46 : decode b_ER_readEntry 46 = .ok (.if_icmp .ge 20, 3) := by decide +kernel
theorem d_ER_readEntry_49 : decode b_ER_readEntry 49 = .ok (.aload_n 0, 1) := by decide +kernel
theorem d_ER_readEntry_50 : decode b_ER_readEntry 50 = .ok (.aload_n 0, 1) := by decide +kernel
theorem d_ER_readEntry_51 : decode b_ER_readEntry 51 = .ok (.getfield 9, 3) := by decide +kernel
theorem d_ER_readEntry_54 : decode b_ER_readEntry 54 = .ok (.bipush 8, 2) := by decide +kernel
theorem d_ER_readEntry_56 : decode b_ER_readEntry 56 = .ok (.lshl, 1) := by decide +kernel
theorem d_ER_readEntry_57 : decode b_ER_readEntry 57 = .ok (.iload_n 3, 1) := by decide +kernel
theorem d_ER_readEntry_58 : decode b_ER_readEntry 58 = .ok (.i2l, 1) := by decide +kernel
theorem d_ER_readEntry_59 : decode b_ER_readEntry 59 = .ok (.lor, 1) := by decide +kernel
theorem d_ER_readEntry_60 : decode b_ER_readEntry 60 = .ok (.putfield 9, 3) := by decide +kernel
theorem d_ER_readEntry_63 : decode b_ER_readEntry 63 = .ok (.goto 58, 3) := by decide +kernel
theorem d_ER_readEntry_66 : decode b_ER_readEntry 66 = .ok (.iload_n 2, 1) := by decide +kernel
theorem d_ER_readEntry_67 : decode b_ER_readEntry 67 = .ok (.bipush 8, 2) := by decide +kernel
theorem d_ER_readEntry_69 : decode b_ER_readEntry 69 = .ok (.if_icmp .le 20, 3) := by decide +kernel
theorem d_ER_readEntry_72 : decode b_ER_readEntry 72 = .ok (.aload_n 0, 1) := by decide +kernel
theorem d_ER_readEntry_73 : decode b_ER_readEntry 73 = .ok (.aload_n 0, 1) := by decide +kernel
theorem d_ER_readEntry_74 : decode b_ER_readEntry 74 = .ok (.getfield 19, 3) := by decide +kernel
theorem d_ER_readEntry_77 : decode b_ER_readEntry 77 = .ok (.bipush 8, 2) := by decide +kernel
theorem d_ER_readEntry_79 : decode b_ER_readEntry 79 = .ok (.lshl, 1) := by decide +kernel
theorem d_ER_readEntry_80 : decode b_ER_readEntry 80 = .ok (.iload_n 3, 1) := by decide +kernel
theorem d_ER_readEntry_81 : decode b_ER_readEntry 81 = .ok (.i2l, 1) := by decide +kernel
theorem d_ER_readEntry_82 : decode b_ER_readEntry 82 = .ok (.lor, 1) := by decide +kernel
theorem d_ER_readEntry_83 : decode b_ER_readEntry 83 = .ok (.putfield 19, 3) := by decide +kernel
theorem d_ER_readEntry_86 : decode b_ER_readEntry 86 = .ok (.goto 35, 3) := by decide +kernel
theorem d_ER_readEntry_89 : decode b_ER_readEntry 89 = .ok (.iload_n 3, 1) := by decide +kernel
theorem d_ER_readEntry_90 : decode b_ER_readEntry 90 = .ok (.bipush 8, 2) := by decide +kernel
theorem d_ER_readEntry_92 : decode b_ER_readEntry 92 = .ok (.if_icmp .le 10, 3) := by decide +kernel
theorem d_ER_readEntry_95 : decode b_ER_readEntry 95 = .ok (.iload_n 3, 1) := by decide +kernel
theorem d_ER_readEntry_96 : decode b_ER_readEntry 96 = .ok (.sipush 255, 3) := by decide +kernel
theorem d_ER_readEntry_99 : decode b_ER_readEntry 99 = .ok (.if_icmp .ne 16, 3) := by decide +kernel
theorem d_ER_readEntry_102 : decode b_ER_readEntry 102 = .ok (.aload_n 0, 1) := by decide +kernel
theorem d_ER_readEntry_103 : decode b_ER_readEntry 103 = .ok (.iload_n 3, 1) := by decide +kernel
theorem d_ER_readEntry_104 : decode b_ER_readEntry 104 = .ok (.putfield 15, 3) := by decide +kernel
theorem d_ER_readEntry_107 : decode b_ER_readEntry 107 = .ok (.iload_n 3, 1) := by decide +kernel
theorem d_ER_readEntry_108 : decode b_ER_readEntry 108 = .ok (.invokestatic 26, 3) := by decide +kernel
theorem d_ER_readEntry_111 : decode b_ER_readEntry 111 = .ok (.istore_n 1, 1) := by decide +kernel
theorem d_ER_readEntry_112 : decode b_ER_readEntry 112 = .ok (.goto 9, 3) := by decide +kernel
theorem d_ER_readEntry_115 : decode b_ER_readEntry 115 = .ok (.aload_n 0, 1) := by decide +kernel
theorem d_ER_readEntry_116 : decode b_ER_readEntry 116 = .ok (.invokevirtual 30, 3) := by decide +kernel
theorem d_ER_readEntry_119 : decode b_ER_readEntry 119 = .ok (.iconst 0, 1) := by decide +kernel
theorem d_ER_readEntry_120 : decode b_ER_readEntry 120 = .ok (.ireturn, 1) := by decide +kernel
theorem d_ER_readEntry_121 : decode b_ER_readEntry 121 = .ok (.iinc 2 1, 3) := by decide +kernel
theorem d_ER_readEntry_124 : decode b_ER_readEntry 124 = .ok (.goto (-104), 3) := by decide +kernel
theorem d_ER_readEntry_127 : decode b_ER_readEntry 127 = .ok (.iconst 1, 1) := by decide +kernel
theorem d_ER_readEntry_128 : decode b_ER_readEntry 128 = .ok (.ireturn, 1) := by decide +kernel
abbrev b_RW_addMissing : ByteArray := prog_5_method_6_code
def y_RW_addMissing : MethodName := ⟨"RunStore$Rows", "addMissing", "(JIJ)V"⟩
theorem d_RW_addMissing_0 : decode b_RW_addMissing 0 = .ok (.aload_n 0, 1) := by decide +kernel
theorem d_RW_addMissing_1 : decode b_RW_addMissing 1 = .ok (.lload_n 1, 1) := by decide +kernel
theorem d_RW_addMissing_2 : decode b_RW_addMissing 2 = .ok (.invokevirtual 26, 3) := by decide +kernel
theorem d_RW_addMissing_5 : decode b_RW_addMissing 5 = .ok (.istore 6, 2) := by decide +kernel
theorem d_RW_addMissing_7 : decode b_RW_addMissing 7 = .ok (.iload 6, 2) := by decide +kernel
theorem d_RW_addMissing_9 : decode b_RW_addMissing 9 = .ok (.ifCond .ge 16, 3) := by decide +kernel
theorem d_RW_addMissing_12 : decode b_RW_addMissing 12 = .ok (.aload_n 0, 1) := by decide +kernel
theorem d_RW_addMissing_13 : decode b_RW_addMissing 13 = .ok (.iconst (-1), 1) := by decide +kernel
theorem d_RW_addMissing_14 : decode b_RW_addMissing 14 = .ok (.iload 6, 2) := by decide +kernel
theorem d_RW_addMissing_16 : decode b_RW_addMissing 16 = .ok (.isub, 1) := by decide +kernel
theorem d_RW_addMissing_17 : decode b_RW_addMissing 17 = .ok (.lload_n 1, 1) := by decide +kernel
theorem d_RW_addMissing_18 : decode b_RW_addMissing 18 = .ok (.iload_n 3, 1) := by decide +kernel
theorem d_RW_addMissing_19 : decode b_RW_addMissing 19 = .ok (.lload 4, 2) := by decide +kernel
theorem d_RW_addMissing_21 : decode b_RW_addMissing 21 = .ok (.invokevirtual 30, 3) := by decide +kernel
theorem d_RW_addMissing_24 : decode b_RW_addMissing 24 = .ok (.pop, 1) := by decide +kernel
theorem d_RW_addMissing_25 : decode b_RW_addMissing 25 = .ok (.return_, 1) := by decide +kernel
abbrev b_RW_removeMarks : ByteArray := prog_5_method_10_code
def y_RW_removeMarks : MethodName := ⟨"RunStore$Rows", "removeMarks", "()V"⟩
theorem d_RW_removeMarks_0 : decode b_RW_removeMarks 0 = .ok (.iconst 0, 1) := by decide +kernel
theorem d_RW_removeMarks_1 : decode b_RW_removeMarks 1 = .ok (.istore_n 1, 1) := by decide +kernel
theorem d_RW_removeMarks_2 : decode b_RW_removeMarks 2 = .ok (.iconst 0, 1) := by decide +kernel
theorem d_RW_removeMarks_3 : decode b_RW_removeMarks 3 = .ok (.istore_n 2, 1) := by decide +kernel
theorem d_RW_removeMarks_4 : decode b_RW_removeMarks 4 = .ok (.iload_n 2, 1) := by decide +kernel
theorem d_RW_removeMarks_5 : decode b_RW_removeMarks 5 = .ok (.aload_n 0, 1) := by decide +kernel
theorem d_RW_removeMarks_6 : decode b_RW_removeMarks 6 = .ok (.getfield 22, 3) := by decide +kernel
theorem d_RW_removeMarks_9 : decode b_RW_removeMarks 9 = .ok (.if_icmp .ge 47, 3) := by decide +kernel
theorem d_RW_removeMarks_12 : decode b_RW_removeMarks 12 = .ok (.aload_n 0, 1) := by decide +kernel
theorem d_RW_removeMarks_13 : decode b_RW_removeMarks 13 = .ok (.getfield 15, 3) := by decide +kernel
theorem d_RW_removeMarks_16 : decode b_RW_removeMarks 16 = .ok (.iload_n 2, 1) := by decide +kernel
theorem d_RW_removeMarks_17 : decode b_RW_removeMarks 17 = .ok (.iaload, 1) := by decide +kernel
theorem d_RW_removeMarks_18 : decode b_RW_removeMarks 18 = .ok (.sipush 255, 3) := by decide +kernel
theorem d_RW_removeMarks_21 : decode b_RW_removeMarks 21 = .ok (.if_icmp .eq 29, 3) := by decide +kernel
theorem d_RW_removeMarks_24 : decode b_RW_removeMarks 24 = .ok (.aload_n 0, 1) := by decide +kernel
theorem d_RW_removeMarks_25 : decode b_RW_removeMarks 25 = .ok (.iload_n 1, 1) := by decide +kernel
theorem d_RW_removeMarks_26 : decode b_RW_removeMarks 26 = .ok (.aload_n 0, 1) := by decide +kernel
theorem d_RW_removeMarks_27 : decode b_RW_removeMarks 27 = .ok (.getfield 9, 3) := by decide +kernel
theorem d_RW_removeMarks_30 : decode b_RW_removeMarks 30 = .ok (.iload_n 2, 1) := by decide +kernel
theorem d_RW_removeMarks_31 : decode b_RW_removeMarks 31 = .ok (.laload, 1) := by decide +kernel
theorem d_RW_removeMarks_32 : decode b_RW_removeMarks 32 = .ok (.aload_n 0, 1) := by decide +kernel
theorem d_RW_removeMarks_33 : decode b_RW_removeMarks 33 = .ok (.getfield 15, 3) := by decide +kernel
theorem d_RW_removeMarks_36 : decode b_RW_removeMarks 36 = .ok (.iload_n 2, 1) := by decide +kernel
theorem d_RW_removeMarks_37 : decode b_RW_removeMarks 37 = .ok (.iaload, 1) := by decide +kernel
theorem d_RW_removeMarks_38 : decode b_RW_removeMarks 38 = .ok (.aload_n 0, 1) := by decide +kernel
theorem d_RW_removeMarks_39 : decode b_RW_removeMarks 39 = .ok (.getfield 19, 3) := by decide +kernel
theorem d_RW_removeMarks_42 : decode b_RW_removeMarks 42 = .ok (.iload_n 2, 1) := by decide +kernel
theorem d_RW_removeMarks_43 : decode b_RW_removeMarks 43 = .ok (.laload, 1) := by decide +kernel
theorem d_RW_removeMarks_44 : decode b_RW_removeMarks 44 = .ok (.invokevirtual 44, 3) := by decide +kernel
theorem d_RW_removeMarks_47 : decode b_RW_removeMarks 47 = .ok (.iinc 1 1, 3) := by decide +kernel
theorem d_RW_removeMarks_50 : decode b_RW_removeMarks 50 = .ok (.iinc 2 1, 3) := by decide +kernel
theorem d_RW_removeMarks_53 : decode b_RW_removeMarks 53 = .ok (.goto (-49), 3) := by decide +kernel
theorem d_RW_removeMarks_56 : decode b_RW_removeMarks 56 = .ok (.aload_n 0, 1) := by decide +kernel
theorem d_RW_removeMarks_57 : decode b_RW_removeMarks 57 = .ok (.iload_n 1, 1) := by decide +kernel
theorem d_RW_removeMarks_58 : decode b_RW_removeMarks 58 = .ok (.putfield 22, 3) := by decide +kernel
theorem d_RW_removeMarks_61 : decode b_RW_removeMarks 61 = .ok (.return_, 1) := by decide +kernel
abbrev b_TB_passes : ByteArray := prog_6_method_2_code
def y_TB_passes : MethodName := ⟨"RunStore$Table", "passes", "(J)Z"⟩
theorem d_TB_passes_0 : decode b_TB_passes 0 = .ok (.lload_n 1, 1) := by decide +kernel
theorem d_TB_passes_1 : decode b_TB_passes 1 = .ok (.invokestatic 26, 3) := by decide +kernel
theorem d_TB_passes_4 : decode b_TB_passes 4 = .ok (.lstore_n 3, 1) := by decide +kernel
theorem d_TB_passes_5 : decode b_TB_passes 5 = .ok (.aload_n 0, 1) := by decide +kernel
theorem d_TB_passes_6 : decode b_TB_passes 6 = .ok (.getfield 18, 3) := by decide +kernel
theorem d_TB_passes_9 : decode b_TB_passes 9 = .ok (.lload_n 3, 1) := by decide +kernel
theorem d_TB_passes_10 : decode b_TB_passes 10 = .ok (.land, 1) := by decide +kernel
theorem d_TB_passes_11 : decode b_TB_passes 11 = .ok (.lload_n 3, 1) := by decide +kernel
theorem d_TB_passes_12 : decode b_TB_passes 12 = .ok (.lcmp, 1) := by decide +kernel
theorem d_TB_passes_13 : decode b_TB_passes 13 = .ok (.ifCond .ne 7, 3) := by decide +kernel
theorem d_TB_passes_16 : decode b_TB_passes 16 = .ok (.iconst 1, 1) := by decide +kernel
theorem d_TB_passes_17 : decode b_TB_passes 17 = .ok (.goto 4, 3) := by decide +kernel
theorem d_TB_passes_20 : decode b_TB_passes 20 = .ok (.iconst 0, 1) := by decide +kernel
theorem d_TB_passes_21 : decode b_TB_passes 21 = .ok (.ireturn, 1) := by decide +kernel
abbrev b_RW_addMissingOf : ByteArray := prog_5_method_7_code
def y_RW_addMissingOf : MethodName := ⟨"RunStore$Rows", "addMissingOf", "(LRunStore$Rows;)V"⟩
theorem d_RW_addMissingOf_0 : decode b_RW_addMissingOf 0 = .ok (.iconst 0, 1) := by decide +kernel
theorem d_RW_addMissingOf_1 : decode b_RW_addMissingOf 1 = .ok (.istore_n 2, 1) := by decide +kernel
theorem d_RW_addMissingOf_2 : decode b_RW_addMissingOf 2 = .ok (.iload_n 2, 1) := by decide +kernel
theorem d_RW_addMissingOf_3 : decode b_RW_addMissingOf 3 = .ok (.aload_n 1, 1) := by decide +kernel
theorem d_RW_addMissingOf_4 : decode b_RW_addMissingOf 4 = .ok (.getfield 22, 3) := by decide +kernel
theorem d_RW_addMissingOf_7 : decode b_RW_addMissingOf 7 = .ok (.if_icmp .ge 31, 3) := by decide +kernel
theorem d_RW_addMissingOf_10 : decode b_RW_addMissingOf 10 = .ok (.aload_n 0, 1) := by decide +kernel
theorem d_RW_addMissingOf_11 : decode b_RW_addMissingOf 11 = .ok (.aload_n 1, 1) := by decide +kernel
theorem d_RW_addMissingOf_12 : decode b_RW_addMissingOf 12 = .ok (.getfield 9, 3) := by decide +kernel
theorem d_RW_addMissingOf_15 : decode b_RW_addMissingOf 15 = .ok (.iload_n 2, 1) := by decide +kernel
theorem d_RW_addMissingOf_16 : decode b_RW_addMissingOf 16 = .ok (.laload, 1) := by decide +kernel
theorem d_RW_addMissingOf_17 : decode b_RW_addMissingOf 17 = .ok (.aload_n 1, 1) := by decide +kernel
theorem d_RW_addMissingOf_18 : decode b_RW_addMissingOf 18 = .ok (.getfield 15, 3) := by decide +kernel
theorem d_RW_addMissingOf_21 : decode b_RW_addMissingOf 21 = .ok (.iload_n 2, 1) := by decide +kernel
theorem d_RW_addMissingOf_22 : decode b_RW_addMissingOf 22 = .ok (.iaload, 1) := by decide +kernel
theorem d_RW_addMissingOf_23 : decode b_RW_addMissingOf 23 = .ok (.aload_n 1, 1) := by decide +kernel
theorem d_RW_addMissingOf_24 : decode b_RW_addMissingOf 24 = .ok (.getfield 19, 3) := by decide +kernel
theorem d_RW_addMissingOf_27 : decode b_RW_addMissingOf 27 = .ok (.iload_n 2, 1) := by decide +kernel
theorem d_RW_addMissingOf_28 : decode b_RW_addMissingOf 28 = .ok (.laload, 1) := by decide +kernel
theorem d_RW_addMissingOf_29 : decode b_RW_addMissingOf 29 = .ok (.invokevirtual 34, 3) := by decide +kernel
theorem d_RW_addMissingOf_32 : decode b_RW_addMissingOf 32 = .ok (.iinc 2 1, 3) := by decide +kernel
theorem d_RW_addMissingOf_35 : decode b_RW_addMissingOf 35 = .ok (.goto (-33), 3) := by decide +kernel
theorem d_RW_addMissingOf_38 : decode b_RW_addMissingOf 38 = .ok (.return_, 1) := by decide +kernel
abbrev b_RW_nextKept : ByteArray := prog_5_method_11_code
def y_RW_nextKept : MethodName := ⟨"RunStore$Rows", "nextKept", "(J)J"⟩
theorem d_RW_nextKept_0 : decode b_RW_nextKept 0 = .ok (.aload_n 0, 1) := by decide +kernel
theorem d_RW_nextKept_1 : decode b_RW_nextKept 1 = .ok (.lload_n 1, 1) := by decide +kernel
theorem d_RW_nextKept_2 : decode b_RW_nextKept 2 = .ok (.invokevirtual 26, 3) := by decide +kernel
theorem d_RW_nextKept_5 : decode b_RW_nextKept 5 = .ok (.istore_n 3, 1) := by decide +kernel
theorem d_RW_nextKept_6 : decode b_RW_nextKept 6 = .ok (.iload_n 3, 1) := by decide +kernel
theorem d_RW_nextKept_7 : decode b_RW_nextKept 7 = .ok (.ifCond .lt 9, 3) := by decide +kernel
theorem d_RW_nextKept_10 : decode b_RW_nextKept 10 = .ok (.iload_n 3, 1) := by decide +kernel
theorem d_RW_nextKept_11 : decode b_RW_nextKept 11 = .ok (.iconst 1, 1) := by decide +kernel
theorem d_RW_nextKept_12 : decode b_RW_nextKept 12 = .ok (.iadd, 1) := by decide +kernel
theorem d_RW_nextKept_13 : decode b_RW_nextKept 13 = .ok (.goto 6, 3) := by decide +kernel
theorem d_RW_nextKept_16 : decode b_RW_nextKept 16 = .ok (.iconst (-1), 1) := by decide +kernel
theorem d_RW_nextKept_17 : decode b_RW_nextKept 17 = .ok (.iload_n 3, 1) := by decide +kernel
theorem d_RW_nextKept_18 : decode b_RW_nextKept 18 = .ok (.isub, 1) := by decide +kernel
theorem d_RW_nextKept_19 : decode b_RW_nextKept 19 = .ok (.istore 4, 2) := by decide +kernel
theorem d_RW_nextKept_21 : decode b_RW_nextKept 21 = .ok (.iload 4, 2) := by decide +kernel
theorem d_RW_nextKept_23 : decode b_RW_nextKept 23 = .ok (.aload_n 0, 1) := by decide +kernel
theorem d_RW_nextKept_24 : decode b_RW_nextKept 24 = .ok (.getfield 22, 3) := by decide +kernel
theorem d_RW_nextKept_27 : decode b_RW_nextKept 27 = .ok (.if_icmp .ge 30, 3) := by decide +kernel
theorem d_RW_nextKept_30 : decode b_RW_nextKept 30 = .ok (.aload_n 0, 1) := by decide +kernel
theorem d_RW_nextKept_31 : decode b_RW_nextKept 31 = .ok (.getfield 15, 3) := by decide +kernel
theorem d_RW_nextKept_34 : decode b_RW_nextKept 34 = .ok (.iload 4, 2) := by decide +kernel
theorem d_RW_nextKept_36 : decode b_RW_nextKept 36 = .ok (.iaload, 1) := by decide +kernel
theorem d_RW_nextKept_37 : decode b_RW_nextKept 37 = .ok (.sipush 255, 3) := by decide +kernel
theorem d_RW_nextKept_40 : decode b_RW_nextKept 40 = .ok (.if_icmp .eq 11, 3) := by decide +kernel
theorem d_RW_nextKept_43 : decode b_RW_nextKept 43 = .ok (.aload_n 0, 1) := by decide +kernel
theorem d_RW_nextKept_44 : decode b_RW_nextKept 44 = .ok (.getfield 9, 3) := by decide +kernel
theorem d_RW_nextKept_47 : decode b_RW_nextKept 47 = .ok (.iload 4, 2) := by decide +kernel
theorem d_RW_nextKept_49 : decode b_RW_nextKept 49 = .ok (.laload, 1) := by decide +kernel
theorem d_RW_nextKept_50 : decode b_RW_nextKept 50 = .ok (.lreturn, 1) := by decide +kernel
theorem d_RW_nextKept_51 : decode b_RW_nextKept 51 = .ok (.iinc 4 1, 3) := by decide +kernel
theorem d_RW_nextKept_54 : decode b_RW_nextKept 54 = .ok (.goto (-33), 3) := by decide +kernel
theorem d_RW_nextKept_57 : decode b_RW_nextKept 57 = .ok (.lload_n 1, 1) := by decide +kernel
theorem d_RW_nextKept_58 : decode b_RW_nextKept 58 = .ok (.lreturn, 1) := by decide +kernel
