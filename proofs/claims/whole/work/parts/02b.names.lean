abbrev b_LG_init : ByteArray := prog_4_method_1_code
def y_LG_init : MethodName := ⟨"RunStore$Log", "<init>", "()V"⟩
theorem d_LG_init_0 : decode b_LG_init 0 = .ok (.aload_n 0, 1) := by decide +kernel
theorem d_LG_init_1 : decode b_LG_init 1 = .ok (.invokespecial 3, 3) := by decide +kernel
theorem d_LG_init_4 : decode b_LG_init 4 = .ok (.aload_n 0, 1) := by decide +kernel
theorem d_LG_init_5 : decode b_LG_init 5 = .ok (.sipush 1024, 3) := by decide +kernel
theorem d_LG_init_8 : decode b_LG_init 8 = .ok (.newarray .byte, 2) := by decide +kernel
theorem d_LG_init_10 : decode b_LG_init 10 = .ok (.putfield 9, 3) := by decide +kernel
theorem d_LG_init_13 : decode b_LG_init 13 = .ok (.return_, 1) := by decide +kernel
abbrev b_BL_init : ByteArray := prog_2_method_1_code
def y_BL_init : MethodName := ⟨"RunStore$Blocks", "<init>", "(I)V"⟩
theorem d_BL_init_0 : decode b_BL_init 0 = .ok (.aload_n 0, 1) := by decide +kernel
theorem d_BL_init_1 : decode b_BL_init 1 = .ok (.invokespecial 3, 3) := by decide +kernel
theorem d_BL_init_4 : decode b_BL_init 4 = .ok (.aload_n 0, 1) := by decide +kernel
theorem d_BL_init_5 : decode b_BL_init 5 = .ok (.iload_n 1, 1) := by decide +kernel
theorem d_BL_init_6 : decode b_BL_init 6 = .ok (.bipush 32, 2) := by decide +kernel
theorem d_BL_init_8 : decode b_BL_init 8 = .ok (.imul, 1) := by decide +kernel
theorem d_BL_init_9 : decode b_BL_init 9 = .ok (.newarray .byte, 2) := by decide +kernel
theorem d_BL_init_11 : decode b_BL_init 11 = .ok (.putfield 9, 3) := by decide +kernel
theorem d_BL_init_14 : decode b_BL_init 14 = .ok (.aload_n 0, 1) := by decide +kernel
theorem d_BL_init_15 : decode b_BL_init 15 = .ok (.iload_n 1, 1) := by decide +kernel
theorem d_BL_init_16 : decode b_BL_init 16 = .ok (.newarray .int, 2) := by decide +kernel
theorem d_BL_init_18 : decode b_BL_init 18 = .ok (.putfield 15, 3) := by decide +kernel
theorem d_BL_init_21 : decode b_BL_init 21 = .ok (.aload_n 0, 1) := by decide +kernel
theorem d_BL_init_22 : decode b_BL_init 22 = .ok (.iload_n 1, 1) := by decide +kernel
theorem d_BL_init_23 : decode b_BL_init 23 = .ok (.newarray .int, 2) := by decide +kernel
theorem d_BL_init_25 : decode b_BL_init 25 = .ok (.putfield 19, 3) := by decide +kernel
theorem d_BL_init_28 : decode b_BL_init 28 = .ok (.iconst 0, 1) := by decide +kernel
theorem d_BL_init_29 : decode b_BL_init 29 = .ok (.istore_n 2, 1) := by decide +kernel
theorem d_BL_init_30 : decode b_BL_init 30 = .ok (.iload_n 2, 1) := by decide +kernel
theorem d_BL_init_31 : decode b_BL_init 31 = .ok (.iload_n 1, 1) := by decide +kernel
theorem d_BL_init_32 : decode b_BL_init 32 = .ok (.if_icmp .ge 16, 3) := by decide +kernel
theorem d_BL_init_35 : decode b_BL_init 35 = .ok (.aload_n 0, 1) := by decide +kernel
theorem d_BL_init_36 : decode b_BL_init 36 = .ok (.getfield 19, 3) := by decide +kernel
theorem d_BL_init_39 : decode b_BL_init 39 = .ok (.iload_n 2, 1) := by decide +kernel
theorem d_BL_init_40 : decode b_BL_init 40 = .ok (.iconst (-1), 1) := by decide +kernel
theorem d_BL_init_41 : decode b_BL_init 41 = .ok (.iastore, 1) := by decide +kernel
theorem d_BL_init_42 : decode b_BL_init 42 = .ok (.iinc 2 1, 3) := by decide +kernel
theorem d_BL_init_45 : decode b_BL_init 45 = .ok (.goto (-15), 3) := by decide +kernel
theorem d_BL_init_48 : decode b_BL_init 48 = .ok (.return_, 1) := by decide +kernel
abbrev b_TR_init : ByteArray := prog_7_method_1_code
def y_TR_init : MethodName := ⟨"RunStore$TableReader", "<init>", "(LRunStore$Blocks;)V"⟩
theorem d_TR_init_0 : decode b_TR_init 0 = .ok (.aload_n 0, 1) := by decide +kernel
theorem d_TR_init_1 : decode b_TR_init 1 = .ok (.invokespecial 3, 3) := by decide +kernel
theorem d_TR_init_4 : decode b_TR_init 4 = .ok (.aload_n 0, 1) := by decide +kernel
theorem d_TR_init_5 : decode b_TR_init 5 = .ok (.aload_n 1, 1) := by decide +kernel
theorem d_TR_init_6 : decode b_TR_init 6 = .ok (.putfield 9, 3) := by decide +kernel
theorem d_TR_init_9 : decode b_TR_init 9 = .ok (.aload_n 0, 1) := by decide +kernel
theorem d_TR_init_10 : decode b_TR_init 10 = .ok (.iconst (-1), 1) := by decide +kernel
theorem d_TR_init_11 : decode b_TR_init 11 = .ok (.putfield 15, 3) := by decide +kernel
theorem d_TR_init_14 : decode b_TR_init 14 = .ok (.return_, 1) := by decide +kernel
abbrev b_BL_lowestWrong : ByteArray := prog_2_method_12_code
def y_BL_lowestWrong : MethodName := ⟨"RunStore$Blocks", "lowestWrong", "()I"⟩
theorem d_BL_lowestWrong_0 : decode b_BL_lowestWrong 0 = .ok (.iconst 0, 1) := by decide +kernel
theorem d_BL_lowestWrong_1 : decode b_BL_lowestWrong 1 = .ok (.istore_n 1, 1) := by decide +kernel
theorem d_BL_lowestWrong_2 : decode b_BL_lowestWrong 2 = .ok (.iload_n 1, 1) := by decide +kernel
theorem d_BL_lowestWrong_3 : decode b_BL_lowestWrong 3 = .ok (.aload_n 0, 1) := by decide +kernel
theorem d_BL_lowestWrong_4 : decode b_BL_lowestWrong 4 = .ok (.getfield 19, 3) := by decide +kernel
theorem d_BL_lowestWrong_7 : decode b_BL_lowestWrong 7 = .ok (.arraylength, 1) := by decide +kernel
theorem d_BL_lowestWrong_8 : decode b_BL_lowestWrong 8 = .ok (.if_icmp .ge 35, 3) := by decide +kernel
theorem d_BL_lowestWrong_11 : decode b_BL_lowestWrong 11 = .ok (.aload_n 0, 1) := by decide +kernel
theorem d_BL_lowestWrong_12 : decode b_BL_lowestWrong 12 = .ok (.getfield 19, 3) := by decide +kernel
theorem d_BL_lowestWrong_15 : decode b_BL_lowestWrong 15 = .ok (.iload_n 1, 1) := by decide +kernel
theorem d_BL_lowestWrong_16 : decode b_BL_lowestWrong 16 = .ok (.iaload, 1) := by decide +kernel
theorem d_BL_lowestWrong_17 : decode b_BL_lowestWrong 17 = .ok (.iconst (-1), 1) := by decide +kernel
theorem d_BL_lowestWrong_18 : decode b_BL_lowestWrong 18 = .ok (.if_icmp .eq 19, 3) := by decide +kernel
theorem d_BL_lowestWrong_21 : decode b_BL_lowestWrong 21 = .ok (.aload_n 0, 1) := by decide +kernel
theorem d_BL_lowestWrong_22 : decode b_BL_lowestWrong 22 = .ok (.getfield 15, 3) := by decide +kernel
theorem d_BL_lowestWrong_25 : decode b_BL_lowestWrong 25 = .ok (.iload_n 1, 1) := by decide +kernel
theorem d_BL_lowestWrong_26 : decode b_BL_lowestWrong 26 = .ok (.iaload, 1) := by decide +kernel
theorem d_BL_lowestWrong_27 : decode b_BL_lowestWrong 27 = .ok (.aload_n 0, 1) := by decide +kernel
theorem d_BL_lowestWrong_28 : decode b_BL_lowestWrong 28 = .ok (.iload_n 1, 1) := by decide +kernel
theorem d_BL_lowestWrong_29 : decode b_BL_lowestWrong 29 = .ok (.invokevirtual 58, 3) := by decide +kernel
theorem d_BL_lowestWrong_32 : decode b_BL_lowestWrong 32 = .ok (.if_icmp .eq 5, 3) := by decide +kernel
theorem d_BL_lowestWrong_35 : decode b_BL_lowestWrong 35 = .ok (.iload_n 1, 1) := by decide +kernel
theorem d_BL_lowestWrong_36 : decode b_BL_lowestWrong 36 = .ok (.ireturn, 1) := by decide +kernel
theorem d_BL_lowestWrong_37 : decode b_BL_lowestWrong 37 = .ok (.iinc 1 1, 3) := by decide +kernel
theorem d_BL_lowestWrong_40 : decode b_BL_lowestWrong 40 = .ok (.goto (-38), 3) := by decide +kernel
theorem d_BL_lowestWrong_43 : decode b_BL_lowestWrong 43 = .ok (.iconst (-1), 1) := by decide +kernel
theorem d_BL_lowestWrong_44 : decode b_BL_lowestWrong 44 = .ok (.ireturn, 1) := by decide +kernel
abbrev b_BL_sumOf : ByteArray := prog_2_method_13_code
def y_BL_sumOf : MethodName := ⟨"RunStore$Blocks", "sumOf", "(I)I"⟩
theorem d_BL_sumOf_0 : decode b_BL_sumOf 0 = .ok (.aload_n 0, 1) := by decide +kernel
theorem d_BL_sumOf_1 : decode b_BL_sumOf 1 = .ok (.getfield 19, 3) := by decide +kernel
theorem d_BL_sumOf_4 : decode b_BL_sumOf 4 = .ok (.iload_n 1, 1) := by decide +kernel
theorem d_BL_sumOf_5 : decode b_BL_sumOf 5 = .ok (.iaload, 1) := by decide +kernel
theorem d_BL_sumOf_6 : decode b_BL_sumOf 6 = .ok (.istore_n 2, 1) := by decide +kernel
theorem d_BL_sumOf_7 : decode b_BL_sumOf 7 = .ok (.iload_n 1, 1) := by decide +kernel
theorem d_BL_sumOf_8 : decode b_BL_sumOf 8 = .ok (.bipush 32, 2) := by decide +kernel
theorem d_BL_sumOf_10 : decode b_BL_sumOf 10 = .ok (.imul, 1) := by decide +kernel
theorem d_BL_sumOf_11 : decode b_BL_sumOf 11 = .ok (.istore_n 3, 1) := by decide +kernel
theorem d_BL_sumOf_12 : decode b_BL_sumOf 12 = .ok (.iload_n 3, 1) := by decide +kernel
theorem d_BL_sumOf_13 : decode b_BL_sumOf 13 = .ok (.istore 4, 2) := by decide +kernel
theorem d_BL_sumOf_15 : decode b_BL_sumOf 15 = .ok (.iload 4, 2) := by decide +kernel
theorem d_BL_sumOf_17 : decode b_BL_sumOf 17 = .ok (.iload_n 3, 1) := by decide +kernel
theorem d_BL_sumOf_18 : decode b_BL_sumOf 18 = .ok (.bipush 32, 2) := by decide +kernel
theorem d_BL_sumOf_20 : decode b_BL_sumOf 20 = .ok (.iadd, 1) := by decide +kernel
theorem d_BL_sumOf_21 : decode b_BL_sumOf 21 = .ok (.if_icmp .ge 39, 3) := by decide +kernel
theorem d_BL_sumOf_24 : decode b_BL_sumOf 24 = .ok (.iload_n 2, 1) := by decide +kernel
theorem d_BL_sumOf_25 : decode b_BL_sumOf 25 = .ok (.aload_n 0, 1) := by decide +kernel
theorem d_BL_sumOf_26 : decode b_BL_sumOf 26 = .ok (.getfield 9, 3) := by decide +kernel
theorem d_BL_sumOf_29 : decode b_BL_sumOf 29 = .ok (.iload 4, 2) := by decide +kernel
theorem d_BL_sumOf_31 : decode b_BL_sumOf 31 = .ok (.baload, 1) := by decide +kernel
theorem d_BL_sumOf_32 : decode b_BL_sumOf 32 = .ok (.sipush 255, 3) := by decide +kernel
theorem d_BL_sumOf_35 : decode b_BL_sumOf 35 = .ok (.iand, 1) := by decide +kernel
theorem d_BL_sumOf_36 : decode b_BL_sumOf 36 = .ok (.ixor, 1) := by decide +kernel
theorem d_BL_sumOf_37 : decode b_BL_sumOf 37 = .ok (.istore 5, 2) := by decide +kernel
theorem d_BL_sumOf_39 : decode b_BL_sumOf 39 = .ok (.iload 5, 2) := by decide +kernel
theorem d_BL_sumOf_41 : decode b_BL_sumOf 41 = .ok (.bipush 15, 2) := by decide +kernel
theorem d_BL_sumOf_43 : decode b_BL_sumOf 43 = .ok (.ishl, 1) := by decide +kernel
theorem d_BL_sumOf_44 : decode b_BL_sumOf 44 = .ok (.iload 5, 2) := by decide +kernel
theorem d_BL_sumOf_46 : decode b_BL_sumOf 46 = .ok (.bipush 17, 2) := by decide +kernel
theorem d_BL_sumOf_48 : decode b_BL_sumOf 48 = .ok (.iushr, 1) := by decide +kernel
theorem d_BL_sumOf_49 : decode b_BL_sumOf 49 = .ok (.ior, 1) := by decide +kernel
theorem d_BL_sumOf_50 : decode b_BL_sumOf 50 = .ok (.ldc 92, 2) := by decide +kernel
theorem d_BL_sumOf_52 : decode b_BL_sumOf 52 = .ok (.imul, 1) := by decide +kernel
theorem d_BL_sumOf_53 : decode b_BL_sumOf 53 = .ok (.istore_n 2, 1) := by decide +kernel
theorem d_BL_sumOf_54 : decode b_BL_sumOf 54 = .ok (.iinc 4 1, 3) := by decide +kernel
theorem d_BL_sumOf_57 : decode b_BL_sumOf 57 = .ok (.goto (-42), 3) := by decide +kernel
theorem d_BL_sumOf_60 : decode b_BL_sumOf 60 = .ok (.iload_n 2, 1) := by decide +kernel
theorem d_BL_sumOf_61 : decode b_BL_sumOf 61 = .ok (.ireturn, 1) := by decide +kernel
abbrev b_BL_freeCount : ByteArray := prog_2_method_5_code
def y_BL_freeCount : MethodName := ⟨"RunStore$Blocks", "freeCount", "()I"⟩
theorem d_BL_freeCount_0 : decode b_BL_freeCount 0 = .ok (.iconst 0, 1) := by decide +kernel
theorem d_BL_freeCount_1 : decode b_BL_freeCount 1 = .ok (.istore_n 1, 1) := by decide +kernel
theorem d_BL_freeCount_2 : decode b_BL_freeCount 2 = .ok (.iconst 0, 1) := by decide +kernel
theorem d_BL_freeCount_3 : decode b_BL_freeCount 3 = .ok (.istore_n 2, 1) := by decide +kernel
theorem d_BL_freeCount_4 : decode b_BL_freeCount 4 = .ok (.iload_n 2, 1) := by decide +kernel
theorem d_BL_freeCount_5 : decode b_BL_freeCount 5 = .ok (.aload_n 0, 1) := by decide +kernel
theorem d_BL_freeCount_6 : decode b_BL_freeCount 6 = .ok (.getfield 19, 3) := by decide +kernel
theorem d_BL_freeCount_9 : decode b_BL_freeCount 9 = .ok (.arraylength, 1) := by decide +kernel
theorem d_BL_freeCount_10 : decode b_BL_freeCount 10 = .ok (.if_icmp .ge 22, 3) := by decide +kernel
theorem d_BL_freeCount_13 : decode b_BL_freeCount 13 = .ok (.aload_n 0, 1) := by decide +kernel
theorem d_BL_freeCount_14 : decode b_BL_freeCount 14 = .ok (.getfield 19, 3) := by decide +kernel
theorem d_BL_freeCount_17 : decode b_BL_freeCount 17 = .ok (.iload_n 2, 1) := by decide +kernel
theorem d_BL_freeCount_18 : decode b_BL_freeCount 18 = .ok (.iaload, 1) := by decide +kernel
theorem d_BL_freeCount_19 : decode b_BL_freeCount 19 = .ok (.iconst (-1), 1) := by decide +kernel
theorem d_BL_freeCount_20 : decode b_BL_freeCount 20 = .ok (.if_icmp .ne 6, 3) := by decide +kernel
theorem d_BL_freeCount_23 : decode b_BL_freeCount 23 = .ok (.iinc 1 1, 3) := by decide +kernel
theorem d_BL_freeCount_26 : decode b_BL_freeCount 26 = .ok (.iinc 2 1, 3) := by decide +kernel
theorem d_BL_freeCount_29 : decode b_BL_freeCount 29 = .ok (.goto (-25), 3) := by decide +kernel
theorem d_BL_freeCount_32 : decode b_BL_freeCount 32 = .ok (.iload_n 1, 1) := by decide +kernel
theorem d_BL_freeCount_33 : decode b_BL_freeCount 33 = .ok (.ireturn, 1) := by decide +kernel
abbrev b_LG_takes : ByteArray := prog_4_method_4_code
def y_LG_takes : MethodName := ⟨"RunStore$Log", "takes", "(I)Z"⟩
theorem d_LG_takes_0 : decode b_LG_takes 0 = .ok (.iload_n 1, 1) := by decide +kernel
theorem d_LG_takes_1 : decode b_LG_takes 1 = .ok (.invokestatic 19, 3) := by decide +kernel
theorem d_LG_takes_4 : decode b_LG_takes 4 = .ok (.iconst 1, 1) := by decide +kernel
theorem d_LG_takes_5 : decode b_LG_takes 5 = .ok (.iadd, 1) := by decide +kernel
theorem d_LG_takes_6 : decode b_LG_takes 6 = .ok (.aload_n 0, 1) := by decide +kernel
theorem d_LG_takes_7 : decode b_LG_takes 7 = .ok (.getfield 9, 3) := by decide +kernel
theorem d_LG_takes_10 : decode b_LG_takes 10 = .ok (.arraylength, 1) := by decide +kernel
theorem d_LG_takes_11 : decode b_LG_takes 11 = .ok (.aload_n 0, 1) := by decide +kernel
theorem d_LG_takes_12 : decode b_LG_takes 12 = .ok (.getfield 15, 3) := by decide +kernel
theorem d_LG_takes_15 : decode b_LG_takes 15 = .ok (.isub, 1) := by decide +kernel
theorem d_LG_takes_16 : decode b_LG_takes 16 = .ok (.if_icmp .gt 7, 3) := by decide +kernel
theorem d_LG_takes_19 : decode b_LG_takes 19 = .ok (.iconst 1, 1) := by decide +kernel
theorem d_LG_takes_20 : decode b_LG_takes 20 = .ok (.goto 4, 3) := by decide +kernel
theorem d_LG_takes_23 : decode b_LG_takes 23 = .ok (.iconst 0, 1) := by decide +kernel
theorem d_LG_takes_24 : decode b_LG_takes 24 = .ok (.ireturn, 1) := by decide +kernel
abbrev b_LG_append : ByteArray := prog_4_method_5_code
def y_LG_append : MethodName := ⟨"RunStore$Log", "append", "(JIJ)V"⟩
theorem d_LG_append_0 : decode b_LG_append 0 = .ok (.iconst 0, 1) := by decide +kernel
theorem d_LG_append_1 : decode b_LG_append 1 = .ok (.istore 6, 2) := by decide +kernel
theorem d_LG_append_3 : decode b_LG_append 3 = .ok (.iload_n 3, 1) := by decide +kernel
theorem d_LG_append_4 : decode b_LG_append 4 = .ok (.invokestatic 19, 3) := by decide +kernel
theorem d_LG_append_7 : decode b_LG_append 7 = .ok (.istore 7, 2) := by decide +kernel
theorem d_LG_append_9 : decode b_LG_append 9 = .ok (.iconst 0, 1) := by decide +kernel
theorem d_LG_append_10 : decode b_LG_append 10 = .ok (.istore 8, 2) := by decide +kernel
theorem d_LG_append_12 : decode b_LG_append 12 = .ok (.iload 8, 2) := by decide +kernel
theorem d_LG_append_14 : decode b_LG_append 14 = .ok (.iload 7, 2) := by decide +kernel
theorem d_LG_append_16 : decode b_LG_append 16 = .ok (.if_icmp .ge 33, 3) := by decide +kernel
theorem d_LG_append_19 : decode b_LG_append 19 = .ok (.lload_n 1, 1) := by decide +kernel
theorem d_LG_append_20 : decode b_LG_append 20 = .ok (.iload_n 3, 1) := by decide +kernel
theorem d_LG_append_21 : decode b_LG_append 21 = .ok (.lload 4, 2) := by decide +kernel
theorem d_LG_append_23 : decode b_LG_append 23 = .ok (.iload 8, 2) := by decide +kernel
theorem d_LG_append_25 : decode b_LG_append 25 = .ok (.invokestatic 23, 3) := by decide +kernel
theorem d_LG_append_28 : decode b_LG_append 28 = .ok (.istore 9, 2) := by decide +kernel
theorem d_LG_append_30 : decode b_LG_append 30 = .ok (.iload 6, 2) := by decide +kernel
theorem d_LG_append_32 : decode b_LG_append 32 = .ok (.iload 9, 2) := by decide +kernel
theorem d_LG_append_34 : decode b_LG_append 34 = .ok (.iadd, 1) := by decide +kernel
theorem d_LG_append_35 : decode b_LG_append 35 = .ok (.istore 6, 2) := by decide +kernel
theorem d_LG_append_37 : decode b_LG_append 37 = .ok (.aload_n 0, 1) := by decide +kernel
theorem d_LG_append_38 : decode b_LG_append 38 = .ok (.iload 9, 2) := by decide +kernel
theorem d_LG_append_40 : decode b_LG_append 40 = .ok (.invokevirtual 27, 3) := by decide +kernel
theorem d_LG_append_43 : decode b_LG_append 43 = .ok (.iinc 8 1, 3) := by decide +kernel
theorem d_LG_append_46 : decode b_LG_append 46 = .ok (.goto (-34), 3) := by decide +kernel
theorem d_LG_append_49 : decode b_LG_append 49 = .ok (.aload_n 0, 1) := by decide +kernel
theorem d_LG_append_50 : decode b_LG_append 50 = .ok (.iload 6, 2) := by decide +kernel
theorem d_LG_append_52 : decode b_LG_append 52 = .ok (.invokevirtual 27, 3) := by decide +kernel
theorem d_LG_append_55 : decode b_LG_append 55 = .ok (.return_, 1) := by decide +kernel
abbrev b_LG_appendByte : ByteArray := prog_4_method_6_code
def y_LG_appendByte : MethodName := ⟨"RunStore$Log", "appendByte", "(I)V"⟩
theorem d_LG_appendByte_0 : decode b_LG_appendByte 0 = .ok (.aload_n 0, 1) := by decide +kernel
theorem d_LG_appendByte_1 : decode b_LG_appendByte 1 = .ok (.getfield 15, 3) := by decide +kernel
theorem d_LG_appendByte_4 : decode b_LG_appendByte 4 = .ok (.aload_n 0, 1) := by decide +kernel
theorem d_LG_appendByte_5 : decode b_LG_appendByte 5 = .ok (.getfield 9, 3) := by decide +kernel
theorem d_LG_appendByte_8 : decode b_LG_appendByte 8 = .ok (.arraylength, 1) := by decide +kernel
theorem d_LG_appendByte_9 : decode b_LG_appendByte 9 = .ok (.if_icmp .ge 24, 3) := by decide +kernel
theorem d_LG_appendByte_12 : decode b_LG_appendByte 12 = .ok (.aload_n 0, 1) := by decide +kernel
theorem d_LG_appendByte_13 : decode b_LG_appendByte 13 = .ok (.getfield 9, 3) := by decide +kernel
theorem d_LG_appendByte_16 : decode b_LG_appendByte 16 = .ok (.aload_n 0, 1) := by decide +kernel
theorem d_LG_appendByte_17 : decode b_LG_appendByte 17 = .ok (.getfield 15, 3) := by decide +kernel
theorem d_LG_appendByte_20 : decode b_LG_appendByte 20 = .ok (.iload_n 1, 1) := by decide +kernel
theorem d_LG_appendByte_21 : decode b_LG_appendByte 21 = .ok (.i2b, 1) := by decide +kernel
theorem d_LG_appendByte_22 : decode b_LG_appendByte 22 = .ok (.bastore, 1) := by decide +kernel
theorem d_LG_appendByte_23 : decode b_LG_appendByte 23 = .ok (.aload_n 0, 1) := by decide +kernel
theorem d_LG_appendByte_24 : decode b_LG_appendByte 24 = .ok (.dup, 1) := by decide +kernel
theorem d_LG_appendByte_25 : decode b_LG_appendByte 25 = .ok (.getfield 15, 3) := by decide +kernel
theorem d_LG_appendByte_28 : decode b_LG_appendByte 28 = .ok (.iconst 1, 1) := by decide +kernel
theorem d_LG_appendByte_29 : decode b_LG_appendByte 29 = .ok (.iadd, 1) := by decide +kernel
theorem d_LG_appendByte_30 : decode b_LG_appendByte 30 = .ok (.putfield 15, 3) := by decide +kernel
theorem d_LG_appendByte_33 : decode b_LG_appendByte 33 = .ok (.return_, 1) := by decide +kernel
abbrev b_BL_writeTable : ByteArray := prog_2_method_6_code
def y_BL_writeTable : MethodName := ⟨"RunStore$Blocks", "writeTable", "(ILRunStore$Rows;)LRunStore$Table;"⟩
theorem d_BL_writeTable_0 : decode b_BL_writeTable 0 = .ok (.aload_n 2, 1) := by decide +kernel
theorem d_BL_writeTable_1 : decode b_BL_writeTable 1 = .ok (.invokevirtual 26, 3) := by decide +kernel
theorem d_BL_writeTable_4 : decode b_BL_writeTable 4 = .ok (.bipush 32, 2) := by decide +kernel
theorem d_BL_writeTable_6 : decode b_BL_writeTable 6 = .ok (.iadd, 1) := by decide +kernel
theorem d_BL_writeTable_7 : decode b_BL_writeTable 7 = .ok (.iconst 1, 1) := by decide +kernel
theorem d_BL_writeTable_8 : decode b_BL_writeTable 8 = .ok (.isub, 1) := by decide +kernel
theorem d_BL_writeTable_9 : decode b_BL_writeTable 9 = .ok (.bipush 32, 2) := by decide +kernel
theorem d_BL_writeTable_11 : decode b_BL_writeTable 11 = .ok (.idiv, 1) := by decide +kernel
theorem d_BL_writeTable_12 : decode b_BL_writeTable 12 = .ok (.istore_n 3, 1) := by decide +kernel
theorem d_BL_writeTable_13 : decode b_BL_writeTable 13 = .ok (.iload_n 3, 1) := by decide +kernel
theorem d_BL_writeTable_14 : decode b_BL_writeTable 14 = .ok (.iconst 1, 1) := by decide +kernel
theorem d_BL_writeTable_15 : decode b_BL_writeTable 15 = .ok (.if_icmp .lt 11, 3) := by decide +kernel
theorem d_BL_writeTable_18 : decode b_BL_writeTable 18 = .ok (.iload_n 3, 1) := by decide +kernel
theorem d_BL_writeTable_19 : decode b_BL_writeTable 19 = .ok (.aload_n 0, 1) := by decide +kernel
theorem d_BL_writeTable_20 : decode b_BL_writeTable 20 = .ok (.invokevirtual 31, 3) := by decide +kernel
theorem d_BL_writeTable_23 : decode b_BL_writeTable 23 = .ok (.if_icmp .le 5, 3) := by decide +kernel
theorem d_BL_writeTable_26 : decode b_BL_writeTable 26 = .ok (.aconst_null, 1) := by decide +kernel
theorem d_BL_writeTable_27 : decode b_BL_writeTable 27 = .ok (.areturn, 1) := by decide +kernel
theorem d_BL_writeTable_28 : decode b_BL_writeTable 28 = .ok (.new 34, 3) := by decide +kernel
theorem d_BL_writeTable_31 : decode b_BL_writeTable 31 = .ok (.dup, 1) := by decide +kernel
theorem d_BL_writeTable_32 : decode b_BL_writeTable 32 = .ok (.iload_n 1, 1) := by decide +kernel
theorem d_BL_writeTable_33 : decode b_BL_writeTable 33 = .ok (.aload_n 2, 1) := by decide +kernel
theorem d_BL_writeTable_34 : decode b_BL_writeTable 34 = .ok (.getfield 36, 3) := by decide +kernel
theorem d_BL_writeTable_37 : decode b_BL_writeTable 37 = .ok (.aload_n 2, 1) := by decide +kernel
theorem d_BL_writeTable_38 : decode b_BL_writeTable 38 = .ok (.invokevirtual 40, 3) := by decide +kernel
theorem d_BL_writeTable_41 : decode b_BL_writeTable 41 = .ok (.aload_n 0, 1) := by decide +kernel
theorem d_BL_writeTable_42 : decode b_BL_writeTable 42 = .ok (.iload_n 3, 1) := by decide +kernel
theorem d_BL_writeTable_43 : decode b_BL_writeTable 43 = .ok (.invokevirtual 44, 3) := by decide +kernel
theorem d_BL_writeTable_46 : decode b_BL_writeTable 46 = .ok (.invokespecial 48, 3) := by decide +kernel
theorem d_BL_writeTable_49 : decode b_BL_writeTable 49 = .ok (.astore 4, 2) := by decide +kernel
theorem d_BL_writeTable_51 : decode b_BL_writeTable 51 = .ok (.aload_n 0, 1) := by decide +kernel
theorem d_BL_writeTable_52 : decode b_BL_writeTable 52 = .ok (.aload 4, 2) := by decide +kernel
theorem d_BL_writeTable_54 : decode b_BL_writeTable 54 = .ok (.aload_n 2, 1) := by decide +kernel
theorem d_BL_writeTable_55 : decode b_BL_writeTable 55 = .ok (.invokevirtual 51, 3) := by decide +kernel
theorem d_BL_writeTable_58 : decode b_BL_writeTable 58 = .ok (.iconst 0, 1) := by decide +kernel
theorem d_BL_writeTable_59 : decode b_BL_writeTable 59 = .ok (.istore 5, 2) := by decide +kernel
theorem d_BL_writeTable_61 : decode b_BL_writeTable 61 = .ok (.iload 5, 2) := by decide +kernel
theorem d_BL_writeTable_63 : decode b_BL_writeTable 63 = .ok (.aload 4, 2) := by decide +kernel
theorem d_BL_writeTable_65 : decode b_BL_writeTable 65 = .ok (.getfield 55, 3) := by decide +kernel
theorem d_BL_writeTable_68 : decode b_BL_writeTable 68 = .ok (.arraylength, 1) := by decide +kernel
theorem d_BL_writeTable_69 : decode b_BL_writeTable 69 = .ok (.if_icmp .ge 41, 3) := by decide +kernel
theorem d_BL_writeTable_72 : decode b_BL_writeTable 72 = .ok (.aload 4, 2) := by decide +kernel
theorem d_BL_writeTable_74 : decode b_BL_writeTable 74 = .ok (.getfield 55, 3) := by decide +kernel
theorem d_BL_writeTable_77 : decode b_BL_writeTable 77 = .ok (.iload 5, 2) := by decide +kernel
theorem d_BL_writeTable_79 : decode b_BL_writeTable 79 = .ok (.iaload, 1) := by decide +kernel
theorem d_BL_writeTable_80 : decode b_BL_writeTable 80 = .ok (.istore 6, 2) := by decide +kernel
theorem d_BL_writeTable_82 : decode b_BL_writeTable 82 = .ok (.aload_n 0, 1) := by decide +kernel
theorem d_BL_writeTable_83 : decode b_BL_writeTable 83 = .ok (.iload 6, 2) := by decide +kernel
theorem d_BL_writeTable_85 : decode b_BL_writeTable 85 = .ok (.invokevirtual 22, 3) := by decide +kernel
theorem d_BL_writeTable_88 : decode b_BL_writeTable 88 = .ok (.ifCond .eq 16, 3) := by decide +kernel
theorem d_BL_writeTable_91 : decode b_BL_writeTable 91 = .ok (.aload_n 0, 1) := by decide +kernel
theorem d_BL_writeTable_92 : decode b_BL_writeTable 92 = .ok (.getfield 15, 3) := by decide +kernel
theorem d_BL_writeTable_95 : decode b_BL_writeTable 95 = .ok (.iload 6, 2) := by decide +kernel
theorem d_BL_writeTable_97 : decode b_BL_writeTable 97 = .ok (.aload_n 0, 1) := by decide +kernel
theorem d_BL_writeTable_98 : decode b_BL_writeTable 98 = .ok (.iload 6, 2) := by decide +kernel
theorem d_BL_writeTable_100 : decode b_BL_writeTable 100 = .ok (.invokevirtual 58, 3) := by decide +kernel
theorem d_BL_writeTable_103 : decode b_BL_writeTable 103 = .ok (.iastore, 1) := by decide +kernel
theorem d_BL_writeTable_104 : decode b_BL_writeTable 104 = .ok (.iinc 5 1, 3) := by decide +kernel
theorem d_BL_writeTable_107 : decode b_BL_writeTable 107 = .ok (.goto (-46), 3) := by decide +kernel
theorem d_BL_writeTable_110 : decode b_BL_writeTable 110 = .ok (.aload 4, 2) := by decide +kernel
theorem d_BL_writeTable_112 : decode b_BL_writeTable 112 = .ok (.areturn, 1) := by decide +kernel
abbrev b_BL_take : ByteArray := prog_2_method_7_code
def y_BL_take : MethodName := ⟨"RunStore$Blocks", "take", "(I)[I"⟩
theorem d_BL_take_0 : decode b_BL_take 0 = .ok (.iload_n 1, 1) := by decide +kernel
theorem d_BL_take_1 : decode b_BL_take 1 = .ok (.newarray .int, 2) := by decide +kernel
theorem d_BL_take_3 : decode b_BL_take 3 = .ok (.astore_n 2, 1) := by decide +kernel
theorem d_BL_take_4 : decode b_BL_take 4 = .ok (.iconst 0, 1) := by decide +kernel
theorem d_BL_take_5 : decode b_BL_take 5 = .ok (.istore_n 3, 1) := by decide +kernel
theorem d_BL_take_6 : decode b_BL_take 6 = .ok (.iconst 0, 1) := by decide +kernel
theorem d_BL_take_7 : decode b_BL_take 7 = .ok (.istore 4, 2) := by decide +kernel
theorem d_BL_take_9 : decode b_BL_take 9 = .ok (.iload 4, 2) := by decide +kernel
theorem d_BL_take_11 : decode b_BL_take 11 = .ok (.aload_n 0, 1) := by decide +kernel
theorem d_BL_take_12 : decode b_BL_take 12 = .ok (.getfield 19, 3) := by decide +kernel
theorem d_BL_take_15 : decode b_BL_take 15 = .ok (.arraylength, 1) := by decide +kernel
theorem d_BL_take_16 : decode b_BL_take 16 = .ok (.if_icmp .ge 41, 3) := by decide +kernel
theorem d_BL_take_19 : decode b_BL_take 19 = .ok (.iload_n 3, 1) := by decide +kernel
theorem d_BL_take_20 : decode b_BL_take 20 = .ok (.iload_n 1, 1) := by decide +kernel
theorem d_BL_take_21 : decode b_BL_take 21 = .ok (.if_icmp .ge 36, 3) := by decide +kernel
theorem d_BL_take_24 : decode b_BL_take 24 = .ok (.aload_n 0, 1) := by decide +kernel
theorem d_BL_take_25 : decode b_BL_take 25 = .ok (.getfield 19, 3) := by decide +kernel
theorem d_BL_take_28 : decode b_BL_take 28 = .ok (.iload 4, 2) := by decide +kernel
theorem d_BL_take_30 : decode b_BL_take 30 = .ok (.iaload, 1) := by decide +kernel
theorem d_BL_take_31 : decode b_BL_take 31 = .ok (.iconst (-1), 1) := by decide +kernel
theorem d_BL_take_32 : decode b_BL_take 32 = .ok (.if_icmp .ne 19, 3) := by decide +kernel
theorem d_BL_take_35 : decode b_BL_take 35 = .ok (.aload_n 0, 1) := by decide +kernel
theorem d_BL_take_36 : decode b_BL_take 36 = .ok (.getfield 19, 3) := by decide +kernel
theorem d_BL_take_39 : decode b_BL_take 39 = .ok (.iload 4, 2) := by decide +kernel
theorem d_BL_take_41 : decode b_BL_take 41 = .ok (.iload_n 3, 1) := by decide +kernel
theorem d_BL_take_42 : decode b_BL_take 42 = .ok (.iastore, 1) := by decide +kernel
theorem d_BL_take_43 : decode b_BL_take 43 = .ok (.aload_n 2, 1) := by decide +kernel
theorem d_BL_take_44 : decode b_BL_take 44 = .ok (.iload_n 3, 1) := by decide +kernel
theorem d_BL_take_45 : decode b_BL_take 45 = .ok (.iload 4, 2) := by decide +kernel
theorem d_BL_take_47 : decode b_BL_take 47 = .ok (.iastore, 1) := by decide +kernel
theorem d_BL_take_48 : decode b_BL_take 48 = .ok (.iinc 3 1, 3) := by decide +kernel
theorem d_BL_take_51 : decode b_BL_take 51 = .ok (.iinc 4 1, 3) := by decide +kernel
theorem d_BL_take_54 : decode b_BL_take 54 = .ok (.goto (-45), 3) := by decide +kernel
theorem d_BL_take_57 : decode b_BL_take 57 = .ok (.aload_n 2, 1) := by decide +kernel
theorem d_BL_take_58 : decode b_BL_take 58 = .ok (.areturn, 1) := by decide +kernel
abbrev b_BL_fill : ByteArray := prog_2_method_8_code
def y_BL_fill : MethodName := ⟨"RunStore$Blocks", "fill", "(LRunStore$Table;LRunStore$Rows;)V"⟩
theorem d_BL_fill_0 : decode b_BL_fill 0 = .ok (.iconst 0, 1) := by decide +kernel
theorem d_BL_fill_1 : decode b_BL_fill 1 = .ok (.istore_n 3, 1) := by decide +kernel
theorem d_BL_fill_2 : decode b_BL_fill 2 = .ok (.iconst 0, 1) := by decide +kernel
theorem d_BL_fill_3 : decode b_BL_fill 3 = .ok (.istore 4, 2) := by decide +kernel
theorem d_BL_fill_5 : decode b_BL_fill 5 = .ok (.iload 4, 2) := by decide +kernel
theorem d_BL_fill_7 : decode b_BL_fill 7 = .ok (.aload_n 2, 1) := by decide +kernel
theorem d_BL_fill_8 : decode b_BL_fill 8 = .ok (.getfield 36, 3) := by decide +kernel
theorem d_BL_fill_11 : decode b_BL_fill 11 = .ok (.if_icmp .ge 85, 3) := by decide +kernel
theorem d_BL_fill_14 : decode b_BL_fill 14 = .ok (.aload_n 2, 1) := by decide +kernel
theorem d_BL_fill_15 : decode b_BL_fill 15 = .ok (.getfield 62, 3) := by decide +kernel
theorem d_BL_fill_18 : decode b_BL_fill 18 = .ok (.iload 4, 2) := by decide +kernel
theorem d_BL_fill_20 : decode b_BL_fill 20 = .ok (.iaload, 1) := by decide +kernel
theorem d_BL_fill_21 : decode b_BL_fill 21 = .ok (.istore 5, 2) := by decide +kernel
theorem d_BL_fill_23 : decode b_BL_fill 23 = .ok (.iload 5, 2) := by decide +kernel
theorem d_BL_fill_25 : decode b_BL_fill 25 = .ok (.invokestatic 65, 3) := by decide +kernel
theorem d_BL_fill_28 : decode b_BL_fill 28 = .ok (.istore 6, 2) := by decide +kernel
theorem d_BL_fill_30 : decode b_BL_fill 30 = .ok (.iconst 0, 1) := by decide +kernel
theorem d_BL_fill_31 : decode b_BL_fill 31 = .ok (.istore 7, 2) := by decide +kernel
theorem d_BL_fill_33 : decode b_BL_fill 33 = .ok (.iload 7, 2) := by decide +kernel
theorem d_BL_fill_35 : decode b_BL_fill 35 = .ok (.iload 6, 2) := by decide +kernel
theorem d_BL_fill_37 : decode b_BL_fill 37 = .ok (.if_icmp .ge 53, 3) := by decide +kernel
theorem d_BL_fill_40 : decode b_BL_fill 40 = .ok (.aload_n 2, 1) := by decide +kernel
theorem d_BL_fill_41 : decode b_BL_fill 41 = .ok (.getfield 68, 3) := by decide +kernel
theorem d_BL_fill_44 : decode b_BL_fill 44 = .ok (.iload 4, 2) := by decide +kernel
theorem d_BL_fill_46 : decode b_BL_fill 46 = .ok (.laload, 1) := by decide +kernel
theorem d_BL_fill_47 : decode b_BL_fill 47 = .ok (.iload 5, 2) := by decide +kernel
theorem d_BL_fill_49 : decode b_BL_fill 49 = .ok (.aload_n 2, 1) := by decide +kernel
theorem d_BL_fill_50 : decode b_BL_fill 50 = .ok (.getfield 72, 3) := by decide +kernel
theorem d_BL_fill_53 : decode b_BL_fill 53 = .ok (.iload 4, 2) := by decide +kernel
theorem d_BL_fill_55 : decode b_BL_fill 55 = .ok (.laload, 1) := by decide +kernel
theorem d_BL_fill_56 : decode b_BL_fill 56 = .ok (.iload 7, 2) := by decide +kernel
theorem d_BL_fill_58 : decode b_BL_fill 58 = .ok (.invokestatic 75, 3) := by decide +kernel
theorem d_BL_fill_61 : decode b_BL_fill 61 = .ok (.istore 8, 2) := by decide +kernel
theorem d_BL_fill_63 : decode b_BL_fill 63 = .ok (.aload_n 0, 1) := by decide +kernel
theorem d_BL_fill_64 : decode b_BL_fill 64 = .ok (.aload_n 1, 1) := by decide +kernel
theorem d_BL_fill_65 : decode b_BL_fill 65 = .ok (.iload_n 3, 1) := by decide +kernel
theorem d_BL_fill_66 : decode b_BL_fill 66 = .ok (.bipush 32, 2) := by decide +kernel
theorem d_BL_fill_68 : decode b_BL_fill 68 = .ok (.idiv, 1) := by decide +kernel
theorem d_BL_fill_69 : decode b_BL_fill 69 = .ok (.invokevirtual 79, 3) := by decide +kernel
theorem d_BL_fill_72 : decode b_BL_fill 72 = .ok (.iload_n 3, 1) := by decide +kernel
theorem d_BL_fill_73 : decode b_BL_fill 73 = .ok (.bipush 32, 2) := by decide +kernel
theorem d_BL_fill_75 : decode b_BL_fill 75 = .ok (.irem, 1) := by decide +kernel
theorem d_BL_fill_76 : decode b_BL_fill 76 = .ok (.iload 8, 2) := by decide +kernel
theorem d_BL_fill_78 : decode b_BL_fill 78 = .ok (.invokevirtual 82, 3) := by decide +kernel
theorem d_BL_fill_81 : decode b_BL_fill 81 = .ok (.iinc 3 1, 3) := by decide +kernel
theorem d_BL_fill_84 : decode b_BL_fill 84 = .ok (.iinc 7 1, 3) := by decide +kernel
theorem d_BL_fill_87 : decode b_BL_fill 87 = .ok (.goto (-54), 3) := by decide +kernel
theorem d_BL_fill_90 : decode b_BL_fill 90 = .ok (.iinc 4 1, 3) := by decide +kernel
theorem d_BL_fill_93 : decode b_BL_fill 93 = .ok (.goto (-88), 3) := by decide +kernel
theorem d_BL_fill_96 : decode b_BL_fill 96 = .ok (.aload_n 1, 1) := by decide +kernel
theorem d_BL_fill_97 : decode b_BL_fill 97 = .ok (.getfield 55, 3) := by decide +kernel
theorem d_BL_fill_100 : decode b_BL_fill 100 = .ok (.arraylength, 1) := by decide +kernel
theorem d_BL_fill_101 : decode b_BL_fill 101 = .ok (.bipush 32, 2) := by decide +kernel
theorem d_BL_fill_103 : decode b_BL_fill 103 = .ok (.imul, 1) := by decide +kernel
theorem d_BL_fill_104 : decode b_BL_fill 104 = .ok (.istore 4, 2) := by decide +kernel
theorem d_BL_fill_106 : decode b_BL_fill 106 = .ok (.iload_n 3, 1) := by decide +kernel
theorem d_BL_fill_107 : decode b_BL_fill 107 = .ok (.istore 5, 2) := by decide +kernel
theorem d_BL_fill_109 : decode b_BL_fill 109 = .ok (.iload 5, 2) := by decide +kernel
theorem d_BL_fill_111 : decode b_BL_fill 111 = .ok (.iload 4, 2) := by decide +kernel
theorem d_BL_fill_113 : decode b_BL_fill 113 = .ok (.if_icmp .ge 28, 3) := by decide +kernel
theorem d_BL_fill_116 : decode b_BL_fill 116 = .ok (.aload_n 0, 1) := by decide +kernel
theorem d_BL_fill_117 : decode b_BL_fill 117 = .ok (.aload_n 1, 1) := by decide +kernel
theorem d_BL_fill_118 : decode b_BL_fill 118 = .ok (.iload 5, 2) := by decide +kernel
theorem d_BL_fill_120 : decode b_BL_fill 120 = .ok (.bipush 32, 2) := by decide +kernel
theorem d_BL_fill_122 : decode b_BL_fill 122 = .ok (.idiv, 1) := by decide +kernel
theorem d_BL_fill_123 : decode b_BL_fill 123 = .ok (.invokevirtual 79, 3) := by decide +kernel
theorem d_BL_fill_126 : decode b_BL_fill 126 = .ok (.iload 5, 2) := by decide +kernel
theorem d_BL_fill_128 : decode b_BL_fill 128 = .ok (.bipush 32, 2) := by decide +kernel
theorem d_BL_fill_130 : decode b_BL_fill 130 = .ok (.irem, 1) := by decide +kernel
theorem d_BL_fill_131 : decode b_BL_fill 131 = .ok (.iconst 0, 1) := by decide +kernel
theorem d_BL_fill_132 : decode b_BL_fill 132 = .ok (.invokevirtual 82, 3) := by decide +kernel
theorem d_BL_fill_135 : decode b_BL_fill 135 = .ok (.iinc 5 1, 3) := by decide +kernel
theorem d_BL_fill_138 : decode b_BL_fill 138 = .ok (.goto (-29), 3) := by decide +kernel
theorem d_BL_fill_141 : decode b_BL_fill 141 = .ok (.return_, 1) := by decide +kernel
abbrev b_BL_writeByte : ByteArray := prog_2_method_4_code
def y_BL_writeByte : MethodName := ⟨"RunStore$Blocks", "writeByte", "(III)V"⟩
theorem d_BL_writeByte_0 : decode b_BL_writeByte 0 = .ok (.aload_n 0, 1) := by decide +kernel
theorem d_BL_writeByte_1 : decode b_BL_writeByte 1 = .ok (.iload_n 1, 1) := by decide +kernel
theorem d_BL_writeByte_2 : decode b_BL_writeByte 2 = .ok (.invokevirtual 22, 3) := by decide +kernel
theorem d_BL_writeByte_5 : decode b_BL_writeByte 5 = .ok (.ifCond .eq 26, 3) := by decide +kernel
theorem d_BL_writeByte_8 : decode b_BL_writeByte 8 = .ok (.iload_n 2, 1) := by decide +kernel
theorem d_BL_writeByte_9 : decode b_BL_writeByte 9 = .ok (.ifCond .lt 22, 3) := by decide +kernel
theorem d_BL_writeByte_12 : decode b_BL_writeByte 12 = .ok (.iload_n 2, 1) := by decide +kernel
theorem d_BL_writeByte_13 : decode b_BL_writeByte 13 = .ok (.bipush 32, 2) := by decide +kernel
theorem d_BL_writeByte_15 : decode b_BL_writeByte 15 = .ok (.if_icmp .ge 16, 3) := by decide +kernel
theorem d_BL_writeByte_18 : decode b_BL_writeByte 18 = .ok (.aload_n 0, 1) := by decide +kernel
theorem d_BL_writeByte_19 : decode b_BL_writeByte 19 = .ok (.getfield 9, 3) := by decide +kernel
theorem d_BL_writeByte_22 : decode b_BL_writeByte 22 = .ok (.iload_n 1, 1) := by decide +kernel
theorem d_BL_writeByte_23 : decode b_BL_writeByte 23 = .ok (.bipush 32, 2) := by decide +kernel
theorem d_BL_writeByte_25 : decode b_BL_writeByte 25 = .ok (.imul, 1) := by decide +kernel
theorem d_BL_writeByte_26 : decode b_BL_writeByte 26 = .ok (.iload_n 2, 1) := by decide +kernel
theorem d_BL_writeByte_27 : decode b_BL_writeByte 27 = .ok (.iadd, 1) := by decide +kernel
theorem d_BL_writeByte_28 : decode b_BL_writeByte 28 = .ok (.iload_n 3, 1) := by decide +kernel
theorem d_BL_writeByte_29 : decode b_BL_writeByte 29 = .ok (.i2b, 1) := by decide +kernel
theorem d_BL_writeByte_30 : decode b_BL_writeByte 30 = .ok (.bastore, 1) := by decide +kernel
theorem d_BL_writeByte_31 : decode b_BL_writeByte 31 = .ok (.return_, 1) := by decide +kernel
abbrev b_BL_has : ByteArray := prog_2_method_2_code
def y_BL_has : MethodName := ⟨"RunStore$Blocks", "has", "(I)Z"⟩
theorem d_BL_has_0 : decode b_BL_has 0 = .ok (.iload_n 1, 1) := by decide +kernel
theorem d_BL_has_1 : decode b_BL_has 1 = .ok (.ifCond .lt 16, 3) := by decide +kernel
theorem d_BL_has_4 : decode b_BL_has 4 = .ok (.iload_n 1, 1) := by decide +kernel
theorem d_BL_has_5 : decode b_BL_has 5 = .ok (.aload_n 0, 1) := by decide +kernel
theorem d_BL_has_6 : decode b_BL_has 6 = .ok (.getfield 15, 3) := by decide +kernel
theorem d_BL_has_9 : decode b_BL_has 9 = .ok (.arraylength, 1) := by decide +kernel
theorem d_BL_has_10 : decode b_BL_has 10 = .ok (.if_icmp .ge 7, 3) := by decide +kernel
theorem d_BL_has_13 : decode b_BL_has 13 = .ok (.iconst 1, 1) := by decide +kernel
theorem d_BL_has_14 : decode b_BL_has 14 = .ok (.goto 4, 3) := by decide +kernel
theorem d_BL_has_17 : decode b_BL_has 17 = .ok (.iconst 0, 1) := by decide +kernel
theorem d_BL_has_18 : decode b_BL_has 18 = .ok (.ireturn, 1) := by decide +kernel
abbrev b_LG_empty : ByteArray := prog_4_method_2_code
def y_LG_empty : MethodName := ⟨"RunStore$Log", "empty", "()V"⟩
theorem d_LG_empty_0 : decode b_LG_empty 0 = .ok (.aload_n 0, 1) := by decide +kernel
theorem d_LG_empty_1 : decode b_LG_empty 1 = .ok (.iconst 0, 1) := by decide +kernel
theorem d_LG_empty_2 : decode b_LG_empty 2 = .ok (.putfield 15, 3) := by decide +kernel
theorem d_LG_empty_5 : decode b_LG_empty 5 = .ok (.return_, 1) := by decide +kernel
abbrev b_BL_firstWrong : ByteArray := prog_2_method_11_code
def y_BL_firstWrong : MethodName := ⟨"RunStore$Blocks", "firstWrong", "(LRunStore$Table;)I"⟩
theorem d_BL_firstWrong_0 : decode b_BL_firstWrong 0 = .ok (.iconst 0, 1) := by decide +kernel
theorem d_BL_firstWrong_1 : decode b_BL_firstWrong 1 = .ok (.istore_n 2, 1) := by decide +kernel
theorem d_BL_firstWrong_2 : decode b_BL_firstWrong 2 = .ok (.iload_n 2, 1) := by decide +kernel
theorem d_BL_firstWrong_3 : decode b_BL_firstWrong 3 = .ok (.aload_n 1, 1) := by decide +kernel
theorem d_BL_firstWrong_4 : decode b_BL_firstWrong 4 = .ok (.getfield 55, 3) := by decide +kernel
theorem d_BL_firstWrong_7 : decode b_BL_firstWrong 7 = .ok (.arraylength, 1) := by decide +kernel
theorem d_BL_firstWrong_8 : decode b_BL_firstWrong 8 = .ok (.if_icmp .ge 29, 3) := by decide +kernel
theorem d_BL_firstWrong_11 : decode b_BL_firstWrong 11 = .ok (.aload_n 0, 1) := by decide +kernel
theorem d_BL_firstWrong_12 : decode b_BL_firstWrong 12 = .ok (.aload_n 1, 1) := by decide +kernel
theorem d_BL_firstWrong_13 : decode b_BL_firstWrong 13 = .ok (.getfield 55, 3) := by decide +kernel
theorem d_BL_firstWrong_16 : decode b_BL_firstWrong 16 = .ok (.iload_n 2, 1) := by decide +kernel
theorem d_BL_firstWrong_17 : decode b_BL_firstWrong 17 = .ok (.iaload, 1) := by decide +kernel
theorem d_BL_firstWrong_18 : decode b_BL_firstWrong 18 = .ok (.invokevirtual 89, 3) := by decide +kernel
theorem d_BL_firstWrong_21 : decode b_BL_firstWrong 21 = .ok (.ifCond .ne 10, 3) := by decide +kernel
theorem d_BL_firstWrong_24 : decode b_BL_firstWrong 24 = .ok (.aload_n 1, 1) := by decide +kernel
theorem d_BL_firstWrong_25 : decode b_BL_firstWrong 25 = .ok (.getfield 55, 3) := by decide +kernel
theorem d_BL_firstWrong_28 : decode b_BL_firstWrong 28 = .ok (.iload_n 2, 1) := by decide +kernel
theorem d_BL_firstWrong_29 : decode b_BL_firstWrong 29 = .ok (.iaload, 1) := by decide +kernel
theorem d_BL_firstWrong_30 : decode b_BL_firstWrong 30 = .ok (.ireturn, 1) := by decide +kernel
theorem d_BL_firstWrong_31 : decode b_BL_firstWrong 31 = .ok (.iinc 2 1, 3) := by decide +kernel
theorem d_BL_firstWrong_34 : decode b_BL_firstWrong 34 = .ok (.goto (-32), 3) := by decide +kernel
theorem d_BL_firstWrong_37 : decode b_BL_firstWrong 37 = .ok (.iconst (-1), 1) := by decide +kernel
theorem d_BL_firstWrong_38 : decode b_BL_firstWrong 38 = .ok (.ireturn, 1) := by decide +kernel
abbrev b_BL_inspect : ByteArray := prog_2_method_10_code
def y_BL_inspect : MethodName := ⟨"RunStore$Blocks", "inspect", "(I)Z"⟩
theorem d_BL_inspect_0 : decode b_BL_inspect 0 = .ok (.aload_n 0, 1) := by decide +kernel
theorem d_BL_inspect_1 : decode b_BL_inspect 1 = .ok (.dup, 1) := by decide +kernel
theorem d_BL_inspect_2 : decode b_BL_inspect 2 = .ok (.getfield 86, 3) := by decide +kernel
theorem d_BL_inspect_5 : decode b_BL_inspect 5 = .ok (.iconst 1, 1) := by decide +kernel
theorem d_BL_inspect_6 : decode b_BL_inspect 6 = .ok (.iadd, 1) := by decide +kernel
theorem d_BL_inspect_7 : decode b_BL_inspect 7 = .ok (.putfield 86, 3) := by decide +kernel
theorem d_BL_inspect_10 : decode b_BL_inspect 10 = .ok (.aload_n 0, 1) := by decide +kernel
theorem d_BL_inspect_11 : decode b_BL_inspect 11 = .ok (.iload_n 1, 1) := by decide +kernel
theorem d_BL_inspect_12 : decode b_BL_inspect 12 = .ok (.invokevirtual 22, 3) := by decide +kernel
theorem d_BL_inspect_15 : decode b_BL_inspect 15 = .ok (.ifCond .eq 21, 3) := by decide +kernel
theorem d_BL_inspect_18 : decode b_BL_inspect 18 = .ok (.aload_n 0, 1) := by decide +kernel
theorem d_BL_inspect_19 : decode b_BL_inspect 19 = .ok (.getfield 15, 3) := by decide +kernel
theorem d_BL_inspect_22 : decode b_BL_inspect 22 = .ok (.iload_n 1, 1) := by decide +kernel
theorem d_BL_inspect_23 : decode b_BL_inspect 23 = .ok (.iaload, 1) := by decide +kernel
theorem d_BL_inspect_24 : decode b_BL_inspect 24 = .ok (.aload_n 0, 1) := by decide +kernel
theorem d_BL_inspect_25 : decode b_BL_inspect 25 = .ok (.iload_n 1, 1) := by decide +kernel
theorem d_BL_inspect_26 : decode b_BL_inspect 26 = .ok (.invokevirtual 58, 3) := by decide +kernel
theorem d_BL_inspect_29 : decode b_BL_inspect 29 = .ok (.if_icmp .ne 7, 3) := by decide +kernel
theorem d_BL_inspect_32 : decode b_BL_inspect 32 = .ok (.iconst 1, 1) := by decide +kernel
theorem d_BL_inspect_33 : decode b_BL_inspect 33 = .ok (.goto 4, 3) := by decide +kernel
theorem d_BL_inspect_36 : decode b_BL_inspect 36 = .ok (.iconst 0, 1) := by decide +kernel
theorem d_BL_inspect_37 : decode b_BL_inspect 37 = .ok (.ireturn, 1) := by decide +kernel
abbrev b_TR_gather : ByteArray := prog_7_method_4_code
def y_TR_gather : MethodName := ⟨"RunStore$TableReader", "gather", "(LRunStore$Table;ZLRunStore$Rows;)V"⟩
theorem d_TR_gather_0 : decode b_TR_gather 0 = .ok (.aload_n 0, 1) := by decide +kernel
theorem d_TR_gather_1 : decode b_TR_gather 1 = .ok (.aload_n 1, 1) := by decide +kernel
theorem d_TR_gather_2 : decode b_TR_gather 2 = .ok (.iload_n 2, 1) := by decide +kernel
theorem d_TR_gather_3 : decode b_TR_gather 3 = .ok (.invokevirtual 30, 3) := by decide +kernel
theorem d_TR_gather_6 : decode b_TR_gather 6 = .ok (.iconst 0, 1) := by decide +kernel
theorem d_TR_gather_7 : decode b_TR_gather 7 = .ok (.istore 4, 2) := by decide +kernel
theorem d_TR_gather_9 : decode b_TR_gather 9 = .ok (.iload 4, 2) := by decide +kernel
theorem d_TR_gather_11 : decode b_TR_gather 11 = .ok (.aload_n 1, 1) := by decide +kernel
theorem d_TR_gather_12 : decode b_TR_gather 12 = .ok (.getfield 34, 3) := by decide +kernel
theorem d_TR_gather_15 : decode b_TR_gather 15 = .ok (.if_icmp .ge 33, 3) := by decide +kernel
theorem d_TR_gather_18 : decode b_TR_gather 18 = .ok (.aload_n 0, 1) := by decide +kernel
theorem d_TR_gather_19 : decode b_TR_gather 19 = .ok (.invokevirtual 39, 3) := by decide +kernel
theorem d_TR_gather_22 : decode b_TR_gather 22 = .ok (.ifCond .ne 4, 3) := by decide +kernel
theorem d_TR_gather_25 : decode b_TR_gather 25 = .ok (.return_, 1) := by decide +kernel
theorem d_TR_gather_26 : decode b_TR_gather 26 = .ok (.aload_n 3, 1) := by decide +kernel
theorem d_TR_gather_27 : decode b_TR_gather 27 = .ok (.aload_n 0, 1) := by decide +kernel
theorem d_TR_gather_28 : decode b_TR_gather 28 = .ok (.getfield 43, 3) := by decide +kernel
theorem d_TR_gather_31 : decode b_TR_gather 31 = .ok (.aload_n 0, 1) := by decide +kernel
theorem d_TR_gather_32 : decode b_TR_gather 32 = .ok (.getfield 47, 3) := by decide +kernel
theorem d_TR_gather_35 : decode b_TR_gather 35 = .ok (.aload_n 0, 1) := by decide +kernel
theorem d_TR_gather_36 : decode b_TR_gather 36 = .ok (.getfield 50, 3) := by decide +kernel
theorem d_TR_gather_39 : decode b_TR_gather 39 = .ok (.invokevirtual 53, 3) := by decide +kernel
theorem d_TR_gather_42 : decode b_TR_gather 42 = .ok (.iinc 4 1, 3) := by decide +kernel
theorem d_TR_gather_45 : decode b_TR_gather 45 = .ok (.goto (-36), 3) := by decide +kernel
theorem d_TR_gather_48 : decode b_TR_gather 48 = .ok (.return_, 1) := by decide +kernel
abbrev b_TR_start : ByteArray := prog_7_method_2_code
def y_TR_start : MethodName := ⟨"RunStore$TableReader", "start", "(LRunStore$Table;Z)V"⟩
theorem d_TR_start_0 : decode b_TR_start 0 = .ok (.aload_n 0, 1) := by decide +kernel
theorem d_TR_start_1 : decode b_TR_start 1 = .ok (.aload_n 1, 1) := by decide +kernel
theorem d_TR_start_2 : decode b_TR_start 2 = .ok (.putfield 19, 3) := by decide +kernel
theorem d_TR_start_5 : decode b_TR_start 5 = .ok (.aload_n 0, 1) := by decide +kernel
theorem d_TR_start_6 : decode b_TR_start 6 = .ok (.iload_n 2, 1) := by decide +kernel
theorem d_TR_start_7 : decode b_TR_start 7 = .ok (.putfield 23, 3) := by decide +kernel
theorem d_TR_start_10 : decode b_TR_start 10 = .ok (.aload_n 0, 1) := by decide +kernel
theorem d_TR_start_11 : decode b_TR_start 11 = .ok (.iconst 0, 1) := by decide +kernel
theorem d_TR_start_12 : decode b_TR_start 12 = .ok (.putfield 27, 3) := by decide +kernel
theorem d_TR_start_15 : decode b_TR_start 15 = .ok (.aload_n 0, 1) := by decide +kernel
theorem d_TR_start_16 : decode b_TR_start 16 = .ok (.iconst (-1), 1) := by decide +kernel
theorem d_TR_start_17 : decode b_TR_start 17 = .ok (.putfield 15, 3) := by decide +kernel
theorem d_TR_start_20 : decode b_TR_start 20 = .ok (.return_, 1) := by decide +kernel
abbrev b_LG_nextByte : ByteArray := prog_4_method_11_code
def y_LG_nextByte : MethodName := ⟨"RunStore$Log", "nextByte", "()I"⟩
theorem d_LG_nextByte_0 : decode b_LG_nextByte 0 = .ok (.aload_n 0, 1) := by decide +kernel
theorem d_LG_nextByte_1 : decode b_LG_nextByte 1 = .ok (.aload_n 0, 1) := by decide +kernel
theorem d_LG_nextByte_2 : decode b_LG_nextByte 2 = .ok (.getfield 36, 3) := by decide +kernel
theorem d_LG_nextByte_5 : decode b_LG_nextByte 5 = .ok (.invokevirtual 67, 3) := by decide +kernel
theorem d_LG_nextByte_8 : decode b_LG_nextByte 8 = .ok (.istore_n 1, 1) := by decide +kernel
theorem d_LG_nextByte_9 : decode b_LG_nextByte 9 = .ok (.iload_n 1, 1) := by decide +kernel
theorem d_LG_nextByte_10 : decode b_LG_nextByte 10 = .ok (.iconst (-1), 1) := by decide +kernel
theorem d_LG_nextByte_11 : decode b_LG_nextByte 11 = .ok (.if_icmp .eq 23, 3) := by decide +kernel
theorem d_LG_nextByte_14 : decode b_LG_nextByte 14 = .ok (.aload_n 0, 1) := by decide +kernel
theorem d_LG_nextByte_15 : decode b_LG_nextByte 15 = .ok (.dup, 1) := by decide +kernel
theorem d_LG_nextByte_16 : decode b_LG_nextByte 16 = .ok (.getfield 57, 3) := by decide +kernel
theorem d_LG_nextByte_19 : decode b_LG_nextByte 19 = .ok (.iload_n 1, 1) := by decide +kernel
theorem d_LG_nextByte_20 : decode b_LG_nextByte 20 = .ok (.iadd, 1) := by decide +kernel
theorem d_LG_nextByte_21 : decode b_LG_nextByte 21 = .ok (.putfield 57, 3) := by decide +kernel
theorem d_LG_nextByte_24 : decode b_LG_nextByte 24 = .ok (.aload_n 0, 1) := by decide +kernel
theorem d_LG_nextByte_25 : decode b_LG_nextByte 25 = .ok (.dup, 1) := by decide +kernel
theorem d_LG_nextByte_26 : decode b_LG_nextByte 26 = .ok (.getfield 36, 3) := by decide +kernel
theorem d_LG_nextByte_29 : decode b_LG_nextByte 29 = .ok (.iconst 1, 1) := by decide +kernel
theorem d_LG_nextByte_30 : decode b_LG_nextByte 30 = .ok (.iadd, 1) := by decide +kernel
theorem d_LG_nextByte_31 : decode b_LG_nextByte 31 = .ok (.putfield 36, 3) := by decide +kernel
theorem d_LG_nextByte_34 : decode b_LG_nextByte 34 = .ok (.iload_n 1, 1) := by decide +kernel
theorem d_LG_nextByte_35 : decode b_LG_nextByte 35 = .ok (.ireturn, 1) := by decide +kernel
abbrev b_LG_read : ByteArray := prog_4_method_3_code
def y_LG_read : MethodName := ⟨"RunStore$Log", "read", "(I)I"⟩
theorem d_LG_read_0 : decode b_LG_read 0 = .ok (.iload_n 1, 1) := by decide +kernel
theorem d_LG_read_1 : decode b_LG_read 1 = .ok (.ifCond .lt 24, 3) := by decide +kernel
theorem d_LG_read_4 : decode b_LG_read 4 = .ok (.iload_n 1, 1) := by decide +kernel
theorem d_LG_read_5 : decode b_LG_read 5 = .ok (.aload_n 0, 1) := by decide +kernel
theorem d_LG_read_6 : decode b_LG_read 6 = .ok (.getfield 15, 3) := by decide +kernel
theorem d_LG_read_9 : decode b_LG_read 9 = .ok (.if_icmp .ge 16, 3) := by decide +kernel
theorem d_LG_read_12 : decode b_LG_read 12 = .ok (.aload_n 0, 1) := by decide +kernel
theorem d_LG_read_13 : decode b_LG_read 13 = .ok (.getfield 9, 3) := by decide +kernel
theorem d_LG_read_16 : decode b_LG_read 16 = .ok (.iload_n 1, 1) := by decide +kernel
theorem d_LG_read_17 : decode b_LG_read 17 = .ok (.baload, 1) := by decide +kernel
theorem d_LG_read_18 : decode b_LG_read 18 = .ok (.sipush 255, 3) := by decide +kernel
theorem d_LG_read_21 : decode b_LG_read 21 = .ok (.iand, 1) := by decide +kernel
theorem d_LG_read_22 : decode b_LG_read 22 = .ok (.goto 4, 3) := by decide +kernel
theorem d_LG_read_25 : decode b_LG_read 25 = .ok (.iconst (-1), 1) := by decide +kernel
theorem d_LG_read_26 : decode b_LG_read 26 = .ok (.ireturn, 1) := by decide +kernel
abbrev b_TR_nextByte : ByteArray := prog_7_method_5_code
def y_TR_nextByte : MethodName := ⟨"RunStore$TableReader", "nextByte", "()I"⟩
theorem d_TR_nextByte_0 : decode b_TR_nextByte 0 = .ok (.aload_n 0, 1) := by decide +kernel
theorem d_TR_nextByte_1 : decode b_TR_nextByte 1 = .ok (.getfield 19, 3) := by decide +kernel
theorem d_TR_nextByte_4 : decode b_TR_nextByte 4 = .ok (.ifnonnull 5, 3) := by decide +kernel
theorem d_TR_nextByte_7 : decode b_TR_nextByte 7 = .ok (.iconst (-1), 1) := by decide +kernel
theorem d_TR_nextByte_8 : decode b_TR_nextByte 8 = .ok (.ireturn, 1) := by decide +kernel
theorem d_TR_nextByte_9 : decode b_TR_nextByte 9 = .ok (.aload_n 0, 1) := by decide +kernel
theorem d_TR_nextByte_10 : decode b_TR_nextByte 10 = .ok (.getfield 19, 3) := by decide +kernel
theorem d_TR_nextByte_13 : decode b_TR_nextByte 13 = .ok (.aload_n 0, 1) := by decide +kernel
theorem d_TR_nextByte_14 : decode b_TR_nextByte 14 = .ok (.getfield 27, 3) := by decide +kernel
theorem d_TR_nextByte_17 : decode b_TR_nextByte 17 = .ok (.bipush 32, 2) := by decide +kernel
theorem d_TR_nextByte_19 : decode b_TR_nextByte 19 = .ok (.idiv, 1) := by decide +kernel
theorem d_TR_nextByte_20 : decode b_TR_nextByte 20 = .ok (.invokevirtual 59, 3) := by decide +kernel
theorem d_TR_nextByte_23 : decode b_TR_nextByte 23 = .ok (.istore_n 1, 1) := by decide +kernel
theorem d_TR_nextByte_24 : decode b_TR_nextByte 24 = .ok (.iload_n 1, 1) := by decide +kernel
theorem d_TR_nextByte_25 : decode b_TR_nextByte 25 = .ok (.iconst (-1), 1) := by decide +kernel
theorem d_TR_nextByte_26 : decode b_TR_nextByte 26 = .ok (.if_icmp .ne 26, 3) := by decide +kernel
theorem d_TR_nextByte_29 : decode b_TR_nextByte 29 = .ok (.aload_n 0, 1) := by decide +kernel
theorem d_TR_nextByte_30 : decode b_TR_nextByte 30 = .ok (.aload_n 0, 1) := by decide +kernel
theorem d_TR_nextByte_31 : decode b_TR_nextByte 31 = .ok (.getfield 19, 3) := by decide +kernel
theorem d_TR_nextByte_34 : decode b_TR_nextByte 34 = .ok (.aload_n 0, 1) := by decide +kernel
theorem d_TR_nextByte_35 : decode b_TR_nextByte 35 = .ok (.getfield 19, 3) := by decide +kernel
theorem d_TR_nextByte_38 : decode b_TR_nextByte 38 = .ok (.getfield 63, 3) := by decide +kernel
theorem d_TR_nextByte_41 : decode b_TR_nextByte 41 = .ok (.arraylength, 1) := by decide +kernel
theorem d_TR_nextByte_42 : decode b_TR_nextByte 42 = .ok (.iconst 1, 1) := by decide +kernel
theorem d_TR_nextByte_43 : decode b_TR_nextByte 43 = .ok (.isub, 1) := by decide +kernel
theorem d_TR_nextByte_44 : decode b_TR_nextByte 44 = .ok (.invokevirtual 59, 3) := by decide +kernel
theorem d_TR_nextByte_47 : decode b_TR_nextByte 47 = .ok (.putfield 15, 3) := by decide +kernel
theorem d_TR_nextByte_50 : decode b_TR_nextByte 50 = .ok (.iconst (-1), 1) := by decide +kernel
theorem d_TR_nextByte_51 : decode b_TR_nextByte 51 = .ok (.ireturn, 1) := by decide +kernel
theorem d_TR_nextByte_52 : decode b_TR_nextByte 52 = .ok (.aload_n 0, 1) := by decide +kernel
theorem d_TR_nextByte_53 : decode b_TR_nextByte 53 = .ok (.getfield 27, 3) := by decide +kernel
theorem d_TR_nextByte_56 : decode b_TR_nextByte 56 = .ok (.bipush 32, 2) := by decide +kernel
theorem d_TR_nextByte_58 : decode b_TR_nextByte 58 = .ok (.irem, 1) := by decide +kernel
theorem d_TR_nextByte_59 : decode b_TR_nextByte 59 = .ok (.istore_n 2, 1) := by decide +kernel
theorem d_TR_nextByte_60 : decode b_TR_nextByte 60 = .ok (.iload_n 2, 1) := by decide +kernel
theorem d_TR_nextByte_61 : decode b_TR_nextByte 61 = .ok (.ifCond .ne 28, 3) := by decide +kernel
theorem d_TR_nextByte_64 : decode b_TR_nextByte 64 = .ok (.aload_n 0, 1) := by decide +kernel
theorem d_TR_nextByte_65 : decode b_TR_nextByte 65 = .ok (.getfield 23, 3) := by decide +kernel
theorem d_TR_nextByte_68 : decode b_TR_nextByte 68 = .ok (.ifCond .eq 21, 3) := by decide +kernel
theorem d_TR_nextByte_71 : decode b_TR_nextByte 71 = .ok (.aload_n 0, 1) := by decide +kernel
theorem d_TR_nextByte_72 : decode b_TR_nextByte 72 = .ok (.getfield 9, 3) := by decide +kernel
theorem d_TR_nextByte_75 : decode b_TR_nextByte 75 = .ok (.iload_n 1, 1) := by decide +kernel
theorem d_TR_nextByte_76 : decode b_TR_nextByte 76 = .ok (.invokevirtual 67, 3) := by decide +kernel
theorem d_TR_nextByte_79 : decode b_TR_nextByte 79 = .ok (.ifCond .ne 10, 3) := by decide +kernel
theorem d_TR_nextByte_82 : decode b_TR_nextByte 82 = .ok (.aload_n 0, 1) := by decide +kernel
theorem d_TR_nextByte_83 : decode b_TR_nextByte 83 = .ok (.iload_n 1, 1) := by decide +kernel
theorem d_TR_nextByte_84 : decode b_TR_nextByte 84 = .ok (.putfield 15, 3) := by decide +kernel
theorem d_TR_nextByte_87 : decode b_TR_nextByte 87 = .ok (.iconst (-1), 1) := by decide +kernel
theorem d_TR_nextByte_88 : decode b_TR_nextByte 88 = .ok (.ireturn, 1) := by decide +kernel
theorem d_TR_nextByte_89 : decode b_TR_nextByte 89 = .ok (.aload_n 0, 1) := by decide +kernel
theorem d_TR_nextByte_90 : decode b_TR_nextByte 90 = .ok (.dup, 1) := by decide +kernel
theorem d_TR_nextByte_91 : decode b_TR_nextByte 91 = .ok (.getfield 27, 3) := by decide +kernel
theorem d_TR_nextByte_94 : decode b_TR_nextByte 94 = .ok (.iconst 1, 1) := by decide +kernel
theorem d_TR_nextByte_95 : decode b_TR_nextByte 95 = .ok (.iadd, 1) := by decide +kernel
theorem d_TR_nextByte_96 : decode b_TR_nextByte 96 = .ok (.putfield 27, 3) := by decide +kernel
theorem d_TR_nextByte_99 : decode b_TR_nextByte 99 = .ok (.aload_n 0, 1) := by decide +kernel
theorem d_TR_nextByte_100 : decode b_TR_nextByte 100 = .ok (.getfield 9, 3) := by decide +kernel
theorem d_TR_nextByte_103 : decode b_TR_nextByte 103 = .ok (.iload_n 1, 1) := by decide +kernel
theorem d_TR_nextByte_104 : decode b_TR_nextByte 104 = .ok (.iload_n 2, 1) := by decide +kernel
theorem d_TR_nextByte_105 : decode b_TR_nextByte 105 = .ok (.invokevirtual 73, 3) := by decide +kernel
theorem d_TR_nextByte_108 : decode b_TR_nextByte 108 = .ok (.ireturn, 1) := by decide +kernel
abbrev b_BL_read : ByteArray := prog_2_method_3_code
def y_BL_read : MethodName := ⟨"RunStore$Blocks", "read", "(II)I"⟩
theorem d_BL_read_0 : decode b_BL_read 0 = .ok (.aload_n 0, 1) := by decide +kernel
theorem d_BL_read_1 : decode b_BL_read 1 = .ok (.iload_n 1, 1) := by decide +kernel
theorem d_BL_read_2 : decode b_BL_read 2 = .ok (.invokevirtual 22, 3) := by decide +kernel
theorem d_BL_read_5 : decode b_BL_read 5 = .ok (.ifCond .eq 31, 3) := by decide +kernel
theorem d_BL_read_8 : decode b_BL_read 8 = .ok (.iload_n 2, 1) := by decide +kernel
theorem d_BL_read_9 : decode b_BL_read 9 = .ok (.ifCond .lt 27, 3) := by decide +kernel
theorem d_BL_read_12 : decode b_BL_read 12 = .ok (.iload_n 2, 1) := by decide +kernel
theorem d_BL_read_13 : decode b_BL_read 13 = .ok (.bipush 32, 2) := by decide +kernel
theorem d_BL_read_15 : decode b_BL_read 15 = .ok (.if_icmp .ge 21, 3) := by decide +kernel
theorem d_BL_read_18 : decode b_BL_read 18 = .ok (.aload_n 0, 1) := by decide +kernel
theorem d_BL_read_19 : decode b_BL_read 19 = .ok (.getfield 9, 3) := by decide +kernel
theorem d_BL_read_22 : decode b_BL_read 22 = .ok (.iload_n 1, 1) := by decide +kernel
theorem d_BL_read_23 : decode b_BL_read 23 = .ok (.bipush 32, 2) := by decide +kernel
theorem d_BL_read_25 : decode b_BL_read 25 = .ok (.imul, 1) := by decide +kernel
theorem d_BL_read_26 : decode b_BL_read 26 = .ok (.iload_n 2, 1) := by decide +kernel
theorem d_BL_read_27 : decode b_BL_read 27 = .ok (.iadd, 1) := by decide +kernel
theorem d_BL_read_28 : decode b_BL_read 28 = .ok (.baload, 1) := by decide +kernel
theorem d_BL_read_29 : decode b_BL_read 29 = .ok (.sipush 255, 3) := by decide +kernel
theorem d_BL_read_32 : decode b_BL_read 32 = .ok (.iand, 1) := by decide +kernel
theorem d_BL_read_33 : decode b_BL_read 33 = .ok (.goto 4, 3) := by decide +kernel
theorem d_BL_read_36 : decode b_BL_read 36 = .ok (.iconst 0, 1) := by decide +kernel
theorem d_BL_read_37 : decode b_BL_read 37 = .ok (.ireturn, 1) := by decide +kernel
abbrev b_LG_refuseLength : ByteArray := prog_4_method_12_code
def y_LG_refuseLength : MethodName := ⟨"RunStore$Log", "refuseLength", "()V"⟩
theorem d_LG_refuseLength_0 : decode b_LG_refuseLength 0 = .ok (.return_, 1) := by decide +kernel
abbrev b_TR_refuseLength : ByteArray := prog_7_method_6_code
def y_TR_refuseLength : MethodName := ⟨"RunStore$TableReader", "refuseLength", "()V"⟩
theorem d_TR_refuseLength_0 : decode b_TR_refuseLength 0 = .ok (.aload_n 0, 1) := by decide +kernel
theorem d_TR_refuseLength_1 : decode b_TR_refuseLength 1 = .ok (.getfield 19, 3) := by decide +kernel
theorem d_TR_refuseLength_4 : decode b_TR_refuseLength 4 = .ok (.ifnull 23, 3) := by decide +kernel
theorem d_TR_refuseLength_7 : decode b_TR_refuseLength 7 = .ok (.aload_n 0, 1) := by decide +kernel
theorem d_TR_refuseLength_8 : decode b_TR_refuseLength 8 = .ok (.aload_n 0, 1) := by decide +kernel
theorem d_TR_refuseLength_9 : decode b_TR_refuseLength 9 = .ok (.getfield 19, 3) := by decide +kernel
theorem d_TR_refuseLength_12 : decode b_TR_refuseLength 12 = .ok (.aload_n 0, 1) := by decide +kernel
theorem d_TR_refuseLength_13 : decode b_TR_refuseLength 13 = .ok (.getfield 27, 3) := by decide +kernel
theorem d_TR_refuseLength_16 : decode b_TR_refuseLength 16 = .ok (.iconst 1, 1) := by decide +kernel
theorem d_TR_refuseLength_17 : decode b_TR_refuseLength 17 = .ok (.isub, 1) := by decide +kernel
theorem d_TR_refuseLength_18 : decode b_TR_refuseLength 18 = .ok (.bipush 32, 2) := by decide +kernel
theorem d_TR_refuseLength_20 : decode b_TR_refuseLength 20 = .ok (.idiv, 1) := by decide +kernel
theorem d_TR_refuseLength_21 : decode b_TR_refuseLength 21 = .ok (.invokevirtual 59, 3) := by decide +kernel
theorem d_TR_refuseLength_24 : decode b_TR_refuseLength 24 = .ok (.putfield 15, 3) := by decide +kernel
theorem d_TR_refuseLength_27 : decode b_TR_refuseLength 27 = .ok (.return_, 1) := by decide +kernel
abbrev b_BL_free : ByteArray := prog_2_method_9_code
def y_BL_free : MethodName := ⟨"RunStore$Blocks", "free", "(LRunStore$Table;)V"⟩
theorem d_BL_free_0 : decode b_BL_free 0 = .ok (.iconst 0, 1) := by decide +kernel
theorem d_BL_free_1 : decode b_BL_free 1 = .ok (.istore_n 2, 1) := by decide +kernel
theorem d_BL_free_2 : decode b_BL_free 2 = .ok (.iload_n 2, 1) := by decide +kernel
theorem d_BL_free_3 : decode b_BL_free 3 = .ok (.aload_n 1, 1) := by decide +kernel
theorem d_BL_free_4 : decode b_BL_free 4 = .ok (.getfield 55, 3) := by decide +kernel
theorem d_BL_free_7 : decode b_BL_free 7 = .ok (.arraylength, 1) := by decide +kernel
theorem d_BL_free_8 : decode b_BL_free 8 = .ok (.if_icmp .ge 31, 3) := by decide +kernel
theorem d_BL_free_11 : decode b_BL_free 11 = .ok (.aload_n 1, 1) := by decide +kernel
theorem d_BL_free_12 : decode b_BL_free 12 = .ok (.getfield 55, 3) := by decide +kernel
theorem d_BL_free_15 : decode b_BL_free 15 = .ok (.iload_n 2, 1) := by decide +kernel
theorem d_BL_free_16 : decode b_BL_free 16 = .ok (.iaload, 1) := by decide +kernel
theorem d_BL_free_17 : decode b_BL_free 17 = .ok (.istore_n 3, 1) := by decide +kernel
theorem d_BL_free_18 : decode b_BL_free 18 = .ok (.aload_n 0, 1) := by decide +kernel
theorem d_BL_free_19 : decode b_BL_free 19 = .ok (.iload_n 3, 1) := by decide +kernel
theorem d_BL_free_20 : decode b_BL_free 20 = .ok (.invokevirtual 22, 3) := by decide +kernel
theorem d_BL_free_23 : decode b_BL_free 23 = .ok (.ifCond .eq 10, 3) := by decide +kernel
theorem d_BL_free_26 : decode b_BL_free 26 = .ok (.aload_n 0, 1) := by decide +kernel
theorem d_BL_free_27 : decode b_BL_free 27 = .ok (.getfield 19, 3) := by decide +kernel
theorem d_BL_free_30 : decode b_BL_free 30 = .ok (.iload_n 3, 1) := by decide +kernel
theorem d_BL_free_31 : decode b_BL_free 31 = .ok (.iconst (-1), 1) := by decide +kernel
theorem d_BL_free_32 : decode b_BL_free 32 = .ok (.iastore, 1) := by decide +kernel
theorem d_BL_free_33 : decode b_BL_free 33 = .ok (.iinc 2 1, 3) := by decide +kernel
theorem d_BL_free_36 : decode b_BL_free 36 = .ok (.goto (-34), 3) := by decide +kernel
theorem d_BL_free_39 : decode b_BL_free 39 = .ok (.return_, 1) := by decide +kernel
abbrev b_TR_reaches : ByteArray := prog_7_method_3_code
def y_TR_reaches : MethodName := ⟨"RunStore$TableReader", "reaches", "(LRunStore$Table;J)Z"⟩
theorem d_TR_reaches_0 : decode b_TR_reaches 0 = .ok (.aload_n 0, 1) := by decide +kernel
theorem d_TR_reaches_1 : decode b_TR_reaches 1 = .ok (.aload_n 1, 1) := by decide +kernel
theorem d_TR_reaches_2 : decode b_TR_reaches 2 = .ok (.iconst 1, 1) := by decide +kernel
theorem d_TR_reaches_3 : decode b_TR_reaches 3 = .ok (.invokevirtual 30, 3) := by decide +kernel
theorem d_TR_reaches_6 : decode b_TR_reaches 6 = .ok (.iconst 0, 1) := by decide +kernel
theorem d_TR_reaches_7 : decode b_TR_reaches 7 = .ok (.istore 4, 2) := by decide +kernel
theorem d_TR_reaches_9 : decode b_TR_reaches 9 = .ok (.iload 4, 2) := by decide +kernel
theorem d_TR_reaches_11 : decode b_TR_reaches 11 = .ok (.aload_n 1, 1) := by decide +kernel
theorem d_TR_reaches_12 : decode b_TR_reaches 12 = .ok (.getfield 34, 3) := by decide +kernel
theorem d_TR_reaches_15 : decode b_TR_reaches 15 = .ok (.if_icmp .ge 42, 3) := by decide +kernel
theorem d_TR_reaches_18 : decode b_TR_reaches 18 = .ok (.aload_n 0, 1) := by decide +kernel
theorem d_TR_reaches_19 : decode b_TR_reaches 19 = .ok (.invokevirtual 39, 3) := by decide +kernel
theorem d_TR_reaches_22 : decode b_TR_reaches 22 = .ok (.ifCond .ne 5, 3) := by decide +kernel
theorem d_TR_reaches_25 : decode b_TR_reaches 25 = .ok (.iconst 0, 1) := by decide +kernel
theorem d_TR_reaches_26 : decode b_TR_reaches 26 = .ok (.ireturn, 1) := by decide +kernel
theorem d_TR_reaches_27 : decode b_TR_reaches 27 = .ok (.aload_n 0, 1) := by decide +kernel
theorem d_TR_reaches_28 : decode b_TR_reaches 28 = .ok (.getfield 43, 3) := by decide +kernel
theorem d_TR_reaches_31 : decode b_TR_reaches 31 = .ok (.lload_n 2, 1) := by decide +kernel
theorem d_TR_reaches_32 : decode b_TR_reaches 32 = .ok (.lcmp, 1) := by decide +kernel
theorem d_TR_reaches_33 : decode b_TR_reaches 33 = .ok (.ifCond .lt 18, 3) := by decide +kernel
theorem d_TR_reaches_36 : decode b_TR_reaches 36 = .ok (.aload_n 0, 1) := by decide +kernel
theorem d_TR_reaches_37 : decode b_TR_reaches 37 = .ok (.getfield 43, 3) := by decide +kernel
theorem d_TR_reaches_40 : decode b_TR_reaches 40 = .ok (.lload_n 2, 1) := by decide +kernel
theorem d_TR_reaches_41 : decode b_TR_reaches 41 = .ok (.lcmp, 1) := by decide +kernel
theorem d_TR_reaches_42 : decode b_TR_reaches 42 = .ok (.ifCond .ne 7, 3) := by decide +kernel
theorem d_TR_reaches_45 : decode b_TR_reaches 45 = .ok (.iconst 1, 1) := by decide +kernel
theorem d_TR_reaches_46 : decode b_TR_reaches 46 = .ok (.goto 4, 3) := by decide +kernel
theorem d_TR_reaches_49 : decode b_TR_reaches 49 = .ok (.iconst 0, 1) := by decide +kernel
theorem d_TR_reaches_50 : decode b_TR_reaches 50 = .ok (.ireturn, 1) := by decide +kernel
theorem d_TR_reaches_51 : decode b_TR_reaches 51 = .ok (.iinc 4 1, 3) := by decide +kernel
theorem d_TR_reaches_54 : decode b_TR_reaches 54 = .ok (.goto (-45), 3) := by decide +kernel
theorem d_TR_reaches_57 : decode b_TR_reaches 57 = .ok (.iconst 0, 1) := by decide +kernel
theorem d_TR_reaches_58 : decode b_TR_reaches 58 = .ok (.ireturn, 1) := by decide +kernel
abbrev b_LG_cut : ByteArray := prog_4_method_7_code
def y_LG_cut : MethodName := ⟨"RunStore$Log", "cut", "(I)V"⟩
theorem d_LG_cut_0 : decode b_LG_cut 0 = .ok (.iload_n 1, 1) := by decide +kernel
theorem d_LG_cut_1 : decode b_LG_cut 1 = .ok (.ifCond .lt 16, 3) := by decide +kernel
theorem d_LG_cut_4 : decode b_LG_cut 4 = .ok (.iload_n 1, 1) := by decide +kernel
theorem d_LG_cut_5 : decode b_LG_cut 5 = .ok (.aload_n 0, 1) := by decide +kernel
theorem d_LG_cut_6 : decode b_LG_cut 6 = .ok (.getfield 15, 3) := by decide +kernel
theorem d_LG_cut_9 : decode b_LG_cut 9 = .ok (.if_icmp .ge 8, 3) := by decide +kernel
theorem d_LG_cut_12 : decode b_LG_cut 12 = .ok (.aload_n 0, 1) := by decide +kernel
theorem d_LG_cut_13 : decode b_LG_cut 13 = .ok (.iload_n 1, 1) := by decide +kernel
theorem d_LG_cut_14 : decode b_LG_cut 14 = .ok (.putfield 15, 3) := by decide +kernel
theorem d_LG_cut_17 : decode b_LG_cut 17 = .ok (.return_, 1) := by decide +kernel
abbrev b_LG_alter : ByteArray := prog_4_method_8_code
def y_LG_alter : MethodName := ⟨"RunStore$Log", "alter", "(II)V"⟩
theorem d_LG_alter_0 : decode b_LG_alter 0 = .ok (.iload_n 1, 1) := by decide +kernel
theorem d_LG_alter_1 : decode b_LG_alter 1 = .ok (.ifCond .lt 26, 3) := by decide +kernel
theorem d_LG_alter_4 : decode b_LG_alter 4 = .ok (.iload_n 1, 1) := by decide +kernel
theorem d_LG_alter_5 : decode b_LG_alter 5 = .ok (.aload_n 0, 1) := by decide +kernel
theorem d_LG_alter_6 : decode b_LG_alter 6 = .ok (.getfield 15, 3) := by decide +kernel
theorem d_LG_alter_9 : decode b_LG_alter 9 = .ok (.if_icmp .ge 18, 3) := by decide +kernel
theorem d_LG_alter_12 : decode b_LG_alter 12 = .ok (.aload_n 0, 1) := by decide +kernel
theorem d_LG_alter_13 : decode b_LG_alter 13 = .ok (.getfield 9, 3) := by decide +kernel
theorem d_LG_alter_16 : decode b_LG_alter 16 = .ok (.iload_n 1, 1) := by decide +kernel
theorem d_LG_alter_17 : decode b_LG_alter 17 = .ok (.aload_n 0, 1) := by decide +kernel
theorem d_LG_alter_18 : decode b_LG_alter 18 = .ok (.getfield 9, 3) := by decide +kernel
theorem d_LG_alter_21 : decode b_LG_alter 21 = .ok (.iload_n 1, 1) := by decide +kernel
theorem d_LG_alter_22 : decode b_LG_alter 22 = .ok (.baload, 1) := by decide +kernel
theorem d_LG_alter_23 : decode b_LG_alter 23 = .ok (.iload_n 2, 1) := by decide +kernel
theorem d_LG_alter_24 : decode b_LG_alter 24 = .ok (.ixor, 1) := by decide +kernel
theorem d_LG_alter_25 : decode b_LG_alter 25 = .ok (.i2b, 1) := by decide +kernel
theorem d_LG_alter_26 : decode b_LG_alter 26 = .ok (.bastore, 1) := by decide +kernel
theorem d_LG_alter_27 : decode b_LG_alter 27 = .ok (.return_, 1) := by decide +kernel
abbrev b_LG_doAgain : ByteArray := prog_4_method_9_code
def y_LG_doAgain : MethodName := ⟨"RunStore$Log", "doAgain", "(LRunStore$Rows;)V"⟩
theorem d_LG_doAgain_0 : decode b_LG_doAgain 0 = .ok (.aload_n 1, 1) := by decide +kernel
theorem d_LG_doAgain_1 : decode b_LG_doAgain 1 = .ok (.invokevirtual 31, 3) := by decide +kernel
theorem d_LG_doAgain_4 : decode b_LG_doAgain 4 = .ok (.aload_n 0, 1) := by decide +kernel
theorem d_LG_doAgain_5 : decode b_LG_doAgain 5 = .ok (.iconst 0, 1) := by decide +kernel
theorem d_LG_doAgain_6 : decode b_LG_doAgain 6 = .ok (.putfield 36, 3) := by decide +kernel
theorem d_LG_doAgain_9 : decode b_LG_doAgain 9 = .ok (.iconst 0, 1) := by decide +kernel
theorem d_LG_doAgain_10 : decode b_LG_doAgain 10 = .ok (.istore_n 2, 1) := by decide +kernel
theorem d_LG_doAgain_11 : decode b_LG_doAgain 11 = .ok (.iconst 0, 1) := by decide +kernel
theorem d_LG_doAgain_12 : decode b_LG_doAgain 12 = .ok (.istore_n 3, 1) := by decide +kernel
theorem d_LG_doAgain_13 : decode b_LG_doAgain 13 = .ok (.iload_n 3, 1) := by decide +kernel
theorem d_LG_doAgain_14 : decode b_LG_doAgain 14 = .ok (.sipush 1024, 3) := by decide +kernel
theorem d_LG_doAgain_17 : decode b_LG_doAgain 17 = .ok (.if_icmp .ge 43, 3) := by decide +kernel
theorem d_LG_doAgain_20 : decode b_LG_doAgain 20 = .ok (.aload_n 0, 1) := by decide +kernel
theorem d_LG_doAgain_21 : decode b_LG_doAgain 21 = .ok (.invokevirtual 39, 3) := by decide +kernel
theorem d_LG_doAgain_24 : decode b_LG_doAgain 24 = .ok (.ifCond .eq 36, 3) := by decide +kernel
theorem d_LG_doAgain_27 : decode b_LG_doAgain 27 = .ok (.aload_n 1, 1) := by decide +kernel
theorem d_LG_doAgain_28 : decode b_LG_doAgain 28 = .ok (.aload_n 0, 1) := by decide +kernel
theorem d_LG_doAgain_29 : decode b_LG_doAgain 29 = .ok (.getfield 43, 3) := by decide +kernel
theorem d_LG_doAgain_32 : decode b_LG_doAgain 32 = .ok (.aload_n 0, 1) := by decide +kernel
theorem d_LG_doAgain_33 : decode b_LG_doAgain 33 = .ok (.getfield 47, 3) := by decide +kernel
theorem d_LG_doAgain_36 : decode b_LG_doAgain 36 = .ok (.aload_n 0, 1) := by decide +kernel
theorem d_LG_doAgain_37 : decode b_LG_doAgain 37 = .ok (.getfield 50, 3) := by decide +kernel
theorem d_LG_doAgain_40 : decode b_LG_doAgain 40 = .ok (.invokevirtual 53, 3) := by decide +kernel
theorem d_LG_doAgain_43 : decode b_LG_doAgain 43 = .ok (.ifCond .ne 6, 3) := by decide +kernel
theorem d_LG_doAgain_46 : decode b_LG_doAgain 46 = .ok (.goto 14, 3) := by decide +kernel
theorem d_LG_doAgain_49 : decode b_LG_doAgain 49 = .ok (.aload_n 0, 1) := by decide +kernel
theorem d_LG_doAgain_50 : decode b_LG_doAgain 50 = .ok (.getfield 36, 3) := by decide +kernel
theorem d_LG_doAgain_53 : decode b_LG_doAgain 53 = .ok (.istore_n 2, 1) := by decide +kernel
theorem d_LG_doAgain_54 : decode b_LG_doAgain 54 = .ok (.iinc 3 1, 3) := by decide +kernel
theorem d_LG_doAgain_57 : decode b_LG_doAgain 57 = .ok (.goto (-44), 3) := by decide +kernel
theorem d_LG_doAgain_60 : decode b_LG_doAgain 60 = .ok (.aload_n 0, 1) := by decide +kernel
theorem d_LG_doAgain_61 : decode b_LG_doAgain 61 = .ok (.iload_n 2, 1) := by decide +kernel
theorem d_LG_doAgain_62 : decode b_LG_doAgain 62 = .ok (.putfield 15, 3) := by decide +kernel
theorem d_LG_doAgain_65 : decode b_LG_doAgain 65 = .ok (.return_, 1) := by decide +kernel
abbrev b_LG_readSummed : ByteArray := prog_4_method_10_code
def y_LG_readSummed : MethodName := ⟨"RunStore$Log", "readSummed", "()Z"⟩
theorem d_LG_readSummed_0 : decode b_LG_readSummed 0 = .ok (.aload_n 0, 1) := by decide +kernel
theorem d_LG_readSummed_1 : decode b_LG_readSummed 1 = .ok (.iconst 0, 1) := by decide +kernel
theorem d_LG_readSummed_2 : decode b_LG_readSummed 2 = .ok (.putfield 57, 3) := by decide +kernel
theorem d_LG_readSummed_5 : decode b_LG_readSummed 5 = .ok (.aload_n 0, 1) := by decide +kernel
theorem d_LG_readSummed_6 : decode b_LG_readSummed 6 = .ok (.invokevirtual 60, 3) := by decide +kernel
theorem d_LG_readSummed_9 : decode b_LG_readSummed 9 = .ok (.ifCond .ne 5, 3) := by decide +kernel
theorem d_LG_readSummed_12 : decode b_LG_readSummed 12 = .ok (.iconst 0, 1) := by decide +kernel
theorem d_LG_readSummed_13 : decode b_LG_readSummed 13 = .ok (.ireturn, 1) := by decide +kernel
theorem d_LG_readSummed_14 : decode b_LG_readSummed 14 = .ok (.aload_n 0, 1) := by decide +kernel
theorem d_LG_readSummed_15 : decode b_LG_readSummed 15 = .ok (.getfield 57, 3) := by decide +kernel
theorem d_LG_readSummed_18 : decode b_LG_readSummed 18 = .ok (.sipush 255, 3) := by decide +kernel
theorem d_LG_readSummed_21 : decode b_LG_readSummed 21 = .ok (.iand, 1) := by decide +kernel
theorem d_LG_readSummed_22 : decode b_LG_readSummed 22 = .ok (.istore_n 1, 1) := by decide +kernel
theorem d_LG_readSummed_23 : decode b_LG_readSummed 23 = .ok (.aload_n 0, 1) := by decide +kernel
theorem d_LG_readSummed_24 : decode b_LG_readSummed 24 = .ok (.invokevirtual 63, 3) := by decide +kernel
theorem d_LG_readSummed_27 : decode b_LG_readSummed 27 = .ok (.iload_n 1, 1) := by decide +kernel
theorem d_LG_readSummed_28 : decode b_LG_readSummed 28 = .ok (.if_icmp .ne 7, 3) := by decide +kernel
theorem d_LG_readSummed_31 : decode b_LG_readSummed 31 = .ok (.iconst 1, 1) := by decide +kernel
theorem d_LG_readSummed_32 : decode b_LG_readSummed 32 = .ok (.goto 4, 3) := by decide +kernel
theorem d_LG_readSummed_35 : decode b_LG_readSummed 35 = .ok (.iconst 0, 1) := by decide +kernel
theorem d_LG_readSummed_36 : decode b_LG_readSummed 36 = .ok (.ireturn, 1) := by decide +kernel
