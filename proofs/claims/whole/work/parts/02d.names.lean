abbrev b_MD_init : ByteArray := prog_9_method_1_code
def y_MD_init : MethodName := ⟨"RunStoreModel", "<init>", "(I)V"⟩
theorem d_MD_init_0 : decode b_MD_init 0 = .ok (.aload_n 0, 1) := by decide +kernel
theorem d_MD_init_1 : decode b_MD_init 1 = .ok (.invokespecial 1, 3) := by decide +kernel
theorem d_MD_init_4 : decode b_MD_init 4 = .ok (.aload_n 0, 1) := by decide +kernel
theorem d_MD_init_5 : decode b_MD_init 5 = .ok (.bipush 25, 2) := by decide +kernel
theorem d_MD_init_7 : decode b_MD_init 7 = .ok (.newarray .long, 2) := by decide +kernel
theorem d_MD_init_9 : decode b_MD_init 9 = .ok (.putfield 7, 3) := by decide +kernel
theorem d_MD_init_12 : decode b_MD_init 12 = .ok (.aload_n 0, 1) := by decide +kernel
theorem d_MD_init_13 : decode b_MD_init 13 = .ok (.bipush 25, 2) := by decide +kernel
theorem d_MD_init_15 : decode b_MD_init 15 = .ok (.newarray .long, 2) := by decide +kernel
theorem d_MD_init_17 : decode b_MD_init 17 = .ok (.putfield 13, 3) := by decide +kernel
theorem d_MD_init_20 : decode b_MD_init 20 = .ok (.aload_n 0, 1) := by decide +kernel
theorem d_MD_init_21 : decode b_MD_init 21 = .ok (.bipush 25, 2) := by decide +kernel
theorem d_MD_init_23 : decode b_MD_init 23 = .ok (.newarray .int, 2) := by decide +kernel
theorem d_MD_init_25 : decode b_MD_init 25 = .ok (.putfield 16, 3) := by decide +kernel
theorem d_MD_init_28 : decode b_MD_init 28 = .ok (.aload_n 0, 1) := by decide +kernel
theorem d_MD_init_29 : decode b_MD_init 29 = .ok (.sipush 1024, 3) := by decide +kernel
theorem d_MD_init_32 : decode b_MD_init 32 = .ok (.newarray .int, 2) := by decide +kernel
theorem d_MD_init_34 : decode b_MD_init 34 = .ok (.putfield 20, 3) := by decide +kernel
theorem d_MD_init_37 : decode b_MD_init 37 = .ok (.aload_n 0, 1) := by decide +kernel
theorem d_MD_init_38 : decode b_MD_init 38 = .ok (.sipush 4096, 3) := by decide +kernel
theorem d_MD_init_41 : decode b_MD_init 41 = .ok (.newarray .int, 2) := by decide +kernel
theorem d_MD_init_43 : decode b_MD_init 43 = .ok (.putfield 23, 3) := by decide +kernel
theorem d_MD_init_46 : decode b_MD_init 46 = .ok (.aload_n 0, 1) := by decide +kernel
theorem d_MD_init_47 : decode b_MD_init 47 = .ok (.sipush 128, 3) := by decide +kernel
theorem d_MD_init_50 : decode b_MD_init 50 = .ok (.newarray .int, 2) := by decide +kernel
theorem d_MD_init_52 : decode b_MD_init 52 = .ok (.putfield 26, 3) := by decide +kernel
theorem d_MD_init_55 : decode b_MD_init 55 = .ok (.aload_n 0, 1) := by decide +kernel
theorem d_MD_init_56 : decode b_MD_init 56 = .ok (.sipush 128, 3) := by decide +kernel
theorem d_MD_init_59 : decode b_MD_init 59 = .ok (.newarray .boolean, 2) := by decide +kernel
theorem d_MD_init_61 : decode b_MD_init 61 = .ok (.putfield 29, 3) := by decide +kernel
theorem d_MD_init_64 : decode b_MD_init 64 = .ok (.aload_n 0, 1) := by decide +kernel
theorem d_MD_init_65 : decode b_MD_init 65 = .ok (.bipush 17, 2) := by decide +kernel
theorem d_MD_init_67 : decode b_MD_init 67 = .ok (.newarray .int, 2) := by decide +kernel
theorem d_MD_init_69 : decode b_MD_init 69 = .ok (.putfield 33, 3) := by decide +kernel
theorem d_MD_init_72 : decode b_MD_init 72 = .ok (.aload_n 0, 1) := by decide +kernel
theorem d_MD_init_73 : decode b_MD_init 73 = .ok (.bipush 17, 2) := by decide +kernel
theorem d_MD_init_75 : decode b_MD_init 75 = .ok (.newarray .int, 2) := by decide +kernel
theorem d_MD_init_77 : decode b_MD_init 77 = .ok (.putfield 36, 3) := by decide +kernel
theorem d_MD_init_80 : decode b_MD_init 80 = .ok (.aload_n 0, 1) := by decide +kernel
theorem d_MD_init_81 : decode b_MD_init 81 = .ok (.bipush 17, 2) := by decide +kernel
theorem d_MD_init_83 : decode b_MD_init 83 = .ok (.newarray .int, 2) := by decide +kernel
theorem d_MD_init_85 : decode b_MD_init 85 = .ok (.putfield 39, 3) := by decide +kernel
theorem d_MD_init_88 : decode b_MD_init 88 = .ok (.aload_n 0, 1) := by decide +kernel
theorem d_MD_init_89 : decode b_MD_init 89 = .ok (.sipush 2176, 3) := by decide +kernel
theorem d_MD_init_92 : decode b_MD_init 92 = .ok (.newarray .int, 2) := by decide +kernel
theorem d_MD_init_94 : decode b_MD_init 94 = .ok (.putfield 42, 3) := by decide +kernel
theorem d_MD_init_97 : decode b_MD_init 97 = .ok (.aload_n 0, 1) := by decide +kernel
theorem d_MD_init_98 : decode b_MD_init 98 = .ok (.bipush 17, 2) := by decide +kernel
theorem d_MD_init_100 : decode b_MD_init 100 = .ok (.newarray .long, 2) := by decide +kernel
theorem d_MD_init_102 : decode b_MD_init 102 = .ok (.putfield 45, 3) := by decide +kernel
theorem d_MD_init_105 : decode b_MD_init 105 = .ok (.aload_n 0, 1) := by decide +kernel
theorem d_MD_init_106 : decode b_MD_init 106 = .ok (.iconst (-1), 1) := by decide +kernel
theorem d_MD_init_107 : decode b_MD_init 107 = .ok (.putfield 48, 3) := by decide +kernel
theorem d_MD_init_110 : decode b_MD_init 110 = .ok (.aload_n 0, 1) := by decide +kernel
theorem d_MD_init_111 : decode b_MD_init 111 = .ok (.sipush 500, 3) := by decide +kernel
theorem d_MD_init_114 : decode b_MD_init 114 = .ok (.newarray .long, 2) := by decide +kernel
theorem d_MD_init_116 : decode b_MD_init 116 = .ok (.putfield 52, 3) := by decide +kernel
theorem d_MD_init_119 : decode b_MD_init 119 = .ok (.aload_n 0, 1) := by decide +kernel
theorem d_MD_init_120 : decode b_MD_init 120 = .ok (.sipush 500, 3) := by decide +kernel
theorem d_MD_init_123 : decode b_MD_init 123 = .ok (.newarray .long, 2) := by decide +kernel
theorem d_MD_init_125 : decode b_MD_init 125 = .ok (.putfield 55, 3) := by decide +kernel
theorem d_MD_init_128 : decode b_MD_init 128 = .ok (.aload_n 0, 1) := by decide +kernel
theorem d_MD_init_129 : decode b_MD_init 129 = .ok (.sipush 500, 3) := by decide +kernel
theorem d_MD_init_132 : decode b_MD_init 132 = .ok (.newarray .int, 2) := by decide +kernel
theorem d_MD_init_134 : decode b_MD_init 134 = .ok (.putfield 58, 3) := by decide +kernel
theorem d_MD_init_137 : decode b_MD_init 137 = .ok (.aload_n 0, 1) := by decide +kernel
theorem d_MD_init_138 : decode b_MD_init 138 = .ok (.sipush 4200, 3) := by decide +kernel
theorem d_MD_init_141 : decode b_MD_init 141 = .ok (.newarray .int, 2) := by decide +kernel
theorem d_MD_init_143 : decode b_MD_init 143 = .ok (.putfield 61, 3) := by decide +kernel
theorem d_MD_init_146 : decode b_MD_init 146 = .ok (.aload_n 0, 1) := by decide +kernel
theorem d_MD_init_147 : decode b_MD_init 147 = .ok (.sipush 128, 3) := by decide +kernel
theorem d_MD_init_150 : decode b_MD_init 150 = .ok (.newarray .int, 2) := by decide +kernel
theorem d_MD_init_152 : decode b_MD_init 152 = .ok (.putfield 64, 3) := by decide +kernel
theorem d_MD_init_155 : decode b_MD_init 155 = .ok (.aload_n 0, 1) := by decide +kernel
theorem d_MD_init_156 : decode b_MD_init 156 = .ok (.iconst 4, 1) := by decide +kernel
theorem d_MD_init_157 : decode b_MD_init 157 = .ok (.iload_n 1, 1) := by decide +kernel
theorem d_MD_init_158 : decode b_MD_init 158 = .ok (.bipush 125, 2) := by decide +kernel
theorem d_MD_init_160 : decode b_MD_init 160 = .ok (.irem, 1) := by decide +kernel
theorem d_MD_init_161 : decode b_MD_init 161 = .ok (.bipush 125, 2) := by decide +kernel
theorem d_MD_init_163 : decode b_MD_init 163 = .ok (.iadd, 1) := by decide +kernel
theorem d_MD_init_164 : decode b_MD_init 164 = .ok (.bipush 125, 2) := by decide +kernel
theorem d_MD_init_166 : decode b_MD_init 166 = .ok (.irem, 1) := by decide +kernel
theorem d_MD_init_167 : decode b_MD_init 167 = .ok (.iadd, 1) := by decide +kernel
theorem d_MD_init_168 : decode b_MD_init 168 = .ok (.putfield 67, 3) := by decide +kernel
theorem d_MD_init_171 : decode b_MD_init 171 = .ok (.return_, 1) := by decide +kernel
abbrev b_MD_thrown : ByteArray := prog_9_method_2_code
def y_MD_thrown : MethodName := ⟨"RunStoreModel", "thrown", "()I"⟩
theorem d_MD_thrown_0 : decode b_MD_thrown 0 = .ok (.aload_n 0, 1) := by decide +kernel
theorem d_MD_thrown_1 : decode b_MD_thrown 1 = .ok (.getfield 70, 3) := by decide +kernel
theorem d_MD_thrown_4 : decode b_MD_thrown 4 = .ok (.ireturn, 1) := by decide +kernel
abbrev b_MD_put : ByteArray := prog_9_method_15_code
def y_MD_put : MethodName := ⟨"RunStoreModel", "put", "(JJI)I"⟩
theorem d_MD_put_0 : decode b_MD_put 0 = .ok (.aload_n 0, 1) := by decide +kernel
theorem d_MD_put_1 : decode b_MD_put 1 = .ok (.iconst 0, 1) := by decide +kernel
theorem d_MD_put_2 : decode b_MD_put 2 = .ok (.putfield 70, 3) := by decide +kernel
theorem d_MD_put_5 : decode b_MD_put 5 = .ok (.iload 5, 2) := by decide +kernel
theorem d_MD_put_7 : decode b_MD_put 7 = .ok (.iconst 0, 1) := by decide +kernel
theorem d_MD_put_8 : decode b_MD_put 8 = .ok (.bipush 8, 2) := by decide +kernel
theorem d_MD_put_10 : decode b_MD_put 10 = .ok (.invokestatic 109, 3) := by decide +kernel
theorem d_MD_put_13 : decode b_MD_put 13 = .ok (.ifCond .ne 9, 3) := by decide +kernel
theorem d_MD_put_16 : decode b_MD_put 16 = .ok (.aload_n 0, 1) := by decide +kernel
theorem d_MD_put_17 : decode b_MD_put 17 = .ok (.iconst 1, 1) := by decide +kernel
theorem d_MD_put_18 : decode b_MD_put 18 = .ok (.invokevirtual 113, 3) := by decide +kernel
theorem d_MD_put_21 : decode b_MD_put 21 = .ok (.ireturn, 1) := by decide +kernel
theorem d_MD_put_22 : decode b_MD_put 22 = .ok (.aload_n 0, 1) := by decide +kernel
theorem d_MD_put_23 : decode b_MD_put 23 = .ok (.lload_n 1, 1) := by decide +kernel
theorem d_MD_put_24 : decode b_MD_put 24 = .ok (.iload 5, 2) := by decide +kernel
theorem d_MD_put_26 : decode b_MD_put 26 = .ok (.invokevirtual 116, 3) := by decide +kernel
theorem d_MD_put_29 : decode b_MD_put 29 = .ok (.ifCond .ne 9, 3) := by decide +kernel
theorem d_MD_put_32 : decode b_MD_put 32 = .ok (.aload_n 0, 1) := by decide +kernel
theorem d_MD_put_33 : decode b_MD_put 33 = .ok (.iconst 2, 1) := by decide +kernel
theorem d_MD_put_34 : decode b_MD_put 34 = .ok (.invokevirtual 113, 3) := by decide +kernel
theorem d_MD_put_37 : decode b_MD_put 37 = .ok (.ireturn, 1) := by decide +kernel
theorem d_MD_put_38 : decode b_MD_put 38 = .ok (.aload_n 0, 1) := by decide +kernel
theorem d_MD_put_39 : decode b_MD_put 39 = .ok (.lload_n 1, 1) := by decide +kernel
theorem d_MD_put_40 : decode b_MD_put 40 = .ok (.lload_n 3, 1) := by decide +kernel
theorem d_MD_put_41 : decode b_MD_put 41 = .ok (.iload 5, 2) := by decide +kernel
theorem d_MD_put_43 : decode b_MD_put 43 = .ok (.invokestatic 120, 3) := by decide +kernel
theorem d_MD_put_46 : decode b_MD_put 46 = .ok (.iload 5, 2) := by decide +kernel
theorem d_MD_put_48 : decode b_MD_put 48 = .ok (.invokevirtual 124, 3) := by decide +kernel
theorem d_MD_put_51 : decode b_MD_put 51 = .ok (.aload_n 0, 1) := by decide +kernel
theorem d_MD_put_52 : decode b_MD_put 52 = .ok (.getfield 73, 3) := by decide +kernel
theorem d_MD_put_55 : decode b_MD_put 55 = .ok (.ireturn, 1) := by decide +kernel
abbrev b_MD_within : ByteArray := prog_9_method_4_code
def y_MD_within : MethodName := ⟨"RunStoreModel", "within", "(III)Z"⟩
theorem d_MD_within_0 : decode b_MD_within 0 = .ok (.iload_n 0, 1) := by decide +kernel
theorem d_MD_within_1 : decode b_MD_within 1 = .ok (.iload_n 1, 1) := by decide +kernel
theorem d_MD_within_2 : decode b_MD_within 2 = .ok (.if_icmp .lt 12, 3) := by decide +kernel
theorem d_MD_within_5 : decode b_MD_within 5 = .ok (.iload_n 0, 1) := by decide +kernel
theorem d_MD_within_6 : decode b_MD_within 6 = .ok (.iload_n 2, 1) := by decide +kernel
theorem d_MD_within_7 : decode b_MD_within 7 = .ok (.if_icmp .gt 7, 3) := by decide +kernel
theorem d_MD_within_10 : decode b_MD_within 10 = .ok (.iconst 1, 1) := by decide +kernel
theorem d_MD_within_11 : decode b_MD_within 11 = .ok (.goto 4, 3) := by decide +kernel
theorem d_MD_within_14 : decode b_MD_within 14 = .ok (.iconst 0, 1) := by decide +kernel
theorem d_MD_within_15 : decode b_MD_within 15 = .ok (.ireturn, 1) := by decide +kernel
abbrev b_MD_fail : ByteArray := prog_9_method_3_code
def y_MD_fail : MethodName := ⟨"RunStoreModel", "fail", "(I)I"⟩
theorem d_MD_fail_0 : decode b_MD_fail 0 = .ok (.aload_n 0, 1) := by decide +kernel
theorem d_MD_fail_1 : decode b_MD_fail 1 = .ok (.iload_n 1, 1) := by decide +kernel
theorem d_MD_fail_2 : decode b_MD_fail 2 = .ok (.putfield 70, 3) := by decide +kernel
theorem d_MD_fail_5 : decode b_MD_fail 5 = .ok (.iconst 0, 1) := by decide +kernel
theorem d_MD_fail_6 : decode b_MD_fail 6 = .ok (.ireturn, 1) := by decide +kernel
abbrev b_MD_hasRoom : ByteArray := prog_9_method_9_code
def y_MD_hasRoom : MethodName := ⟨"RunStoreModel", "hasRoom", "(JI)Z"⟩
theorem d_MD_hasRoom_0 : decode b_MD_hasRoom 0 = .ok (.aload_n 0, 1) := by decide +kernel
theorem d_MD_hasRoom_1 : decode b_MD_hasRoom 1 = .ok (.lload_n 1, 1) := by decide +kernel
theorem d_MD_hasRoom_2 : decode b_MD_hasRoom 2 = .ok (.invokevirtual 80, 3) := by decide +kernel
theorem d_MD_hasRoom_5 : decode b_MD_hasRoom 5 = .ok (.ifCond .ne 12, 3) := by decide +kernel
theorem d_MD_hasRoom_8 : decode b_MD_hasRoom 8 = .ok (.aload_n 0, 1) := by decide +kernel
theorem d_MD_hasRoom_9 : decode b_MD_hasRoom 9 = .ok (.getfield 73, 3) := by decide +kernel
theorem d_MD_hasRoom_12 : decode b_MD_hasRoom 12 = .ok (.bipush 24, 2) := by decide +kernel
theorem d_MD_hasRoom_14 : decode b_MD_hasRoom 14 = .ok (.if_icmp .ge 25, 3) := by decide +kernel
theorem d_MD_hasRoom_17 : decode b_MD_hasRoom 17 = .ok (.aload_n 0, 1) := by decide +kernel
theorem d_MD_hasRoom_18 : decode b_MD_hasRoom 18 = .ok (.getfield 84, 3) := by decide +kernel
theorem d_MD_hasRoom_21 : decode b_MD_hasRoom 21 = .ok (.bipush 10, 2) := by decide +kernel
theorem d_MD_hasRoom_23 : decode b_MD_hasRoom 23 = .ok (.iadd, 1) := by decide +kernel
theorem d_MD_hasRoom_24 : decode b_MD_hasRoom 24 = .ok (.iload_n 3, 1) := by decide +kernel
theorem d_MD_hasRoom_25 : decode b_MD_hasRoom 25 = .ok (.invokestatic 87, 3) := by decide +kernel
theorem d_MD_hasRoom_28 : decode b_MD_hasRoom 28 = .ok (.iadd, 1) := by decide +kernel
theorem d_MD_hasRoom_29 : decode b_MD_hasRoom 29 = .ok (.sipush 1024, 3) := by decide +kernel
theorem d_MD_hasRoom_32 : decode b_MD_hasRoom 32 = .ok (.if_icmp .gt 7, 3) := by decide +kernel
theorem d_MD_hasRoom_35 : decode b_MD_hasRoom 35 = .ok (.iconst 1, 1) := by decide +kernel
theorem d_MD_hasRoom_36 : decode b_MD_hasRoom 36 = .ok (.goto 4, 3) := by decide +kernel
theorem d_MD_hasRoom_39 : decode b_MD_hasRoom 39 = .ok (.iconst 0, 1) := by decide +kernel
theorem d_MD_hasRoom_40 : decode b_MD_hasRoom 40 = .ok (.ireturn, 1) := by decide +kernel
abbrev b_MD_hasKey : ByteArray := prog_9_method_6_code
def y_MD_hasKey : MethodName := ⟨"RunStoreModel", "hasKey", "(J)Z"⟩
theorem d_MD_hasKey_0 : decode b_MD_hasKey 0 = .ok (.aload_n 0, 1) := by decide +kernel
theorem d_MD_hasKey_1 : decode b_MD_hasKey 1 = .ok (.lload_n 1, 1) := by decide +kernel
theorem d_MD_hasKey_2 : decode b_MD_hasKey 2 = .ok (.invokevirtual 76, 3) := by decide +kernel
theorem d_MD_hasKey_5 : decode b_MD_hasKey 5 = .ok (.istore_n 3, 1) := by decide +kernel
theorem d_MD_hasKey_6 : decode b_MD_hasKey 6 = .ok (.iload_n 3, 1) := by decide +kernel
theorem d_MD_hasKey_7 : decode b_MD_hasKey 7 = .ok (.aload_n 0, 1) := by decide +kernel
theorem d_MD_hasKey_8 : decode b_MD_hasKey 8 = .ok (.getfield 73, 3) := by decide +kernel
theorem d_MD_hasKey_11 : decode b_MD_hasKey 11 = .ok (.if_icmp .ge 18, 3) := by decide +kernel
theorem d_MD_hasKey_14 : decode b_MD_hasKey 14 = .ok (.aload_n 0, 1) := by decide +kernel
theorem d_MD_hasKey_15 : decode b_MD_hasKey 15 = .ok (.getfield 7, 3) := by decide +kernel
theorem d_MD_hasKey_18 : decode b_MD_hasKey 18 = .ok (.iload_n 3, 1) := by decide +kernel
theorem d_MD_hasKey_19 : decode b_MD_hasKey 19 = .ok (.laload, 1) := by decide +kernel
theorem d_MD_hasKey_20 : decode b_MD_hasKey 20 = .ok (.lload_n 1, 1) := by decide +kernel
theorem d_MD_hasKey_21 : decode b_MD_hasKey 21 = .ok (.lcmp, 1) := by decide +kernel
theorem d_MD_hasKey_22 : decode b_MD_hasKey 22 = .ok (.ifCond .ne 7, 3) := by decide +kernel
theorem d_MD_hasKey_25 : decode b_MD_hasKey 25 = .ok (.iconst 1, 1) := by decide +kernel
theorem d_MD_hasKey_26 : decode b_MD_hasKey 26 = .ok (.goto 4, 3) := by decide +kernel
theorem d_MD_hasKey_29 : decode b_MD_hasKey 29 = .ok (.iconst 0, 1) := by decide +kernel
theorem d_MD_hasKey_30 : decode b_MD_hasKey 30 = .ok (.ireturn, 1) := by decide +kernel
abbrev b_MD_placeOf : ByteArray := prog_9_method_5_code
def y_MD_placeOf : MethodName := ⟨"RunStoreModel", "placeOf", "(J)I"⟩
theorem d_MD_placeOf_0 : decode b_MD_placeOf 0 = .ok (.iconst 0, 1) := by decide +kernel
theorem d_MD_placeOf_1 : decode b_MD_placeOf 1 = .ok (.istore_n 3, 1) := by decide +kernel
theorem d_MD_placeOf_2 : decode b_MD_placeOf 2 = .ok (.iload_n 3, 1) := by decide +kernel
theorem d_MD_placeOf_3 : decode b_MD_placeOf 3 = .ok (.aload_n 0, 1) := by decide +kernel
theorem d_MD_placeOf_4 : decode b_MD_placeOf 4 = .ok (.getfield 73, 3) := by decide +kernel
theorem d_MD_placeOf_7 : decode b_MD_placeOf 7 = .ok (.if_icmp .ge 20, 3) := by decide +kernel
theorem d_MD_placeOf_10 : decode b_MD_placeOf 10 = .ok (.aload_n 0, 1) := by decide +kernel
theorem d_MD_placeOf_11 : decode b_MD_placeOf 11 = .ok (.getfield 7, 3) := by decide +kernel
theorem d_MD_placeOf_14 : decode b_MD_placeOf 14 = .ok (.iload_n 3, 1) := by decide +kernel
theorem d_MD_placeOf_15 : decode b_MD_placeOf 15 = .ok (.laload, 1) := by decide +kernel
theorem d_MD_placeOf_16 : decode b_MD_placeOf 16 = .ok (.lload_n 1, 1) := by decide +kernel
theorem d_MD_placeOf_17 : decode b_MD_placeOf 17 = .ok (.lcmp, 1) := by decide +kernel
theorem d_MD_placeOf_18 : decode b_MD_placeOf 18 = .ok (.ifCond .ge 9, 3) := by decide +kernel
theorem d_MD_placeOf_21 : decode b_MD_placeOf 21 = .ok (.iinc 3 1, 3) := by decide +kernel
theorem d_MD_placeOf_24 : decode b_MD_placeOf 24 = .ok (.goto (-22), 3) := by decide +kernel
theorem d_MD_placeOf_27 : decode b_MD_placeOf 27 = .ok (.iload_n 3, 1) := by decide +kernel
theorem d_MD_placeOf_28 : decode b_MD_placeOf 28 = .ok (.ireturn, 1) := by decide +kernel
abbrev b_MD_bytesOf : ByteArray := prog_9_method_8_code
def y_MD_bytesOf : MethodName := ⟨"RunStoreModel", "bytesOf", "(I)I"⟩
theorem d_MD_bytesOf_0 : decode b_MD_bytesOf 0 = .ok (.iload_n 0, 1) := by decide +kernel
theorem d_MD_bytesOf_1 : decode b_MD_bytesOf 1 = .ok (.sipush 255, 3) := by decide +kernel
theorem d_MD_bytesOf_4 : decode b_MD_bytesOf 4 = .ok (.if_icmp .ne 7, 3) := by decide +kernel
theorem d_MD_bytesOf_7 : decode b_MD_bytesOf 7 = .ok (.iconst 0, 1) := by decide +kernel
theorem d_MD_bytesOf_8 : decode b_MD_bytesOf 8 = .ok (.goto 4, 3) := by decide +kernel
theorem d_MD_bytesOf_11 : decode b_MD_bytesOf 11 = .ok (.iload_n 0, 1) := by decide +kernel
theorem d_MD_bytesOf_12 : decode b_MD_bytesOf 12 = .ok (.ireturn, 1) := by decide +kernel
abbrev b_MD_lowest : ByteArray := prog_9_method_14_code
def y_MD_lowest : MethodName := ⟨"RunStoreModel", "lowest", "(JI)J"⟩
theorem d_MD_lowest_0 : decode b_MD_lowest 0 = .ok (.iload_n 2, 1) := by decide +kernel
theorem d_MD_lowest_1 : decode b_MD_lowest 1 = .ok (.bipush 8, 2) := by decide +kernel
theorem d_MD_lowest_3 : decode b_MD_lowest 3 = .ok (.if_icmp .ne 7, 3) := by decide +kernel
theorem d_MD_lowest_6 : decode b_MD_lowest 6 = .ok (.lload_n 0, 1) := by decide +kernel
theorem d_MD_lowest_7 : decode b_MD_lowest 7 = .ok (.goto 21, 3) := by decide +kernel
theorem d_MD_lowest_10 : decode b_MD_lowest 10 = .ok (.iload_n 2, 1) := by decide +kernel
theorem d_MD_lowest_11 : decode b_MD_lowest 11 = .ok (.ifCond .ne 7, 3) := by decide +kernel
theorem d_MD_lowest_14 : decode b_MD_lowest 14 = .ok (.lconst 0, 1) := by decide +kernel
theorem d_MD_lowest_15 : decode b_MD_lowest 15 = .ok (.goto 13, 3) := by decide +kernel
theorem d_MD_lowest_18 : decode b_MD_lowest 18 = .ok (.lload_n 0, 1) := by decide +kernel
theorem d_MD_lowest_19 : decode b_MD_lowest 19 = .ok (.lconst 1, 1) := by decide +kernel
theorem d_MD_lowest_20 : decode b_MD_lowest 20 = .ok (.bipush 8, 2) := by decide +kernel
theorem d_MD_lowest_22 : decode b_MD_lowest 22 = .ok (.iload_n 2, 1) := by decide +kernel
theorem d_MD_lowest_23 : decode b_MD_lowest 23 = .ok (.imul, 1) := by decide +kernel
theorem d_MD_lowest_24 : decode b_MD_lowest 24 = .ok (.lshl, 1) := by decide +kernel
theorem d_MD_lowest_25 : decode b_MD_lowest 25 = .ok (.lconst 1, 1) := by decide +kernel
theorem d_MD_lowest_26 : decode b_MD_lowest 26 = .ok (.lsub, 1) := by decide +kernel
theorem d_MD_lowest_27 : decode b_MD_lowest 27 = .ok (.land, 1) := by decide +kernel
theorem d_MD_lowest_28 : decode b_MD_lowest 28 = .ok (.lreturn, 1) := by decide +kernel
abbrev b_MD_tell : ByteArray := prog_9_method_12_code
def y_MD_tell : MethodName := ⟨"RunStoreModel", "tell", "(JJI)V"⟩
theorem d_MD_tell_0 : decode b_MD_tell 0 = .ok (.aload_n 0, 1) := by decide +kernel
theorem d_MD_tell_1 : decode b_MD_tell 1 = .ok (.getfield 84, 3) := by decide +kernel
theorem d_MD_tell_4 : decode b_MD_tell 4 = .ok (.istore 6, 2) := by decide +kernel
theorem d_MD_tell_6 : decode b_MD_tell 6 = .ok (.iconst 0, 1) := by decide +kernel
theorem d_MD_tell_7 : decode b_MD_tell 7 = .ok (.istore 7, 2) := by decide +kernel
theorem d_MD_tell_9 : decode b_MD_tell 9 = .ok (.iload 7, 2) := by decide +kernel
theorem d_MD_tell_11 : decode b_MD_tell 11 = .ok (.bipush 8, 2) := by decide +kernel
theorem d_MD_tell_13 : decode b_MD_tell 13 = .ok (.if_icmp .ge 21, 3) := by decide +kernel
theorem d_MD_tell_16 : decode b_MD_tell 16 = .ok (.aload_n 0, 1) := by decide +kernel
theorem d_MD_tell_17 : decode b_MD_tell 17 = .ok (.lload_n 1, 1) := by decide +kernel
theorem d_MD_tell_18 : decode b_MD_tell 18 = .ok (.bipush 8, 2) := by decide +kernel
theorem d_MD_tell_20 : decode b_MD_tell 20 = .ok (.iload 7, 2) := by decide +kernel
theorem d_MD_tell_22 : decode b_MD_tell 22 = .ok (.invokestatic 93, 3) := by decide +kernel
theorem d_MD_tell_25 : decode b_MD_tell 25 = .ok (.invokevirtual 97, 3) := by decide +kernel
theorem d_MD_tell_28 : decode b_MD_tell 28 = .ok (.iinc 7 1, 3) := by decide +kernel
theorem d_MD_tell_31 : decode b_MD_tell 31 = .ok (.goto (-22), 3) := by decide +kernel
theorem d_MD_tell_34 : decode b_MD_tell 34 = .ok (.aload_n 0, 1) := by decide +kernel
theorem d_MD_tell_35 : decode b_MD_tell 35 = .ok (.iload 5, 2) := by decide +kernel
theorem d_MD_tell_37 : decode b_MD_tell 37 = .ok (.invokevirtual 97, 3) := by decide +kernel
theorem d_MD_tell_40 : decode b_MD_tell 40 = .ok (.iconst 0, 1) := by decide +kernel
theorem d_MD_tell_41 : decode b_MD_tell 41 = .ok (.istore 7, 2) := by decide +kernel
theorem d_MD_tell_43 : decode b_MD_tell 43 = .ok (.iload 7, 2) := by decide +kernel
theorem d_MD_tell_45 : decode b_MD_tell 45 = .ok (.iload 5, 2) := by decide +kernel
theorem d_MD_tell_47 : decode b_MD_tell 47 = .ok (.invokestatic 87, 3) := by decide +kernel
theorem d_MD_tell_50 : decode b_MD_tell 50 = .ok (.if_icmp .ge 21, 3) := by decide +kernel
theorem d_MD_tell_53 : decode b_MD_tell 53 = .ok (.aload_n 0, 1) := by decide +kernel
theorem d_MD_tell_54 : decode b_MD_tell 54 = .ok (.lload_n 3, 1) := by decide +kernel
theorem d_MD_tell_55 : decode b_MD_tell 55 = .ok (.iload 5, 2) := by decide +kernel
theorem d_MD_tell_57 : decode b_MD_tell 57 = .ok (.iload 7, 2) := by decide +kernel
theorem d_MD_tell_59 : decode b_MD_tell 59 = .ok (.invokestatic 93, 3) := by decide +kernel
theorem d_MD_tell_62 : decode b_MD_tell 62 = .ok (.invokevirtual 97, 3) := by decide +kernel
theorem d_MD_tell_65 : decode b_MD_tell 65 = .ok (.iinc 7 1, 3) := by decide +kernel
theorem d_MD_tell_68 : decode b_MD_tell 68 = .ok (.goto (-25), 3) := by decide +kernel
theorem d_MD_tell_71 : decode b_MD_tell 71 = .ok (.aload_n 0, 1) := by decide +kernel
theorem d_MD_tell_72 : decode b_MD_tell 72 = .ok (.aload_n 0, 1) := by decide +kernel
theorem d_MD_tell_73 : decode b_MD_tell 73 = .ok (.iload 6, 2) := by decide +kernel
theorem d_MD_tell_75 : decode b_MD_tell 75 = .ok (.aload_n 0, 1) := by decide +kernel
theorem d_MD_tell_76 : decode b_MD_tell 76 = .ok (.getfield 84, 3) := by decide +kernel
theorem d_MD_tell_79 : decode b_MD_tell 79 = .ok (.invokevirtual 101, 3) := by decide +kernel
theorem d_MD_tell_82 : decode b_MD_tell 82 = .ok (.invokevirtual 97, 3) := by decide +kernel
theorem d_MD_tell_85 : decode b_MD_tell 85 = .ok (.aload_n 0, 1) := by decide +kernel
theorem d_MD_tell_86 : decode b_MD_tell 86 = .ok (.lload_n 1, 1) := by decide +kernel
theorem d_MD_tell_87 : decode b_MD_tell 87 = .ok (.lload_n 3, 1) := by decide +kernel
theorem d_MD_tell_88 : decode b_MD_tell 88 = .ok (.iload 5, 2) := by decide +kernel
theorem d_MD_tell_90 : decode b_MD_tell 90 = .ok (.invokevirtual 105, 3) := by decide +kernel
theorem d_MD_tell_93 : decode b_MD_tell 93 = .ok (.return_, 1) := by decide +kernel
abbrev b_MD_byteOf : ByteArray := prog_9_method_10_code
def y_MD_byteOf : MethodName := ⟨"RunStoreModel", "byteOf", "(JII)I"⟩
theorem d_MD_byteOf_0 : decode b_MD_byteOf 0 = .ok (.lload_n 0, 1) := by decide +kernel
theorem d_MD_byteOf_1 : decode b_MD_byteOf 1 = .ok (.bipush 8, 2) := by decide +kernel
theorem d_MD_byteOf_3 : decode b_MD_byteOf 3 = .ok (.iload_n 2, 1) := by decide +kernel
theorem d_MD_byteOf_4 : decode b_MD_byteOf 4 = .ok (.iconst 1, 1) := by decide +kernel
theorem d_MD_byteOf_5 : decode b_MD_byteOf 5 = .ok (.isub, 1) := by decide +kernel
theorem d_MD_byteOf_6 : decode b_MD_byteOf 6 = .ok (.iload_n 3, 1) := by decide +kernel
theorem d_MD_byteOf_7 : decode b_MD_byteOf 7 = .ok (.isub, 1) := by decide +kernel
theorem d_MD_byteOf_8 : decode b_MD_byteOf 8 = .ok (.imul, 1) := by decide +kernel
theorem d_MD_byteOf_9 : decode b_MD_byteOf 9 = .ok (.lshr, 1) := by decide +kernel
theorem d_MD_byteOf_10 : decode b_MD_byteOf 10 = .ok (.ldc2_w 91, 3) := by decide +kernel
theorem d_MD_byteOf_13 : decode b_MD_byteOf 13 = .ok (.land, 1) := by decide +kernel
theorem d_MD_byteOf_14 : decode b_MD_byteOf 14 = .ok (.l2i, 1) := by decide +kernel
theorem d_MD_byteOf_15 : decode b_MD_byteOf 15 = .ok (.ireturn, 1) := by decide +kernel
abbrev b_MD_note : ByteArray := prog_9_method_11_code
def y_MD_note : MethodName := ⟨"RunStoreModel", "note", "(I)V"⟩
theorem d_MD_note_0 : decode b_MD_note 0 = .ok (.aload_n 0, 1) := by decide +kernel
theorem d_MD_note_1 : decode b_MD_note 1 = .ok (.getfield 20, 3) := by decide +kernel
theorem d_MD_note_4 : decode b_MD_note 4 = .ok (.aload_n 0, 1) := by decide +kernel
theorem d_MD_note_5 : decode b_MD_note 5 = .ok (.getfield 84, 3) := by decide +kernel
theorem d_MD_note_8 : decode b_MD_note 8 = .ok (.iload_n 1, 1) := by decide +kernel
theorem d_MD_note_9 : decode b_MD_note 9 = .ok (.iastore, 1) := by decide +kernel
theorem d_MD_note_10 : decode b_MD_note 10 = .ok (.aload_n 0, 1) := by decide +kernel
theorem d_MD_note_11 : decode b_MD_note 11 = .ok (.dup, 1) := by decide +kernel
theorem d_MD_note_12 : decode b_MD_note 12 = .ok (.getfield 84, 3) := by decide +kernel
theorem d_MD_note_15 : decode b_MD_note 15 = .ok (.iconst 1, 1) := by decide +kernel
theorem d_MD_note_16 : decode b_MD_note 16 = .ok (.iadd, 1) := by decide +kernel
theorem d_MD_note_17 : decode b_MD_note 17 = .ok (.putfield 84, 3) := by decide +kernel
theorem d_MD_note_20 : decode b_MD_note 20 = .ok (.return_, 1) := by decide +kernel
abbrev b_MD_logSum : ByteArray := prog_9_method_13_code
def y_MD_logSum : MethodName := ⟨"RunStoreModel", "logSum", "(II)I"⟩
theorem d_MD_logSum_0 : decode b_MD_logSum 0 = .ok (.iconst 0, 1) := by decide +kernel
theorem d_MD_logSum_1 : decode b_MD_logSum 1 = .ok (.istore_n 3, 1) := by decide +kernel
theorem d_MD_logSum_2 : decode b_MD_logSum 2 = .ok (.iload_n 1, 1) := by decide +kernel
theorem d_MD_logSum_3 : decode b_MD_logSum 3 = .ok (.istore 4, 2) := by decide +kernel
theorem d_MD_logSum_5 : decode b_MD_logSum 5 = .ok (.iload 4, 2) := by decide +kernel
theorem d_MD_logSum_7 : decode b_MD_logSum 7 = .ok (.iload_n 2, 1) := by decide +kernel
theorem d_MD_logSum_8 : decode b_MD_logSum 8 = .ok (.if_icmp .ge 23, 3) := by decide +kernel
theorem d_MD_logSum_11 : decode b_MD_logSum 11 = .ok (.iload_n 3, 1) := by decide +kernel
theorem d_MD_logSum_12 : decode b_MD_logSum 12 = .ok (.aload_n 0, 1) := by decide +kernel
theorem d_MD_logSum_13 : decode b_MD_logSum 13 = .ok (.getfield 20, 3) := by decide +kernel
theorem d_MD_logSum_16 : decode b_MD_logSum 16 = .ok (.iload 4, 2) := by decide +kernel
theorem d_MD_logSum_18 : decode b_MD_logSum 18 = .ok (.iaload, 1) := by decide +kernel
theorem d_MD_logSum_19 : decode b_MD_logSum 19 = .ok (.iadd, 1) := by decide +kernel
theorem d_MD_logSum_20 : decode b_MD_logSum 20 = .ok (.sipush 255, 3) := by decide +kernel
theorem d_MD_logSum_23 : decode b_MD_logSum 23 = .ok (.iand, 1) := by decide +kernel
theorem d_MD_logSum_24 : decode b_MD_logSum 24 = .ok (.istore_n 3, 1) := by decide +kernel
theorem d_MD_logSum_25 : decode b_MD_logSum 25 = .ok (.iinc 4 1, 3) := by decide +kernel
theorem d_MD_logSum_28 : decode b_MD_logSum 28 = .ok (.goto (-23), 3) := by decide +kernel
theorem d_MD_logSum_31 : decode b_MD_logSum 31 = .ok (.iload_n 3, 1) := by decide +kernel
theorem d_MD_logSum_32 : decode b_MD_logSum 32 = .ok (.ireturn, 1) := by decide +kernel
abbrev b_MD_set : ByteArray := prog_9_method_7_code
def y_MD_set : MethodName := ⟨"RunStoreModel", "set", "(JJI)V"⟩
theorem d_MD_set_0 : decode b_MD_set 0 = .ok (.aload_n 0, 1) := by decide +kernel
theorem d_MD_set_1 : decode b_MD_set 1 = .ok (.lload_n 1, 1) := by decide +kernel
theorem d_MD_set_2 : decode b_MD_set 2 = .ok (.invokevirtual 76, 3) := by decide +kernel
theorem d_MD_set_5 : decode b_MD_set 5 = .ok (.istore 6, 2) := by decide +kernel
theorem d_MD_set_7 : decode b_MD_set 7 = .ok (.iload 6, 2) := by decide +kernel
theorem d_MD_set_9 : decode b_MD_set 9 = .ok (.aload_n 0, 1) := by decide +kernel
theorem d_MD_set_10 : decode b_MD_set 10 = .ok (.getfield 73, 3) := by decide +kernel
theorem d_MD_set_13 : decode b_MD_set 13 = .ok (.if_icmp .eq 15, 3) := by decide +kernel
theorem d_MD_set_16 : decode b_MD_set 16 = .ok (.aload_n 0, 1) := by decide +kernel
theorem d_MD_set_17 : decode b_MD_set 17 = .ok (.getfield 7, 3) := by decide +kernel
theorem d_MD_set_20 : decode b_MD_set 20 = .ok (.iload 6, 2) := by decide +kernel
theorem d_MD_set_22 : decode b_MD_set 22 = .ok (.laload, 1) := by decide +kernel
theorem d_MD_set_23 : decode b_MD_set 23 = .ok (.lload_n 1, 1) := by decide +kernel
theorem d_MD_set_24 : decode b_MD_set 24 = .ok (.lcmp, 1) := by decide +kernel
theorem d_MD_set_25 : decode b_MD_set 25 = .ok (.ifCond .eq 80, 3) := by decide +kernel
theorem d_MD_set_28 : decode b_MD_set 28 = .ok (.aload_n 0, 1) := by decide +kernel
theorem d_MD_set_29 : decode b_MD_set 29 = .ok (.getfield 73, 3) := by decide +kernel
theorem d_MD_set_32 : decode b_MD_set 32 = .ok (.istore 7, 2) := by decide +kernel
theorem d_MD_set_34 : decode b_MD_set 34 = .ok (.iload 7, 2) := by decide +kernel
theorem d_MD_set_36 : decode b_MD_set 36 = .ok (.iload 6, 2) := by decide +kernel
theorem d_MD_set_38 : decode b_MD_set 38 = .ok (.if_icmp .le 57, 3) := by decide +kernel
theorem d_MD_set_41 : decode b_MD_set 41 = .ok (.aload_n 0, 1) := by decide +kernel
theorem d_MD_set_42 : decode b_MD_set 42 = .ok (.getfield 7, 3) := by decide +kernel
theorem d_MD_set_45 : decode b_MD_set 45 = .ok (.iload 7, 2) := by decide +kernel
theorem d_MD_set_47 : decode b_MD_set 47 = .ok (.aload_n 0, 1) := by decide +kernel
theorem d_MD_set_48 : decode b_MD_set 48 = .ok (.getfield 7, 3) := by decide +kernel
theorem d_MD_set_51 : decode b_MD_set 51 = .ok (.iload 7, 2) := by decide +kernel
theorem d_MD_set_53 : decode b_MD_set 53 = .ok (.iconst 1, 1) := by decide +kernel
theorem d_MD_set_54 : decode b_MD_set 54 = .ok (.isub, 1) := by decide +kernel
theorem d_MD_set_55 : decode b_MD_set 55 = .ok (.laload, 1) := by decide +kernel
theorem d_MD_set_56 : decode b_MD_set 56 = .ok (.lastore, 1) := by decide +kernel
theorem d_MD_set_57 : decode b_MD_set 57 = .ok (.aload_n 0, 1) := by decide +kernel
theorem d_MD_set_58 : decode b_MD_set 58 = .ok (.getfield 13, 3) := by decide +kernel
theorem d_MD_set_61 : decode b_MD_set 61 = .ok (.iload 7, 2) := by decide +kernel
theorem d_MD_set_63 : decode b_MD_set 63 = .ok (.aload_n 0, 1) := by decide +kernel
theorem d_MD_set_64 : decode b_MD_set 64 = .ok (.getfield 13, 3) := by decide +kernel
theorem d_MD_set_67 : decode b_MD_set 67 = .ok (.iload 7, 2) := by decide +kernel
theorem d_MD_set_69 : decode b_MD_set 69 = .ok (.iconst 1, 1) := by decide +kernel
theorem d_MD_set_70 : decode b_MD_set 70 = .ok (.isub, 1) := by decide +kernel
theorem d_MD_set_71 : decode b_MD_set 71 = .ok (.laload, 1) := by decide +kernel
theorem d_MD_set_72 : decode b_MD_set 72 = .ok (.lastore, 1) := by decide +kernel
theorem d_MD_set_73 : decode b_MD_set 73 = .ok (.aload_n 0, 1) := by decide +kernel
theorem d_MD_set_74 : decode b_MD_set 74 = .ok (.getfield 16, 3) := by decide +kernel
theorem d_MD_set_77 : decode b_MD_set 77 = .ok (.iload 7, 2) := by decide +kernel
theorem d_MD_set_79 : decode b_MD_set 79 = .ok (.aload_n 0, 1) := by decide +kernel
theorem d_MD_set_80 : decode b_MD_set 80 = .ok (.getfield 16, 3) := by decide +kernel
theorem d_MD_set_83 : decode b_MD_set 83 = .ok (.iload 7, 2) := by decide +kernel
theorem d_MD_set_85 : decode b_MD_set 85 = .ok (.iconst 1, 1) := by decide +kernel
theorem d_MD_set_86 : decode b_MD_set 86 = .ok (.isub, 1) := by decide +kernel
theorem d_MD_set_87 : decode b_MD_set 87 = .ok (.iaload, 1) := by decide +kernel
theorem d_MD_set_88 : decode b_MD_set 88 = .ok (.iastore, 1) := by decide +kernel
theorem d_MD_set_89 : decode b_MD_set 89 = .ok (.iinc 7 (-1), 3) := by decide +kernel
theorem d_MD_set_92 : decode b_MD_set 92 = .ok (.goto (-58), 3) := by decide +kernel
theorem d_MD_set_95 : decode b_MD_set 95 = .ok (.aload_n 0, 1) := by decide +kernel
theorem d_MD_set_96 : decode b_MD_set 96 = .ok (.dup, 1) := by decide +kernel
theorem d_MD_set_97 : decode b_MD_set 97 = .ok (.getfield 73, 3) := by decide +kernel
theorem d_MD_set_100 : decode b_MD_set 100 = .ok (.iconst 1, 1) := by decide +kernel
theorem d_MD_set_101 : decode b_MD_set 101 = .ok (.iadd, 1) := by decide +kernel
theorem d_MD_set_102 : decode b_MD_set 102 = .ok (.putfield 73, 3) := by decide +kernel
theorem d_MD_set_105 : decode b_MD_set 105 = .ok (.aload_n 0, 1) := by decide +kernel
theorem d_MD_set_106 : decode b_MD_set 106 = .ok (.getfield 7, 3) := by decide +kernel
theorem d_MD_set_109 : decode b_MD_set 109 = .ok (.iload 6, 2) := by decide +kernel
theorem d_MD_set_111 : decode b_MD_set 111 = .ok (.lload_n 1, 1) := by decide +kernel
theorem d_MD_set_112 : decode b_MD_set 112 = .ok (.lastore, 1) := by decide +kernel
theorem d_MD_set_113 : decode b_MD_set 113 = .ok (.aload_n 0, 1) := by decide +kernel
theorem d_MD_set_114 : decode b_MD_set 114 = .ok (.getfield 13, 3) := by decide +kernel
theorem d_MD_set_117 : decode b_MD_set 117 = .ok (.iload 6, 2) := by decide +kernel
theorem d_MD_set_119 : decode b_MD_set 119 = .ok (.lload_n 3, 1) := by decide +kernel
theorem d_MD_set_120 : decode b_MD_set 120 = .ok (.lastore, 1) := by decide +kernel
theorem d_MD_set_121 : decode b_MD_set 121 = .ok (.aload_n 0, 1) := by decide +kernel
theorem d_MD_set_122 : decode b_MD_set 122 = .ok (.getfield 16, 3) := by decide +kernel
theorem d_MD_set_125 : decode b_MD_set 125 = .ok (.iload 6, 2) := by decide +kernel
theorem d_MD_set_127 : decode b_MD_set 127 = .ok (.iload 5, 2) := by decide +kernel
theorem d_MD_set_129 : decode b_MD_set 129 = .ok (.iastore, 1) := by decide +kernel
theorem d_MD_set_130 : decode b_MD_set 130 = .ok (.return_, 1) := by decide +kernel
abbrev b_MD_drop : ByteArray := prog_9_method_16_code
def y_MD_drop : MethodName := ⟨"RunStoreModel", "drop", "(J)I"⟩
theorem d_MD_drop_0 : decode b_MD_drop 0 = .ok (.aload_n 0, 1) := by decide +kernel
theorem d_MD_drop_1 : decode b_MD_drop 1 = .ok (.iconst 0, 1) := by decide +kernel
theorem d_MD_drop_2 : decode b_MD_drop 2 = .ok (.putfield 70, 3) := by decide +kernel
theorem d_MD_drop_5 : decode b_MD_drop 5 = .ok (.aload_n 0, 1) := by decide +kernel
theorem d_MD_drop_6 : decode b_MD_drop 6 = .ok (.lload_n 1, 1) := by decide +kernel
theorem d_MD_drop_7 : decode b_MD_drop 7 = .ok (.sipush 255, 3) := by decide +kernel
theorem d_MD_drop_10 : decode b_MD_drop 10 = .ok (.invokevirtual 116, 3) := by decide +kernel
theorem d_MD_drop_13 : decode b_MD_drop 13 = .ok (.ifCond .ne 9, 3) := by decide +kernel
theorem d_MD_drop_16 : decode b_MD_drop 16 = .ok (.aload_n 0, 1) := by decide +kernel
theorem d_MD_drop_17 : decode b_MD_drop 17 = .ok (.iconst 1, 1) := by decide +kernel
theorem d_MD_drop_18 : decode b_MD_drop 18 = .ok (.invokevirtual 113, 3) := by decide +kernel
theorem d_MD_drop_21 : decode b_MD_drop 21 = .ok (.ireturn, 1) := by decide +kernel
theorem d_MD_drop_22 : decode b_MD_drop 22 = .ok (.aload_n 0, 1) := by decide +kernel
theorem d_MD_drop_23 : decode b_MD_drop 23 = .ok (.lload_n 1, 1) := by decide +kernel
theorem d_MD_drop_24 : decode b_MD_drop 24 = .ok (.lconst 0, 1) := by decide +kernel
theorem d_MD_drop_25 : decode b_MD_drop 25 = .ok (.sipush 255, 3) := by decide +kernel
theorem d_MD_drop_28 : decode b_MD_drop 28 = .ok (.invokevirtual 124, 3) := by decide +kernel
theorem d_MD_drop_31 : decode b_MD_drop 31 = .ok (.aload_n 0, 1) := by decide +kernel
theorem d_MD_drop_32 : decode b_MD_drop 32 = .ok (.getfield 73, 3) := by decide +kernel
theorem d_MD_drop_35 : decode b_MD_drop 35 = .ok (.ireturn, 1) := by decide +kernel
abbrev b_MD_flush : ByteArray := prog_9_method_28_code
def y_MD_flush : MethodName := ⟨"RunStoreModel", "flush", "()I"⟩
theorem d_MD_flush_0 : decode b_MD_flush 0 = .ok (.aload_n 0, 1) := by decide +kernel
theorem d_MD_flush_1 : decode b_MD_flush 1 = .ok (.iconst 0, 1) := by decide +kernel
theorem d_MD_flush_2 : decode b_MD_flush 2 = .ok (.putfield 70, 3) := by decide +kernel
theorem d_MD_flush_5 : decode b_MD_flush 5 = .ok (.aload_n 0, 1) := by decide +kernel
theorem d_MD_flush_6 : decode b_MD_flush 6 = .ok (.getfield 73, 3) := by decide +kernel
theorem d_MD_flush_9 : decode b_MD_flush 9 = .ok (.ifCond .ne 9, 3) := by decide +kernel
theorem d_MD_flush_12 : decode b_MD_flush 12 = .ok (.aload_n 0, 1) := by decide +kernel
theorem d_MD_flush_13 : decode b_MD_flush 13 = .ok (.iconst 1, 1) := by decide +kernel
theorem d_MD_flush_14 : decode b_MD_flush 14 = .ok (.invokevirtual 113, 3) := by decide +kernel
theorem d_MD_flush_17 : decode b_MD_flush 17 = .ok (.ireturn, 1) := by decide +kernel
theorem d_MD_flush_18 : decode b_MD_flush 18 = .ok (.aload_n 0, 1) := by decide +kernel
theorem d_MD_flush_19 : decode b_MD_flush 19 = .ok (.iconst 0, 1) := by decide +kernel
theorem d_MD_flush_20 : decode b_MD_flush 20 = .ok (.putfield 130, 3) := by decide +kernel
theorem d_MD_flush_23 : decode b_MD_flush 23 = .ok (.lconst 0, 1) := by decide +kernel
theorem d_MD_flush_24 : decode b_MD_flush 24 = .ok (.lstore_n 1, 1) := by decide +kernel
theorem d_MD_flush_25 : decode b_MD_flush 25 = .ok (.iconst 0, 1) := by decide +kernel
theorem d_MD_flush_26 : decode b_MD_flush 26 = .ok (.istore_n 3, 1) := by decide +kernel
theorem d_MD_flush_27 : decode b_MD_flush 27 = .ok (.iload_n 3, 1) := by decide +kernel
theorem d_MD_flush_28 : decode b_MD_flush 28 = .ok (.aload_n 0, 1) := by decide +kernel
theorem d_MD_flush_29 : decode b_MD_flush 29 = .ok (.getfield 73, 3) := by decide +kernel
theorem d_MD_flush_32 : decode b_MD_flush 32 = .ok (.if_icmp .ge 43, 3) := by decide +kernel
theorem d_MD_flush_35 : decode b_MD_flush 35 = .ok (.aload_n 0, 1) := by decide +kernel
theorem d_MD_flush_36 : decode b_MD_flush 36 = .ok (.aload_n 0, 1) := by decide +kernel
theorem d_MD_flush_37 : decode b_MD_flush 37 = .ok (.getfield 7, 3) := by decide +kernel
theorem d_MD_flush_40 : decode b_MD_flush 40 = .ok (.iload_n 3, 1) := by decide +kernel
theorem d_MD_flush_41 : decode b_MD_flush 41 = .ok (.laload, 1) := by decide +kernel
theorem d_MD_flush_42 : decode b_MD_flush 42 = .ok (.aload_n 0, 1) := by decide +kernel
theorem d_MD_flush_43 : decode b_MD_flush 43 = .ok (.getfield 13, 3) := by decide +kernel
theorem d_MD_flush_46 : decode b_MD_flush 46 = .ok (.iload_n 3, 1) := by decide +kernel
theorem d_MD_flush_47 : decode b_MD_flush 47 = .ok (.laload, 1) := by decide +kernel
theorem d_MD_flush_48 : decode b_MD_flush 48 = .ok (.aload_n 0, 1) := by decide +kernel
theorem d_MD_flush_49 : decode b_MD_flush 49 = .ok (.getfield 16, 3) := by decide +kernel
theorem d_MD_flush_52 : decode b_MD_flush 52 = .ok (.iload_n 3, 1) := by decide +kernel
theorem d_MD_flush_53 : decode b_MD_flush 53 = .ok (.iaload, 1) := by decide +kernel
theorem d_MD_flush_54 : decode b_MD_flush 54 = .ok (.invokevirtual 149, 3) := by decide +kernel
theorem d_MD_flush_57 : decode b_MD_flush 57 = .ok (.lload_n 1, 1) := by decide +kernel
theorem d_MD_flush_58 : decode b_MD_flush 58 = .ok (.aload_n 0, 1) := by decide +kernel
theorem d_MD_flush_59 : decode b_MD_flush 59 = .ok (.getfield 7, 3) := by decide +kernel
theorem d_MD_flush_62 : decode b_MD_flush 62 = .ok (.iload_n 3, 1) := by decide +kernel
theorem d_MD_flush_63 : decode b_MD_flush 63 = .ok (.laload, 1) := by decide +kernel
theorem d_MD_flush_64 : decode b_MD_flush 64 = .ok (.invokestatic 152, 3) := by decide +kernel
theorem d_MD_flush_67 : decode b_MD_flush 67 = .ok (.lor, 1) := by decide +kernel
theorem d_MD_flush_68 : decode b_MD_flush 68 = .ok (.lstore_n 1, 1) := by decide +kernel
theorem d_MD_flush_69 : decode b_MD_flush 69 = .ok (.iinc 3 1, 3) := by decide +kernel
theorem d_MD_flush_72 : decode b_MD_flush 72 = .ok (.goto (-45), 3) := by decide +kernel
theorem d_MD_flush_75 : decode b_MD_flush 75 = .ok (.aload_n 0, 1) := by decide +kernel
theorem d_MD_flush_76 : decode b_MD_flush 76 = .ok (.getfield 130, 3) := by decide +kernel
theorem d_MD_flush_79 : decode b_MD_flush 79 = .ok (.invokestatic 143, 3) := by decide +kernel
theorem d_MD_flush_82 : decode b_MD_flush 82 = .ok (.istore_n 3, 1) := by decide +kernel
theorem d_MD_flush_83 : decode b_MD_flush 83 = .ok (.iload_n 3, 1) := by decide +kernel
theorem d_MD_flush_84 : decode b_MD_flush 84 = .ok (.aload_n 0, 1) := by decide +kernel
theorem d_MD_flush_85 : decode b_MD_flush 85 = .ok (.invokevirtual 156, 3) := by decide +kernel
theorem d_MD_flush_88 : decode b_MD_flush 88 = .ok (.if_icmp .gt 12, 3) := by decide +kernel
theorem d_MD_flush_91 : decode b_MD_flush 91 = .ok (.aload_n 0, 1) := by decide +kernel
theorem d_MD_flush_92 : decode b_MD_flush 92 = .ok (.getfield 136, 3) := by decide +kernel
theorem d_MD_flush_95 : decode b_MD_flush 95 = .ok (.bipush 16, 2) := by decide +kernel
theorem d_MD_flush_97 : decode b_MD_flush 97 = .ok (.if_icmp .ne 9, 3) := by decide +kernel
theorem d_MD_flush_100 : decode b_MD_flush 100 = .ok (.aload_n 0, 1) := by decide +kernel
theorem d_MD_flush_101 : decode b_MD_flush 101 = .ok (.iconst 2, 1) := by decide +kernel
theorem d_MD_flush_102 : decode b_MD_flush 102 = .ok (.invokevirtual 113, 3) := by decide +kernel
theorem d_MD_flush_105 : decode b_MD_flush 105 = .ok (.ireturn, 1) := by decide +kernel
theorem d_MD_flush_106 : decode b_MD_flush 106 = .ok (.aload_n 0, 1) := by decide +kernel
theorem d_MD_flush_107 : decode b_MD_flush 107 = .ok (.invokevirtual 160, 3) := by decide +kernel
theorem d_MD_flush_110 : decode b_MD_flush 110 = .ok (.aload_n 0, 1) := by decide +kernel
theorem d_MD_flush_111 : decode b_MD_flush 111 = .ok (.iconst 0, 1) := by decide +kernel
theorem d_MD_flush_112 : decode b_MD_flush 112 = .ok (.invokevirtual 163, 3) := by decide +kernel
theorem d_MD_flush_115 : decode b_MD_flush 115 = .ok (.aload_n 0, 1) := by decide +kernel
theorem d_MD_flush_116 : decode b_MD_flush 116 = .ok (.iconst 0, 1) := by decide +kernel
theorem d_MD_flush_117 : decode b_MD_flush 117 = .ok (.iconst 0, 1) := by decide +kernel
theorem d_MD_flush_118 : decode b_MD_flush 118 = .ok (.aload_n 0, 1) := by decide +kernel
theorem d_MD_flush_119 : decode b_MD_flush 119 = .ok (.getfield 73, 3) := by decide +kernel
theorem d_MD_flush_122 : decode b_MD_flush 122 = .ok (.lload_n 1, 1) := by decide +kernel
theorem d_MD_flush_123 : decode b_MD_flush 123 = .ok (.invokevirtual 166, 3) := by decide +kernel
theorem d_MD_flush_126 : decode b_MD_flush 126 = .ok (.aload_n 0, 1) := by decide +kernel
theorem d_MD_flush_127 : decode b_MD_flush 127 = .ok (.iconst 0, 1) := by decide +kernel
theorem d_MD_flush_128 : decode b_MD_flush 128 = .ok (.putfield 73, 3) := by decide +kernel
theorem d_MD_flush_131 : decode b_MD_flush 131 = .ok (.aload_n 0, 1) := by decide +kernel
theorem d_MD_flush_132 : decode b_MD_flush 132 = .ok (.iconst 0, 1) := by decide +kernel
theorem d_MD_flush_133 : decode b_MD_flush 133 = .ok (.putfield 84, 3) := by decide +kernel
theorem d_MD_flush_136 : decode b_MD_flush 136 = .ok (.iload_n 3, 1) := by decide +kernel
theorem d_MD_flush_137 : decode b_MD_flush 137 = .ok (.ireturn, 1) := by decide +kernel
abbrev b_MD_sayEntry : ByteArray := prog_9_method_22_code
def y_MD_sayEntry : MethodName := ⟨"RunStoreModel", "sayEntry", "(JJI)V"⟩
theorem d_MD_sayEntry_0 : decode b_MD_sayEntry 0 = .ok (.iconst 0, 1) := by decide +kernel
theorem d_MD_sayEntry_1 : decode b_MD_sayEntry 1 = .ok (.istore 6, 2) := by decide +kernel
theorem d_MD_sayEntry_3 : decode b_MD_sayEntry 3 = .ok (.iload 6, 2) := by decide +kernel
theorem d_MD_sayEntry_5 : decode b_MD_sayEntry 5 = .ok (.bipush 8, 2) := by decide +kernel
theorem d_MD_sayEntry_7 : decode b_MD_sayEntry 7 = .ok (.if_icmp .ge 21, 3) := by decide +kernel
theorem d_MD_sayEntry_10 : decode b_MD_sayEntry 10 = .ok (.aload_n 0, 1) := by decide +kernel
theorem d_MD_sayEntry_11 : decode b_MD_sayEntry 11 = .ok (.lload_n 1, 1) := by decide +kernel
theorem d_MD_sayEntry_12 : decode b_MD_sayEntry 12 = .ok (.bipush 8, 2) := by decide +kernel
theorem d_MD_sayEntry_14 : decode b_MD_sayEntry 14 = .ok (.iload 6, 2) := by decide +kernel
theorem d_MD_sayEntry_16 : decode b_MD_sayEntry 16 = .ok (.invokestatic 93, 3) := by decide +kernel
theorem d_MD_sayEntry_19 : decode b_MD_sayEntry 19 = .ok (.invokevirtual 133, 3) := by decide +kernel
theorem d_MD_sayEntry_22 : decode b_MD_sayEntry 22 = .ok (.iinc 6 1, 3) := by decide +kernel
theorem d_MD_sayEntry_25 : decode b_MD_sayEntry 25 = .ok (.goto (-22), 3) := by decide +kernel
theorem d_MD_sayEntry_28 : decode b_MD_sayEntry 28 = .ok (.aload_n 0, 1) := by decide +kernel
theorem d_MD_sayEntry_29 : decode b_MD_sayEntry 29 = .ok (.iload 5, 2) := by decide +kernel
theorem d_MD_sayEntry_31 : decode b_MD_sayEntry 31 = .ok (.invokevirtual 133, 3) := by decide +kernel
theorem d_MD_sayEntry_34 : decode b_MD_sayEntry 34 = .ok (.iconst 0, 1) := by decide +kernel
theorem d_MD_sayEntry_35 : decode b_MD_sayEntry 35 = .ok (.istore 6, 2) := by decide +kernel
theorem d_MD_sayEntry_37 : decode b_MD_sayEntry 37 = .ok (.iload 6, 2) := by decide +kernel
theorem d_MD_sayEntry_39 : decode b_MD_sayEntry 39 = .ok (.iload 5, 2) := by decide +kernel
theorem d_MD_sayEntry_41 : decode b_MD_sayEntry 41 = .ok (.invokestatic 87, 3) := by decide +kernel
theorem d_MD_sayEntry_44 : decode b_MD_sayEntry 44 = .ok (.if_icmp .ge 21, 3) := by decide +kernel
theorem d_MD_sayEntry_47 : decode b_MD_sayEntry 47 = .ok (.aload_n 0, 1) := by decide +kernel
theorem d_MD_sayEntry_48 : decode b_MD_sayEntry 48 = .ok (.lload_n 3, 1) := by decide +kernel
theorem d_MD_sayEntry_49 : decode b_MD_sayEntry 49 = .ok (.iload 5, 2) := by decide +kernel
theorem d_MD_sayEntry_51 : decode b_MD_sayEntry 51 = .ok (.iload 6, 2) := by decide +kernel
theorem d_MD_sayEntry_53 : decode b_MD_sayEntry 53 = .ok (.invokestatic 93, 3) := by decide +kernel
theorem d_MD_sayEntry_56 : decode b_MD_sayEntry 56 = .ok (.invokevirtual 133, 3) := by decide +kernel
theorem d_MD_sayEntry_59 : decode b_MD_sayEntry 59 = .ok (.iinc 6 1, 3) := by decide +kernel
theorem d_MD_sayEntry_62 : decode b_MD_sayEntry 62 = .ok (.goto (-25), 3) := by decide +kernel
theorem d_MD_sayEntry_65 : decode b_MD_sayEntry 65 = .ok (.return_, 1) := by decide +kernel
abbrev b_MD_say : ByteArray := prog_9_method_21_code
def y_MD_say : MethodName := ⟨"RunStoreModel", "say", "(I)V"⟩
theorem d_MD_say_0 : decode b_MD_say 0 = .ok (.aload_n 0, 1) := by decide +kernel
theorem d_MD_say_1 : decode b_MD_say 1 = .ok (.getfield 61, 3) := by decide +kernel
theorem d_MD_say_4 : decode b_MD_say 4 = .ok (.aload_n 0, 1) := by decide +kernel
theorem d_MD_say_5 : decode b_MD_say 5 = .ok (.getfield 130, 3) := by decide +kernel
theorem d_MD_say_8 : decode b_MD_say 8 = .ok (.iload_n 1, 1) := by decide +kernel
theorem d_MD_say_9 : decode b_MD_say 9 = .ok (.iastore, 1) := by decide +kernel
theorem d_MD_say_10 : decode b_MD_say 10 = .ok (.aload_n 0, 1) := by decide +kernel
theorem d_MD_say_11 : decode b_MD_say 11 = .ok (.dup, 1) := by decide +kernel
theorem d_MD_say_12 : decode b_MD_say 12 = .ok (.getfield 130, 3) := by decide +kernel
theorem d_MD_say_15 : decode b_MD_say 15 = .ok (.iconst 1, 1) := by decide +kernel
theorem d_MD_say_16 : decode b_MD_say 16 = .ok (.iadd, 1) := by decide +kernel
theorem d_MD_say_17 : decode b_MD_say 17 = .ok (.putfield 130, 3) := by decide +kernel
theorem d_MD_say_20 : decode b_MD_say 20 = .ok (.return_, 1) := by decide +kernel
abbrev b_MD_bitsOf : ByteArray := prog_9_method_17_code
def y_MD_bitsOf : MethodName := ⟨"RunStoreModel", "bitsOf", "(J)J"⟩
theorem d_MD_bitsOf_0 : decode b_MD_bitsOf 0 = .ok (.lload_n 0, 1) := by decide +kernel
theorem d_MD_bitsOf_1 : decode b_MD_bitsOf 1 = .ok (.ldc2_w 127, 3) := by decide +kernel
theorem d_MD_bitsOf_4 : decode b_MD_bitsOf 4 = .ok (.lmul, 1) := by decide +kernel
theorem d_MD_bitsOf_5 : decode b_MD_bitsOf 5 = .ok (.lstore_n 2, 1) := by decide +kernel
theorem d_MD_bitsOf_6 : decode b_MD_bitsOf 6 = .ok (.lconst 1, 1) := by decide +kernel
theorem d_MD_bitsOf_7 : decode b_MD_bitsOf 7 = .ok (.lload_n 2, 1) := by decide +kernel
theorem d_MD_bitsOf_8 : decode b_MD_bitsOf 8 = .ok (.bipush 58, 2) := by decide +kernel
theorem d_MD_bitsOf_10 : decode b_MD_bitsOf 10 = .ok (.lushr, 1) := by decide +kernel
theorem d_MD_bitsOf_11 : decode b_MD_bitsOf 11 = .ok (.l2i, 1) := by decide +kernel
theorem d_MD_bitsOf_12 : decode b_MD_bitsOf 12 = .ok (.lshl, 1) := by decide +kernel
theorem d_MD_bitsOf_13 : decode b_MD_bitsOf 13 = .ok (.lconst 1, 1) := by decide +kernel
theorem d_MD_bitsOf_14 : decode b_MD_bitsOf 14 = .ok (.lload_n 2, 1) := by decide +kernel
theorem d_MD_bitsOf_15 : decode b_MD_bitsOf 15 = .ok (.bipush 52, 2) := by decide +kernel
theorem d_MD_bitsOf_17 : decode b_MD_bitsOf 17 = .ok (.lushr, 1) := by decide +kernel
theorem d_MD_bitsOf_18 : decode b_MD_bitsOf 18 = .ok (.l2i, 1) := by decide +kernel
theorem d_MD_bitsOf_19 : decode b_MD_bitsOf 19 = .ok (.bipush 63, 2) := by decide +kernel
theorem d_MD_bitsOf_21 : decode b_MD_bitsOf 21 = .ok (.iand, 1) := by decide +kernel
theorem d_MD_bitsOf_22 : decode b_MD_bitsOf 22 = .ok (.lshl, 1) := by decide +kernel
theorem d_MD_bitsOf_23 : decode b_MD_bitsOf 23 = .ok (.lor, 1) := by decide +kernel
theorem d_MD_bitsOf_24 : decode b_MD_bitsOf 24 = .ok (.lreturn, 1) := by decide +kernel
abbrev b_MD_blocksOf : ByteArray := prog_9_method_19_code
def y_MD_blocksOf : MethodName := ⟨"RunStoreModel", "blocksOf", "(I)I"⟩
theorem d_MD_blocksOf_0 : decode b_MD_blocksOf 0 = .ok (.iload_n 0, 1) := by decide +kernel
theorem d_MD_blocksOf_1 : decode b_MD_blocksOf 1 = .ok (.bipush 32, 2) := by decide +kernel
theorem d_MD_blocksOf_3 : decode b_MD_blocksOf 3 = .ok (.iadd, 1) := by decide +kernel
theorem d_MD_blocksOf_4 : decode b_MD_blocksOf 4 = .ok (.iconst 1, 1) := by decide +kernel
theorem d_MD_blocksOf_5 : decode b_MD_blocksOf 5 = .ok (.isub, 1) := by decide +kernel
theorem d_MD_blocksOf_6 : decode b_MD_blocksOf 6 = .ok (.bipush 32, 2) := by decide +kernel
theorem d_MD_blocksOf_8 : decode b_MD_blocksOf 8 = .ok (.idiv, 1) := by decide +kernel
theorem d_MD_blocksOf_9 : decode b_MD_blocksOf 9 = .ok (.ireturn, 1) := by decide +kernel
abbrev b_MD_freeBlocks : ByteArray := prog_9_method_18_code
def y_MD_freeBlocks : MethodName := ⟨"RunStoreModel", "freeBlocks", "()I"⟩
theorem d_MD_freeBlocks_0 : decode b_MD_freeBlocks 0 = .ok (.iconst 0, 1) := by decide +kernel
theorem d_MD_freeBlocks_1 : decode b_MD_freeBlocks 1 = .ok (.istore_n 1, 1) := by decide +kernel
theorem d_MD_freeBlocks_2 : decode b_MD_freeBlocks 2 = .ok (.iconst 0, 1) := by decide +kernel
theorem d_MD_freeBlocks_3 : decode b_MD_freeBlocks 3 = .ok (.istore_n 2, 1) := by decide +kernel
theorem d_MD_freeBlocks_4 : decode b_MD_freeBlocks 4 = .ok (.iload_n 2, 1) := by decide +kernel
theorem d_MD_freeBlocks_5 : decode b_MD_freeBlocks 5 = .ok (.aload_n 0, 1) := by decide +kernel
theorem d_MD_freeBlocks_6 : decode b_MD_freeBlocks 6 = .ok (.getfield 67, 3) := by decide +kernel
theorem d_MD_freeBlocks_9 : decode b_MD_freeBlocks 9 = .ok (.if_icmp .ge 26, 3) := by decide +kernel
theorem d_MD_freeBlocks_12 : decode b_MD_freeBlocks 12 = .ok (.iload_n 1, 1) := by decide +kernel
theorem d_MD_freeBlocks_13 : decode b_MD_freeBlocks 13 = .ok (.aload_n 0, 1) := by decide +kernel
theorem d_MD_freeBlocks_14 : decode b_MD_freeBlocks 14 = .ok (.getfield 29, 3) := by decide +kernel
theorem d_MD_freeBlocks_17 : decode b_MD_freeBlocks 17 = .ok (.iload_n 2, 1) := by decide +kernel
theorem d_MD_freeBlocks_18 : decode b_MD_freeBlocks 18 = .ok (.baload, 1) := by decide +kernel
theorem d_MD_freeBlocks_19 : decode b_MD_freeBlocks 19 = .ok (.ifCond .eq 7, 3) := by decide +kernel
theorem d_MD_freeBlocks_22 : decode b_MD_freeBlocks 22 = .ok (.iconst 0, 1) := by decide +kernel
theorem d_MD_freeBlocks_23 : decode b_MD_freeBlocks 23 = .ok (.goto 4, 3) := by decide +kernel
theorem d_MD_freeBlocks_26 : decode b_MD_freeBlocks 26 = .ok (.iconst 1, 1) := by decide +kernel
theorem d_MD_freeBlocks_27 : decode b_MD_freeBlocks 27 = .ok (.iadd, 1) := by decide +kernel
theorem d_MD_freeBlocks_28 : decode b_MD_freeBlocks 28 = .ok (.istore_n 1, 1) := by decide +kernel
theorem d_MD_freeBlocks_29 : decode b_MD_freeBlocks 29 = .ok (.iinc 2 1, 3) := by decide +kernel
theorem d_MD_freeBlocks_32 : decode b_MD_freeBlocks 32 = .ok (.goto (-28), 3) := by decide +kernel
theorem d_MD_freeBlocks_35 : decode b_MD_freeBlocks 35 = .ok (.iload_n 1, 1) := by decide +kernel
theorem d_MD_freeBlocks_36 : decode b_MD_freeBlocks 36 = .ok (.ireturn, 1) := by decide +kernel
abbrev b_MD_pick : ByteArray := prog_9_method_27_code
def y_MD_pick : MethodName := ⟨"RunStoreModel", "pick", "()V"⟩
theorem d_MD_pick_0 : decode b_MD_pick 0 = .ok (.iconst 0, 1) := by decide +kernel
theorem d_MD_pick_1 : decode b_MD_pick 1 = .ok (.istore_n 1, 1) := by decide +kernel
theorem d_MD_pick_2 : decode b_MD_pick 2 = .ok (.iconst 0, 1) := by decide +kernel
theorem d_MD_pick_3 : decode b_MD_pick 3 = .ok (.istore_n 2, 1) := by decide +kernel
theorem d_MD_pick_4 : decode b_MD_pick 4 = .ok (.iload_n 2, 1) := by decide +kernel
theorem d_MD_pick_5 : decode b_MD_pick 5 = .ok (.aload_n 0, 1) := by decide +kernel
theorem d_MD_pick_6 : decode b_MD_pick 6 = .ok (.getfield 67, 3) := by decide +kernel
theorem d_MD_pick_9 : decode b_MD_pick 9 = .ok (.if_icmp .ge 28, 3) := by decide +kernel
theorem d_MD_pick_12 : decode b_MD_pick 12 = .ok (.aload_n 0, 1) := by decide +kernel
theorem d_MD_pick_13 : decode b_MD_pick 13 = .ok (.getfield 29, 3) := by decide +kernel
theorem d_MD_pick_16 : decode b_MD_pick 16 = .ok (.iload_n 2, 1) := by decide +kernel
theorem d_MD_pick_17 : decode b_MD_pick 17 = .ok (.baload, 1) := by decide +kernel
theorem d_MD_pick_18 : decode b_MD_pick 18 = .ok (.ifCond .ne 13, 3) := by decide +kernel
theorem d_MD_pick_21 : decode b_MD_pick 21 = .ok (.aload_n 0, 1) := by decide +kernel
theorem d_MD_pick_22 : decode b_MD_pick 22 = .ok (.getfield 64, 3) := by decide +kernel
theorem d_MD_pick_25 : decode b_MD_pick 25 = .ok (.iload_n 1, 1) := by decide +kernel
theorem d_MD_pick_26 : decode b_MD_pick 26 = .ok (.iload_n 2, 1) := by decide +kernel
theorem d_MD_pick_27 : decode b_MD_pick 27 = .ok (.iastore, 1) := by decide +kernel
theorem d_MD_pick_28 : decode b_MD_pick 28 = .ok (.iinc 1 1, 3) := by decide +kernel
theorem d_MD_pick_31 : decode b_MD_pick 31 = .ok (.iinc 2 1, 3) := by decide +kernel
theorem d_MD_pick_34 : decode b_MD_pick 34 = .ok (.goto (-30), 3) := by decide +kernel
theorem d_MD_pick_37 : decode b_MD_pick 37 = .ok (.return_, 1) := by decide +kernel
abbrev b_MD_openPlace : ByteArray := prog_9_method_23_code
def y_MD_openPlace : MethodName := ⟨"RunStoreModel", "openPlace", "(I)V"⟩
theorem d_MD_openPlace_0 : decode b_MD_openPlace 0 = .ok (.aload_n 0, 1) := by decide +kernel
theorem d_MD_openPlace_1 : decode b_MD_openPlace 1 = .ok (.getfield 136, 3) := by decide +kernel
theorem d_MD_openPlace_4 : decode b_MD_openPlace 4 = .ok (.istore_n 2, 1) := by decide +kernel
theorem d_MD_openPlace_5 : decode b_MD_openPlace 5 = .ok (.iload_n 2, 1) := by decide +kernel
theorem d_MD_openPlace_6 : decode b_MD_openPlace 6 = .ok (.iload_n 1, 1) := by decide +kernel
theorem d_MD_openPlace_7 : decode b_MD_openPlace 7 = .ok (.if_icmp .le 17, 3) := by decide +kernel
theorem d_MD_openPlace_10 : decode b_MD_openPlace 10 = .ok (.aload_n 0, 1) := by decide +kernel
theorem d_MD_openPlace_11 : decode b_MD_openPlace 11 = .ok (.iload_n 2, 1) := by decide +kernel
theorem d_MD_openPlace_12 : decode b_MD_openPlace 12 = .ok (.iload_n 2, 1) := by decide +kernel
theorem d_MD_openPlace_13 : decode b_MD_openPlace 13 = .ok (.iconst 1, 1) := by decide +kernel
theorem d_MD_openPlace_14 : decode b_MD_openPlace 14 = .ok (.isub, 1) := by decide +kernel
theorem d_MD_openPlace_15 : decode b_MD_openPlace 15 = .ok (.invokevirtual 139, 3) := by decide +kernel
theorem d_MD_openPlace_18 : decode b_MD_openPlace 18 = .ok (.iinc 2 (-1), 3) := by decide +kernel
theorem d_MD_openPlace_21 : decode b_MD_openPlace 21 = .ok (.goto (-16), 3) := by decide +kernel
theorem d_MD_openPlace_24 : decode b_MD_openPlace 24 = .ok (.aload_n 0, 1) := by decide +kernel
theorem d_MD_openPlace_25 : decode b_MD_openPlace 25 = .ok (.dup, 1) := by decide +kernel
theorem d_MD_openPlace_26 : decode b_MD_openPlace 26 = .ok (.getfield 136, 3) := by decide +kernel
theorem d_MD_openPlace_29 : decode b_MD_openPlace 29 = .ok (.iconst 1, 1) := by decide +kernel
theorem d_MD_openPlace_30 : decode b_MD_openPlace 30 = .ok (.iadd, 1) := by decide +kernel
theorem d_MD_openPlace_31 : decode b_MD_openPlace 31 = .ok (.putfield 136, 3) := by decide +kernel
theorem d_MD_openPlace_34 : decode b_MD_openPlace 34 = .ok (.return_, 1) := by decide +kernel
abbrev b_MD_copyTable : ByteArray := prog_9_method_24_code
def y_MD_copyTable : MethodName := ⟨"RunStoreModel", "copyTable", "(II)V"⟩
theorem d_MD_copyTable_0 : decode b_MD_copyTable 0 = .ok (.aload_n 0, 1) := by decide +kernel
theorem d_MD_copyTable_1 : decode b_MD_copyTable 1 = .ok (.getfield 33, 3) := by decide +kernel
theorem d_MD_copyTable_4 : decode b_MD_copyTable 4 = .ok (.iload_n 1, 1) := by decide +kernel
theorem d_MD_copyTable_5 : decode b_MD_copyTable 5 = .ok (.aload_n 0, 1) := by decide +kernel
theorem d_MD_copyTable_6 : decode b_MD_copyTable 6 = .ok (.getfield 33, 3) := by decide +kernel
theorem d_MD_copyTable_9 : decode b_MD_copyTable 9 = .ok (.iload_n 2, 1) := by decide +kernel
theorem d_MD_copyTable_10 : decode b_MD_copyTable 10 = .ok (.iaload, 1) := by decide +kernel
theorem d_MD_copyTable_11 : decode b_MD_copyTable 11 = .ok (.iastore, 1) := by decide +kernel
theorem d_MD_copyTable_12 : decode b_MD_copyTable 12 = .ok (.aload_n 0, 1) := by decide +kernel
theorem d_MD_copyTable_13 : decode b_MD_copyTable 13 = .ok (.getfield 36, 3) := by decide +kernel
theorem d_MD_copyTable_16 : decode b_MD_copyTable 16 = .ok (.iload_n 1, 1) := by decide +kernel
theorem d_MD_copyTable_17 : decode b_MD_copyTable 17 = .ok (.aload_n 0, 1) := by decide +kernel
theorem d_MD_copyTable_18 : decode b_MD_copyTable 18 = .ok (.getfield 36, 3) := by decide +kernel
theorem d_MD_copyTable_21 : decode b_MD_copyTable 21 = .ok (.iload_n 2, 1) := by decide +kernel
theorem d_MD_copyTable_22 : decode b_MD_copyTable 22 = .ok (.iaload, 1) := by decide +kernel
theorem d_MD_copyTable_23 : decode b_MD_copyTable 23 = .ok (.iastore, 1) := by decide +kernel
theorem d_MD_copyTable_24 : decode b_MD_copyTable 24 = .ok (.aload_n 0, 1) := by decide +kernel
theorem d_MD_copyTable_25 : decode b_MD_copyTable 25 = .ok (.getfield 39, 3) := by decide +kernel
theorem d_MD_copyTable_28 : decode b_MD_copyTable 28 = .ok (.iload_n 1, 1) := by decide +kernel
theorem d_MD_copyTable_29 : decode b_MD_copyTable 29 = .ok (.aload_n 0, 1) := by decide +kernel
theorem d_MD_copyTable_30 : decode b_MD_copyTable 30 = .ok (.getfield 39, 3) := by decide +kernel
theorem d_MD_copyTable_33 : decode b_MD_copyTable 33 = .ok (.iload_n 2, 1) := by decide +kernel
theorem d_MD_copyTable_34 : decode b_MD_copyTable 34 = .ok (.iaload, 1) := by decide +kernel
theorem d_MD_copyTable_35 : decode b_MD_copyTable 35 = .ok (.iastore, 1) := by decide +kernel
theorem d_MD_copyTable_36 : decode b_MD_copyTable 36 = .ok (.aload_n 0, 1) := by decide +kernel
theorem d_MD_copyTable_37 : decode b_MD_copyTable 37 = .ok (.getfield 45, 3) := by decide +kernel
theorem d_MD_copyTable_40 : decode b_MD_copyTable 40 = .ok (.iload_n 1, 1) := by decide +kernel
theorem d_MD_copyTable_41 : decode b_MD_copyTable 41 = .ok (.aload_n 0, 1) := by decide +kernel
theorem d_MD_copyTable_42 : decode b_MD_copyTable 42 = .ok (.getfield 45, 3) := by decide +kernel
theorem d_MD_copyTable_45 : decode b_MD_copyTable 45 = .ok (.iload_n 2, 1) := by decide +kernel
theorem d_MD_copyTable_46 : decode b_MD_copyTable 46 = .ok (.laload, 1) := by decide +kernel
theorem d_MD_copyTable_47 : decode b_MD_copyTable 47 = .ok (.lastore, 1) := by decide +kernel
theorem d_MD_copyTable_48 : decode b_MD_copyTable 48 = .ok (.iconst 0, 1) := by decide +kernel
theorem d_MD_copyTable_49 : decode b_MD_copyTable 49 = .ok (.istore_n 3, 1) := by decide +kernel
theorem d_MD_copyTable_50 : decode b_MD_copyTable 50 = .ok (.iload_n 3, 1) := by decide +kernel
theorem d_MD_copyTable_51 : decode b_MD_copyTable 51 = .ok (.sipush 128, 3) := by decide +kernel
theorem d_MD_copyTable_54 : decode b_MD_copyTable 54 = .ok (.if_icmp .ge 33, 3) := by decide +kernel
theorem d_MD_copyTable_57 : decode b_MD_copyTable 57 = .ok (.aload_n 0, 1) := by decide +kernel
theorem d_MD_copyTable_58 : decode b_MD_copyTable 58 = .ok (.getfield 42, 3) := by decide +kernel
theorem d_MD_copyTable_61 : decode b_MD_copyTable 61 = .ok (.sipush 128, 3) := by decide +kernel
theorem d_MD_copyTable_64 : decode b_MD_copyTable 64 = .ok (.iload_n 1, 1) := by decide +kernel
theorem d_MD_copyTable_65 : decode b_MD_copyTable 65 = .ok (.imul, 1) := by decide +kernel
theorem d_MD_copyTable_66 : decode b_MD_copyTable 66 = .ok (.iload_n 3, 1) := by decide +kernel
theorem d_MD_copyTable_67 : decode b_MD_copyTable 67 = .ok (.iadd, 1) := by decide +kernel
theorem d_MD_copyTable_68 : decode b_MD_copyTable 68 = .ok (.aload_n 0, 1) := by decide +kernel
theorem d_MD_copyTable_69 : decode b_MD_copyTable 69 = .ok (.getfield 42, 3) := by decide +kernel
theorem d_MD_copyTable_72 : decode b_MD_copyTable 72 = .ok (.sipush 128, 3) := by decide +kernel
theorem d_MD_copyTable_75 : decode b_MD_copyTable 75 = .ok (.iload_n 2, 1) := by decide +kernel
theorem d_MD_copyTable_76 : decode b_MD_copyTable 76 = .ok (.imul, 1) := by decide +kernel
theorem d_MD_copyTable_77 : decode b_MD_copyTable 77 = .ok (.iload_n 3, 1) := by decide +kernel
theorem d_MD_copyTable_78 : decode b_MD_copyTable 78 = .ok (.iadd, 1) := by decide +kernel
theorem d_MD_copyTable_79 : decode b_MD_copyTable 79 = .ok (.iaload, 1) := by decide +kernel
theorem d_MD_copyTable_80 : decode b_MD_copyTable 80 = .ok (.iastore, 1) := by decide +kernel
theorem d_MD_copyTable_81 : decode b_MD_copyTable 81 = .ok (.iinc 3 1, 3) := by decide +kernel
theorem d_MD_copyTable_84 : decode b_MD_copyTable 84 = .ok (.goto (-34), 3) := by decide +kernel
theorem d_MD_copyTable_87 : decode b_MD_copyTable 87 = .ok (.return_, 1) := by decide +kernel
abbrev b_MD_fill : ByteArray := prog_9_method_26_code
def y_MD_fill : MethodName := ⟨"RunStoreModel", "fill", "(IIIJ)V"⟩
theorem d_MD_fill_0 : decode b_MD_fill 0 = .ok (.aload_n 0, 1) := by decide +kernel
theorem d_MD_fill_1 : decode b_MD_fill 1 = .ok (.getfield 33, 3) := by decide +kernel
theorem d_MD_fill_4 : decode b_MD_fill 4 = .ok (.iload_n 1, 1) := by decide +kernel
theorem d_MD_fill_5 : decode b_MD_fill 5 = .ok (.iload_n 2, 1) := by decide +kernel
theorem d_MD_fill_6 : decode b_MD_fill 6 = .ok (.iastore, 1) := by decide +kernel
theorem d_MD_fill_7 : decode b_MD_fill 7 = .ok (.aload_n 0, 1) := by decide +kernel
theorem d_MD_fill_8 : decode b_MD_fill 8 = .ok (.getfield 36, 3) := by decide +kernel
theorem d_MD_fill_11 : decode b_MD_fill 11 = .ok (.iload_n 1, 1) := by decide +kernel
theorem d_MD_fill_12 : decode b_MD_fill 12 = .ok (.iload_n 3, 1) := by decide +kernel
theorem d_MD_fill_13 : decode b_MD_fill 13 = .ok (.iastore, 1) := by decide +kernel
theorem d_MD_fill_14 : decode b_MD_fill 14 = .ok (.aload_n 0, 1) := by decide +kernel
theorem d_MD_fill_15 : decode b_MD_fill 15 = .ok (.getfield 45, 3) := by decide +kernel
theorem d_MD_fill_18 : decode b_MD_fill 18 = .ok (.iload_n 1, 1) := by decide +kernel
theorem d_MD_fill_19 : decode b_MD_fill 19 = .ok (.lload 4, 2) := by decide +kernel
theorem d_MD_fill_21 : decode b_MD_fill 21 = .ok (.lastore, 1) := by decide +kernel
theorem d_MD_fill_22 : decode b_MD_fill 22 = .ok (.aload_n 0, 1) := by decide +kernel
theorem d_MD_fill_23 : decode b_MD_fill 23 = .ok (.getfield 130, 3) := by decide +kernel
theorem d_MD_fill_26 : decode b_MD_fill 26 = .ok (.invokestatic 143, 3) := by decide +kernel
theorem d_MD_fill_29 : decode b_MD_fill 29 = .ok (.istore 6, 2) := by decide +kernel
theorem d_MD_fill_31 : decode b_MD_fill 31 = .ok (.iconst 0, 1) := by decide +kernel
theorem d_MD_fill_32 : decode b_MD_fill 32 = .ok (.istore 7, 2) := by decide +kernel
theorem d_MD_fill_34 : decode b_MD_fill 34 = .ok (.iload 7, 2) := by decide +kernel
theorem d_MD_fill_36 : decode b_MD_fill 36 = .ok (.iload 6, 2) := by decide +kernel
theorem d_MD_fill_38 : decode b_MD_fill 38 = .ok (.if_icmp .ge 117, 3) := by decide +kernel
theorem d_MD_fill_41 : decode b_MD_fill 41 = .ok (.aload_n 0, 1) := by decide +kernel
theorem d_MD_fill_42 : decode b_MD_fill 42 = .ok (.getfield 64, 3) := by decide +kernel
theorem d_MD_fill_45 : decode b_MD_fill 45 = .ok (.iload 7, 2) := by decide +kernel
theorem d_MD_fill_47 : decode b_MD_fill 47 = .ok (.iaload, 1) := by decide +kernel
theorem d_MD_fill_48 : decode b_MD_fill 48 = .ok (.istore 8, 2) := by decide +kernel
theorem d_MD_fill_50 : decode b_MD_fill 50 = .ok (.aload_n 0, 1) := by decide +kernel
theorem d_MD_fill_51 : decode b_MD_fill 51 = .ok (.getfield 29, 3) := by decide +kernel
theorem d_MD_fill_54 : decode b_MD_fill 54 = .ok (.iload 8, 2) := by decide +kernel
theorem d_MD_fill_56 : decode b_MD_fill 56 = .ok (.iconst 1, 1) := by decide +kernel
theorem d_MD_fill_57 : decode b_MD_fill 57 = .ok (.bastore, 1) := by decide +kernel
theorem d_MD_fill_58 : decode b_MD_fill 58 = .ok (.aload_n 0, 1) := by decide +kernel
theorem d_MD_fill_59 : decode b_MD_fill 59 = .ok (.getfield 42, 3) := by decide +kernel
theorem d_MD_fill_62 : decode b_MD_fill 62 = .ok (.sipush 128, 3) := by decide +kernel
theorem d_MD_fill_65 : decode b_MD_fill 65 = .ok (.iload_n 1, 1) := by decide +kernel
theorem d_MD_fill_66 : decode b_MD_fill 66 = .ok (.imul, 1) := by decide +kernel
theorem d_MD_fill_67 : decode b_MD_fill 67 = .ok (.iload 7, 2) := by decide +kernel
theorem d_MD_fill_69 : decode b_MD_fill 69 = .ok (.iadd, 1) := by decide +kernel
theorem d_MD_fill_70 : decode b_MD_fill 70 = .ok (.iload 8, 2) := by decide +kernel
theorem d_MD_fill_72 : decode b_MD_fill 72 = .ok (.iastore, 1) := by decide +kernel
theorem d_MD_fill_73 : decode b_MD_fill 73 = .ok (.iconst 0, 1) := by decide +kernel
theorem d_MD_fill_74 : decode b_MD_fill 74 = .ok (.istore 9, 2) := by decide +kernel
theorem d_MD_fill_76 : decode b_MD_fill 76 = .ok (.iload 9, 2) := by decide +kernel
theorem d_MD_fill_78 : decode b_MD_fill 78 = .ok (.bipush 32, 2) := by decide +kernel
theorem d_MD_fill_80 : decode b_MD_fill 80 = .ok (.if_icmp .ge 54, 3) := by decide +kernel
theorem d_MD_fill_83 : decode b_MD_fill 83 = .ok (.aload_n 0, 1) := by decide +kernel
theorem d_MD_fill_84 : decode b_MD_fill 84 = .ok (.getfield 23, 3) := by decide +kernel
theorem d_MD_fill_87 : decode b_MD_fill 87 = .ok (.bipush 32, 2) := by decide +kernel
theorem d_MD_fill_89 : decode b_MD_fill 89 = .ok (.iload 8, 2) := by decide +kernel
theorem d_MD_fill_91 : decode b_MD_fill 91 = .ok (.imul, 1) := by decide +kernel
theorem d_MD_fill_92 : decode b_MD_fill 92 = .ok (.iload 9, 2) := by decide +kernel
theorem d_MD_fill_94 : decode b_MD_fill 94 = .ok (.iadd, 1) := by decide +kernel
theorem d_MD_fill_95 : decode b_MD_fill 95 = .ok (.bipush 32, 2) := by decide +kernel
theorem d_MD_fill_97 : decode b_MD_fill 97 = .ok (.iload 7, 2) := by decide +kernel
theorem d_MD_fill_99 : decode b_MD_fill 99 = .ok (.imul, 1) := by decide +kernel
theorem d_MD_fill_100 : decode b_MD_fill 100 = .ok (.iload 9, 2) := by decide +kernel
theorem d_MD_fill_102 : decode b_MD_fill 102 = .ok (.iadd, 1) := by decide +kernel
theorem d_MD_fill_103 : decode b_MD_fill 103 = .ok (.aload_n 0, 1) := by decide +kernel
theorem d_MD_fill_104 : decode b_MD_fill 104 = .ok (.getfield 130, 3) := by decide +kernel
theorem d_MD_fill_107 : decode b_MD_fill 107 = .ok (.if_icmp .ge 19, 3) := by decide +kernel
theorem d_MD_fill_110 : decode b_MD_fill 110 = .ok (.aload_n 0, 1) := by decide +kernel
theorem d_MD_fill_111 : decode b_MD_fill 111 = .ok (.getfield 61, 3) := by decide +kernel
theorem d_MD_fill_114 : decode b_MD_fill 114 = .ok (.bipush 32, 2) := by decide +kernel
theorem d_MD_fill_116 : decode b_MD_fill 116 = .ok (.iload 7, 2) := by decide +kernel
theorem d_MD_fill_118 : decode b_MD_fill 118 = .ok (.imul, 1) := by decide +kernel
theorem d_MD_fill_119 : decode b_MD_fill 119 = .ok (.iload 9, 2) := by decide +kernel
theorem d_MD_fill_121 : decode b_MD_fill 121 = .ok (.iadd, 1) := by decide +kernel
theorem d_MD_fill_122 : decode b_MD_fill 122 = .ok (.iaload, 1) := by decide +kernel
theorem d_MD_fill_123 : decode b_MD_fill 123 = .ok (.goto 4, 3) := by decide +kernel
theorem d_MD_fill_126 : decode b_MD_fill 126 = .ok (.iconst 0, 1) := by decide +kernel
theorem d_MD_fill_127 : decode b_MD_fill 127 = .ok (.iastore, 1) := by decide +kernel
theorem d_MD_fill_128 : decode b_MD_fill 128 = .ok (.iinc 9 1, 3) := by decide +kernel
theorem d_MD_fill_131 : decode b_MD_fill 131 = .ok (.goto (-55), 3) := by decide +kernel
theorem d_MD_fill_134 : decode b_MD_fill 134 = .ok (.aload_n 0, 1) := by decide +kernel
theorem d_MD_fill_135 : decode b_MD_fill 135 = .ok (.getfield 26, 3) := by decide +kernel
theorem d_MD_fill_138 : decode b_MD_fill 138 = .ok (.iload 8, 2) := by decide +kernel
theorem d_MD_fill_140 : decode b_MD_fill 140 = .ok (.aload_n 0, 1) := by decide +kernel
theorem d_MD_fill_141 : decode b_MD_fill 141 = .ok (.iload 8, 2) := by decide +kernel
theorem d_MD_fill_143 : decode b_MD_fill 143 = .ok (.iload 7, 2) := by decide +kernel
theorem d_MD_fill_145 : decode b_MD_fill 145 = .ok (.invokevirtual 146, 3) := by decide +kernel
theorem d_MD_fill_148 : decode b_MD_fill 148 = .ok (.iastore, 1) := by decide +kernel
theorem d_MD_fill_149 : decode b_MD_fill 149 = .ok (.iinc 7 1, 3) := by decide +kernel
theorem d_MD_fill_152 : decode b_MD_fill 152 = .ok (.goto (-118), 3) := by decide +kernel
theorem d_MD_fill_155 : decode b_MD_fill 155 = .ok (.aload_n 0, 1) := by decide +kernel
theorem d_MD_fill_156 : decode b_MD_fill 156 = .ok (.getfield 39, 3) := by decide +kernel
theorem d_MD_fill_159 : decode b_MD_fill 159 = .ok (.iload_n 1, 1) := by decide +kernel
theorem d_MD_fill_160 : decode b_MD_fill 160 = .ok (.iload 6, 2) := by decide +kernel
theorem d_MD_fill_162 : decode b_MD_fill 162 = .ok (.iastore, 1) := by decide +kernel
theorem d_MD_fill_163 : decode b_MD_fill 163 = .ok (.return_, 1) := by decide +kernel
abbrev b_MD_sumOf : ByteArray := prog_9_method_20_code
def y_MD_sumOf : MethodName := ⟨"RunStoreModel", "sumOf", "(II)I"⟩
theorem d_MD_sumOf_0 : decode b_MD_sumOf 0 = .ok (.iload_n 2, 1) := by decide +kernel
theorem d_MD_sumOf_1 : decode b_MD_sumOf 1 = .ok (.istore_n 3, 1) := by decide +kernel
theorem d_MD_sumOf_2 : decode b_MD_sumOf 2 = .ok (.iconst 0, 1) := by decide +kernel
theorem d_MD_sumOf_3 : decode b_MD_sumOf 3 = .ok (.istore 4, 2) := by decide +kernel
theorem d_MD_sumOf_5 : decode b_MD_sumOf 5 = .ok (.iload 4, 2) := by decide +kernel
theorem d_MD_sumOf_7 : decode b_MD_sumOf 7 = .ok (.bipush 32, 2) := by decide +kernel
theorem d_MD_sumOf_9 : decode b_MD_sumOf 9 = .ok (.if_icmp .ge 40, 3) := by decide +kernel
theorem d_MD_sumOf_12 : decode b_MD_sumOf 12 = .ok (.iload_n 3, 1) := by decide +kernel
theorem d_MD_sumOf_13 : decode b_MD_sumOf 13 = .ok (.aload_n 0, 1) := by decide +kernel
theorem d_MD_sumOf_14 : decode b_MD_sumOf 14 = .ok (.getfield 23, 3) := by decide +kernel
theorem d_MD_sumOf_17 : decode b_MD_sumOf 17 = .ok (.bipush 32, 2) := by decide +kernel
theorem d_MD_sumOf_19 : decode b_MD_sumOf 19 = .ok (.iload_n 1, 1) := by decide +kernel
theorem d_MD_sumOf_20 : decode b_MD_sumOf 20 = .ok (.imul, 1) := by decide +kernel
theorem d_MD_sumOf_21 : decode b_MD_sumOf 21 = .ok (.iload 4, 2) := by decide +kernel
theorem d_MD_sumOf_23 : decode b_MD_sumOf 23 = .ok (.iadd, 1) := by decide +kernel
theorem d_MD_sumOf_24 : decode b_MD_sumOf 24 = .ok (.iaload, 1) := by decide +kernel
theorem d_MD_sumOf_25 : decode b_MD_sumOf 25 = .ok (.ixor, 1) := by decide +kernel
theorem d_MD_sumOf_26 : decode b_MD_sumOf 26 = .ok (.istore 5, 2) := by decide +kernel
theorem d_MD_sumOf_28 : decode b_MD_sumOf 28 = .ok (.iload 5, 2) := by decide +kernel
theorem d_MD_sumOf_30 : decode b_MD_sumOf 30 = .ok (.bipush 15, 2) := by decide +kernel
theorem d_MD_sumOf_32 : decode b_MD_sumOf 32 = .ok (.ishl, 1) := by decide +kernel
theorem d_MD_sumOf_33 : decode b_MD_sumOf 33 = .ok (.iload 5, 2) := by decide +kernel
theorem d_MD_sumOf_35 : decode b_MD_sumOf 35 = .ok (.bipush 17, 2) := by decide +kernel
theorem d_MD_sumOf_37 : decode b_MD_sumOf 37 = .ok (.iushr, 1) := by decide +kernel
theorem d_MD_sumOf_38 : decode b_MD_sumOf 38 = .ok (.ior, 1) := by decide +kernel
theorem d_MD_sumOf_39 : decode b_MD_sumOf 39 = .ok (.ldc 129, 2) := by decide +kernel
theorem d_MD_sumOf_41 : decode b_MD_sumOf 41 = .ok (.imul, 1) := by decide +kernel
theorem d_MD_sumOf_42 : decode b_MD_sumOf 42 = .ok (.istore_n 3, 1) := by decide +kernel
theorem d_MD_sumOf_43 : decode b_MD_sumOf 43 = .ok (.iinc 4 1, 3) := by decide +kernel
theorem d_MD_sumOf_46 : decode b_MD_sumOf 46 = .ok (.goto (-41), 3) := by decide +kernel
theorem d_MD_sumOf_49 : decode b_MD_sumOf 49 = .ok (.iload_n 3, 1) := by decide +kernel
theorem d_MD_sumOf_50 : decode b_MD_sumOf 50 = .ok (.ireturn, 1) := by decide +kernel
abbrev b_MD_find : ByteArray := prog_9_method_39_code
def y_MD_find : MethodName := ⟨"RunStoreModel", "find", "(J)J"⟩
theorem d_MD_find_0 : decode b_MD_find 0 = .ok (.aload_n 0, 1) := by decide +kernel
theorem d_MD_find_1 : decode b_MD_find 1 = .ok (.lload_n 1, 1) := by decide +kernel
theorem d_MD_find_2 : decode b_MD_find 2 = .ok (.invokevirtual 229, 3) := by decide +kernel
theorem d_MD_find_5 : decode b_MD_find 5 = .ok (.istore_n 3, 1) := by decide +kernel
theorem d_MD_find_6 : decode b_MD_find 6 = .ok (.aload_n 0, 1) := by decide +kernel
theorem d_MD_find_7 : decode b_MD_find 7 = .ok (.aload_n 0, 1) := by decide +kernel
theorem d_MD_find_8 : decode b_MD_find 8 = .ok (.getfield 170, 3) := by decide +kernel
theorem d_MD_find_11 : decode b_MD_find 11 = .ok (.ifCond .eq 7, 3) := by decide +kernel
theorem d_MD_find_14 : decode b_MD_find 14 = .ok (.iconst 1, 1) := by decide +kernel
theorem d_MD_find_15 : decode b_MD_find 15 = .ok (.goto 4, 3) := by decide +kernel
theorem d_MD_find_18 : decode b_MD_find 18 = .ok (.iconst 0, 1) := by decide +kernel
theorem d_MD_find_19 : decode b_MD_find 19 = .ok (.putfield 70, 3) := by decide +kernel
theorem d_MD_find_22 : decode b_MD_find 22 = .ok (.iload_n 3, 1) := by decide +kernel
theorem d_MD_find_23 : decode b_MD_find 23 = .ok (.ifCond .eq 17, 3) := by decide +kernel
theorem d_MD_find_26 : decode b_MD_find 26 = .ok (.aload_n 0, 1) := by decide +kernel
theorem d_MD_find_27 : decode b_MD_find 27 = .ok (.getfield 170, 3) := by decide +kernel
theorem d_MD_find_30 : decode b_MD_find 30 = .ok (.ifCond .ne 10, 3) := by decide +kernel
theorem d_MD_find_33 : decode b_MD_find 33 = .ok (.aload_n 0, 1) := by decide +kernel
theorem d_MD_find_34 : decode b_MD_find 34 = .ok (.getfield 203, 3) := by decide +kernel
theorem d_MD_find_37 : decode b_MD_find 37 = .ok (.goto 4, 3) := by decide +kernel
theorem d_MD_find_40 : decode b_MD_find 40 = .ok (.lconst 0, 1) := by decide +kernel
theorem d_MD_find_41 : decode b_MD_find 41 = .ok (.lreturn, 1) := by decide +kernel
abbrev b_MD_look : ByteArray := prog_9_method_38_code
def y_MD_look : MethodName := ⟨"RunStoreModel", "look", "(J)Z"⟩
theorem d_MD_look_0 : decode b_MD_look 0 = .ok (.aload_n 0, 1) := by decide +kernel
theorem d_MD_look_1 : decode b_MD_look 1 = .ok (.iconst 0, 1) := by decide +kernel
theorem d_MD_look_2 : decode b_MD_look 2 = .ok (.putfield 170, 3) := by decide +kernel
theorem d_MD_look_5 : decode b_MD_look 5 = .ok (.aload_n 0, 1) := by decide +kernel
theorem d_MD_look_6 : decode b_MD_look 6 = .ok (.iconst (-1), 1) := by decide +kernel
theorem d_MD_look_7 : decode b_MD_look 7 = .ok (.putfield 48, 3) := by decide +kernel
theorem d_MD_look_10 : decode b_MD_look 10 = .ok (.aload_n 0, 1) := by decide +kernel
theorem d_MD_look_11 : decode b_MD_look 11 = .ok (.lload_n 1, 1) := by decide +kernel
theorem d_MD_look_12 : decode b_MD_look 12 = .ok (.invokevirtual 80, 3) := by decide +kernel
theorem d_MD_look_15 : decode b_MD_look 15 = .ok (.ifCond .eq 47, 3) := by decide +kernel
theorem d_MD_look_18 : decode b_MD_look 18 = .ok (.aload_n 0, 1) := by decide +kernel
theorem d_MD_look_19 : decode b_MD_look 19 = .ok (.aload_n 0, 1) := by decide +kernel
theorem d_MD_look_20 : decode b_MD_look 20 = .ok (.getfield 16, 3) := by decide +kernel
theorem d_MD_look_23 : decode b_MD_look 23 = .ok (.aload_n 0, 1) := by decide +kernel
theorem d_MD_look_24 : decode b_MD_look 24 = .ok (.lload_n 1, 1) := by decide +kernel
theorem d_MD_look_25 : decode b_MD_look 25 = .ok (.invokevirtual 76, 3) := by decide +kernel
theorem d_MD_look_28 : decode b_MD_look 28 = .ok (.iaload, 1) := by decide +kernel
theorem d_MD_look_29 : decode b_MD_look 29 = .ok (.putfield 200, 3) := by decide +kernel
theorem d_MD_look_32 : decode b_MD_look 32 = .ok (.aload_n 0, 1) := by decide +kernel
theorem d_MD_look_33 : decode b_MD_look 33 = .ok (.aload_n 0, 1) := by decide +kernel
theorem d_MD_look_34 : decode b_MD_look 34 = .ok (.getfield 13, 3) := by decide +kernel
theorem d_MD_look_37 : decode b_MD_look 37 = .ok (.aload_n 0, 1) := by decide +kernel
theorem d_MD_look_38 : decode b_MD_look 38 = .ok (.lload_n 1, 1) := by decide +kernel
theorem d_MD_look_39 : decode b_MD_look 39 = .ok (.invokevirtual 76, 3) := by decide +kernel
theorem d_MD_look_42 : decode b_MD_look 42 = .ok (.laload, 1) := by decide +kernel
theorem d_MD_look_43 : decode b_MD_look 43 = .ok (.putfield 203, 3) := by decide +kernel
theorem d_MD_look_46 : decode b_MD_look 46 = .ok (.aload_n 0, 1) := by decide +kernel
theorem d_MD_look_47 : decode b_MD_look 47 = .ok (.getfield 200, 3) := by decide +kernel
theorem d_MD_look_50 : decode b_MD_look 50 = .ok (.sipush 255, 3) := by decide +kernel
theorem d_MD_look_53 : decode b_MD_look 53 = .ok (.if_icmp .eq 7, 3) := by decide +kernel
theorem d_MD_look_56 : decode b_MD_look 56 = .ok (.iconst 1, 1) := by decide +kernel
theorem d_MD_look_57 : decode b_MD_look 57 = .ok (.goto 4, 3) := by decide +kernel
theorem d_MD_look_60 : decode b_MD_look 60 = .ok (.iconst 0, 1) := by decide +kernel
theorem d_MD_look_61 : decode b_MD_look 61 = .ok (.ireturn, 1) := by decide +kernel
theorem d_MD_look_62 : decode b_MD_look 62 = .ok (.lload_n 1, 1) := by decide +kernel
theorem d_MD_look_63 : decode b_MD_look 63 = .ok (.invokestatic 152, 3) := by decide +kernel
theorem d_MD_look_66 : decode b_MD_look 66 = .ok (.lstore_n 3, 1) := by decide +kernel
theorem d_MD_look_67 : decode b_MD_look 67 = .ok (.iconst 0, 1) := by decide +kernel
theorem d_MD_look_68 : decode b_MD_look 68 = .ok (.istore 5, 2) := by decide +kernel
theorem d_MD_look_70 : decode b_MD_look 70 = .ok (.iload 5, 2) := by decide +kernel
theorem d_MD_look_72 : decode b_MD_look 72 = .ok (.aload_n 0, 1) := by decide +kernel
theorem d_MD_look_73 : decode b_MD_look 73 = .ok (.getfield 136, 3) := by decide +kernel
theorem d_MD_look_76 : decode b_MD_look 76 = .ok (.if_icmp .ge 69, 3) := by decide +kernel
theorem d_MD_look_79 : decode b_MD_look 79 = .ok (.aload_n 0, 1) := by decide +kernel
theorem d_MD_look_80 : decode b_MD_look 80 = .ok (.getfield 170, 3) := by decide +kernel
theorem d_MD_look_83 : decode b_MD_look 83 = .ok (.ifCond .ne 62, 3) := by decide +kernel
theorem d_MD_look_86 : decode b_MD_look 86 = .ok (.aload_n 0, 1) := by decide +kernel
theorem d_MD_look_87 : decode b_MD_look 87 = .ok (.getfield 45, 3) := by decide +kernel
theorem d_MD_look_90 : decode b_MD_look 90 = .ok (.iload 5, 2) := by decide +kernel
theorem d_MD_look_92 : decode b_MD_look 92 = .ok (.laload, 1) := by decide +kernel
theorem d_MD_look_93 : decode b_MD_look 93 = .ok (.lload_n 3, 1) := by decide +kernel
theorem d_MD_look_94 : decode b_MD_look 94 = .ok (.land, 1) := by decide +kernel
theorem d_MD_look_95 : decode b_MD_look 95 = .ok (.lload_n 3, 1) := by decide +kernel
theorem d_MD_look_96 : decode b_MD_look 96 = .ok (.lcmp, 1) := by decide +kernel
theorem d_MD_look_97 : decode b_MD_look 97 = .ok (.ifCond .eq 16, 3) := by decide +kernel
theorem d_MD_look_100 : decode b_MD_look 100 = .ok (.aload_n 0, 1) := by decide +kernel
theorem d_MD_look_101 : decode b_MD_look 101 = .ok (.dup, 1) := by decide +kernel
theorem d_MD_look_102 : decode b_MD_look 102 = .ok (.getfield 222, 3) := by decide +kernel
theorem d_MD_look_105 : decode b_MD_look 105 = .ok (.iconst 1, 1) := by decide +kernel
theorem d_MD_look_106 : decode b_MD_look 106 = .ok (.iadd, 1) := by decide +kernel
theorem d_MD_look_107 : decode b_MD_look 107 = .ok (.putfield 222, 3) := by decide +kernel
theorem d_MD_look_110 : decode b_MD_look 110 = .ok (.goto 29, 3) := by decide +kernel
theorem d_MD_look_113 : decode b_MD_look 113 = .ok (.aload_n 0, 1) := by decide +kernel
theorem d_MD_look_114 : decode b_MD_look 114 = .ok (.iload 5, 2) := by decide +kernel
theorem d_MD_look_116 : decode b_MD_look 116 = .ok (.lload_n 1, 1) := by decide +kernel
theorem d_MD_look_117 : decode b_MD_look 117 = .ok (.invokevirtual 225, 3) := by decide +kernel
theorem d_MD_look_120 : decode b_MD_look 120 = .ok (.ifCond .eq 19, 3) := by decide +kernel
theorem d_MD_look_123 : decode b_MD_look 123 = .ok (.aload_n 0, 1) := by decide +kernel
theorem d_MD_look_124 : decode b_MD_look 124 = .ok (.getfield 200, 3) := by decide +kernel
theorem d_MD_look_127 : decode b_MD_look 127 = .ok (.sipush 255, 3) := by decide +kernel
theorem d_MD_look_130 : decode b_MD_look 130 = .ok (.if_icmp .eq 7, 3) := by decide +kernel
theorem d_MD_look_133 : decode b_MD_look 133 = .ok (.iconst 1, 1) := by decide +kernel
theorem d_MD_look_134 : decode b_MD_look 134 = .ok (.goto 4, 3) := by decide +kernel
theorem d_MD_look_137 : decode b_MD_look 137 = .ok (.iconst 0, 1) := by decide +kernel
theorem d_MD_look_138 : decode b_MD_look 138 = .ok (.ireturn, 1) := by decide +kernel
theorem d_MD_look_139 : decode b_MD_look 139 = .ok (.iinc 5 1, 3) := by decide +kernel
theorem d_MD_look_142 : decode b_MD_look 142 = .ok (.goto (-72), 3) := by decide +kernel
theorem d_MD_look_145 : decode b_MD_look 145 = .ok (.iconst 0, 1) := by decide +kernel
theorem d_MD_look_146 : decode b_MD_look 146 = .ok (.ireturn, 1) := by decide +kernel
abbrev b_MD_hasIt : ByteArray := prog_9_method_36_code
def y_MD_hasIt : MethodName := ⟨"RunStoreModel", "hasIt", "(IJ)Z"⟩
theorem d_MD_hasIt_0 : decode b_MD_hasIt 0 = .ok (.aload_n 0, 1) := by decide +kernel
theorem d_MD_hasIt_1 : decode b_MD_hasIt 1 = .ok (.iconst 1, 1) := by decide +kernel
theorem d_MD_hasIt_2 : decode b_MD_hasIt 2 = .ok (.invokevirtual 206, 3) := by decide +kernel
theorem d_MD_hasIt_5 : decode b_MD_hasIt 5 = .ok (.iconst 0, 1) := by decide +kernel
theorem d_MD_hasIt_6 : decode b_MD_hasIt 6 = .ok (.istore 4, 2) := by decide +kernel
theorem d_MD_hasIt_8 : decode b_MD_hasIt 8 = .ok (.iload 4, 2) := by decide +kernel
theorem d_MD_hasIt_10 : decode b_MD_hasIt 10 = .ok (.aload_n 0, 1) := by decide +kernel
theorem d_MD_hasIt_11 : decode b_MD_hasIt 11 = .ok (.getfield 36, 3) := by decide +kernel
theorem d_MD_hasIt_14 : decode b_MD_hasIt 14 = .ok (.iload_n 1, 1) := by decide +kernel
theorem d_MD_hasIt_15 : decode b_MD_hasIt 15 = .ok (.iaload, 1) := by decide +kernel
theorem d_MD_hasIt_16 : decode b_MD_hasIt 16 = .ok (.if_icmp .ge 50, 3) := by decide +kernel
theorem d_MD_hasIt_19 : decode b_MD_hasIt 19 = .ok (.aload_n 0, 1) := by decide +kernel
theorem d_MD_hasIt_20 : decode b_MD_hasIt 20 = .ok (.getfield 170, 3) := by decide +kernel
theorem d_MD_hasIt_23 : decode b_MD_hasIt 23 = .ok (.ifCond .ne 43, 3) := by decide +kernel
theorem d_MD_hasIt_26 : decode b_MD_hasIt 26 = .ok (.aload_n 0, 1) := by decide +kernel
theorem d_MD_hasIt_27 : decode b_MD_hasIt 27 = .ok (.iload_n 1, 1) := by decide +kernel
theorem d_MD_hasIt_28 : decode b_MD_hasIt 28 = .ok (.invokevirtual 210, 3) := by decide +kernel
theorem d_MD_hasIt_31 : decode b_MD_hasIt 31 = .ok (.aload_n 0, 1) := by decide +kernel
theorem d_MD_hasIt_32 : decode b_MD_hasIt 32 = .ok (.getfield 170, 3) := by decide +kernel
theorem d_MD_hasIt_35 : decode b_MD_hasIt 35 = .ok (.ifCond .ne 12, 3) := by decide +kernel
theorem d_MD_hasIt_38 : decode b_MD_hasIt 38 = .ok (.aload_n 0, 1) := by decide +kernel
theorem d_MD_hasIt_39 : decode b_MD_hasIt 39 = .ok (.getfield 193, 3) := by decide +kernel
theorem d_MD_hasIt_42 : decode b_MD_hasIt 42 = .ok (.lload_n 2, 1) := by decide +kernel
theorem d_MD_hasIt_43 : decode b_MD_hasIt 43 = .ok (.lcmp, 1) := by decide +kernel
theorem d_MD_hasIt_44 : decode b_MD_hasIt 44 = .ok (.ifCond .le 5, 3) := by decide +kernel
theorem d_MD_hasIt_47 : decode b_MD_hasIt 47 = .ok (.iconst 0, 1) := by decide +kernel
theorem d_MD_hasIt_48 : decode b_MD_hasIt 48 = .ok (.ireturn, 1) := by decide +kernel
theorem d_MD_hasIt_49 : decode b_MD_hasIt 49 = .ok (.aload_n 0, 1) := by decide +kernel
theorem d_MD_hasIt_50 : decode b_MD_hasIt 50 = .ok (.getfield 193, 3) := by decide +kernel
theorem d_MD_hasIt_53 : decode b_MD_hasIt 53 = .ok (.lload_n 2, 1) := by decide +kernel
theorem d_MD_hasIt_54 : decode b_MD_hasIt 54 = .ok (.lcmp, 1) := by decide +kernel
theorem d_MD_hasIt_55 : decode b_MD_hasIt 55 = .ok (.ifCond .ne 5, 3) := by decide +kernel
theorem d_MD_hasIt_58 : decode b_MD_hasIt 58 = .ok (.iconst 1, 1) := by decide +kernel
theorem d_MD_hasIt_59 : decode b_MD_hasIt 59 = .ok (.ireturn, 1) := by decide +kernel
theorem d_MD_hasIt_60 : decode b_MD_hasIt 60 = .ok (.iinc 4 1, 3) := by decide +kernel
theorem d_MD_hasIt_63 : decode b_MD_hasIt 63 = .ok (.goto (-55), 3) := by decide +kernel
theorem d_MD_hasIt_66 : decode b_MD_hasIt 66 = .ok (.iconst 0, 1) := by decide +kernel
theorem d_MD_hasIt_67 : decode b_MD_hasIt 67 = .ok (.ireturn, 1) := by decide +kernel
abbrev b_MD_begin : ByteArray := prog_9_method_32_code
def y_MD_begin : MethodName := ⟨"RunStoreModel", "begin", "(Z)V"⟩
theorem d_MD_begin_0 : decode b_MD_begin 0 = .ok (.aload_n 0, 1) := by decide +kernel
theorem d_MD_begin_1 : decode b_MD_begin 1 = .ok (.iconst 0, 1) := by decide +kernel
theorem d_MD_begin_2 : decode b_MD_begin 2 = .ok (.putfield 180, 3) := by decide +kernel
theorem d_MD_begin_5 : decode b_MD_begin 5 = .ok (.aload_n 0, 1) := by decide +kernel
theorem d_MD_begin_6 : decode b_MD_begin 6 = .ok (.iconst (-1), 1) := by decide +kernel
theorem d_MD_begin_7 : decode b_MD_begin 7 = .ok (.putfield 186, 3) := by decide +kernel
theorem d_MD_begin_10 : decode b_MD_begin 10 = .ok (.aload_n 0, 1) := by decide +kernel
theorem d_MD_begin_11 : decode b_MD_begin 11 = .ok (.iload_n 1, 1) := by decide +kernel
theorem d_MD_begin_12 : decode b_MD_begin 12 = .ok (.putfield 183, 3) := by decide +kernel
theorem d_MD_begin_15 : decode b_MD_begin 15 = .ok (.return_, 1) := by decide +kernel
abbrev b_MD_readEntry : ByteArray := prog_9_method_37_code
def y_MD_readEntry : MethodName := ⟨"RunStoreModel", "readEntry", "(I)V"⟩
theorem d_MD_readEntry_0 : decode b_MD_readEntry 0 = .ok (.aload_n 0, 1) := by decide +kernel
theorem d_MD_readEntry_1 : decode b_MD_readEntry 1 = .ok (.iload_n 1, 1) := by decide +kernel
theorem d_MD_readEntry_2 : decode b_MD_readEntry 2 = .ok (.invokevirtual 213, 3) := by decide +kernel
theorem d_MD_readEntry_5 : decode b_MD_readEntry 5 = .ok (.aload_n 0, 1) := by decide +kernel
theorem d_MD_readEntry_6 : decode b_MD_readEntry 6 = .ok (.getfield 170, 3) := by decide +kernel
theorem d_MD_readEntry_9 : decode b_MD_readEntry 9 = .ok (.ifCond .ne 8, 3) := by decide +kernel
theorem d_MD_readEntry_12 : decode b_MD_readEntry 12 = .ok (.aload_n 0, 1) := by decide +kernel
theorem d_MD_readEntry_13 : decode b_MD_readEntry 13 = .ok (.iload_n 1, 1) := by decide +kernel
theorem d_MD_readEntry_14 : decode b_MD_readEntry 14 = .ok (.invokevirtual 216, 3) := by decide +kernel
theorem d_MD_readEntry_17 : decode b_MD_readEntry 17 = .ok (.aload_n 0, 1) := by decide +kernel
theorem d_MD_readEntry_18 : decode b_MD_readEntry 18 = .ok (.getfield 170, 3) := by decide +kernel
theorem d_MD_readEntry_21 : decode b_MD_readEntry 21 = .ok (.ifCond .ne 8, 3) := by decide +kernel
theorem d_MD_readEntry_24 : decode b_MD_readEntry 24 = .ok (.aload_n 0, 1) := by decide +kernel
theorem d_MD_readEntry_25 : decode b_MD_readEntry 25 = .ok (.iload_n 1, 1) := by decide +kernel
theorem d_MD_readEntry_26 : decode b_MD_readEntry 26 = .ok (.invokevirtual 219, 3) := by decide +kernel
theorem d_MD_readEntry_29 : decode b_MD_readEntry 29 = .ok (.return_, 1) := by decide +kernel
abbrev b_MD_readKey : ByteArray := prog_9_method_33_code
def y_MD_readKey : MethodName := ⟨"RunStoreModel", "readKey", "(I)V"⟩
theorem d_MD_readKey_0 : decode b_MD_readKey 0 = .ok (.aload_n 0, 1) := by decide +kernel
theorem d_MD_readKey_1 : decode b_MD_readKey 1 = .ok (.lconst 0, 1) := by decide +kernel
theorem d_MD_readKey_2 : decode b_MD_readKey 2 = .ok (.putfield 193, 3) := by decide +kernel
theorem d_MD_readKey_5 : decode b_MD_readKey 5 = .ok (.iconst 0, 1) := by decide +kernel
theorem d_MD_readKey_6 : decode b_MD_readKey 6 = .ok (.istore_n 2, 1) := by decide +kernel
theorem d_MD_readKey_7 : decode b_MD_readKey 7 = .ok (.iload_n 2, 1) := by decide +kernel
theorem d_MD_readKey_8 : decode b_MD_readKey 8 = .ok (.bipush 8, 2) := by decide +kernel
theorem d_MD_readKey_10 : decode b_MD_readKey 10 = .ok (.if_icmp .ge 27, 3) := by decide +kernel
theorem d_MD_readKey_13 : decode b_MD_readKey 13 = .ok (.aload_n 0, 1) := by decide +kernel
theorem d_MD_readKey_14 : decode b_MD_readKey 14 = .ok (.aload_n 0, 1) := by decide +kernel
theorem d_MD_readKey_15 : decode b_MD_readKey 15 = .ok (.getfield 193, 3) := by decide +kernel
theorem d_MD_readKey_18 : decode b_MD_readKey 18 = .ok (.bipush 8, 2) := by decide +kernel
theorem d_MD_readKey_20 : decode b_MD_readKey 20 = .ok (.lshl, 1) := by decide +kernel
theorem d_MD_readKey_21 : decode b_MD_readKey 21 = .ok (.aload_n 0, 1) := by decide +kernel
theorem d_MD_readKey_22 : decode b_MD_readKey 22 = .ok (.iload_n 1, 1) := by decide +kernel
theorem d_MD_readKey_23 : decode b_MD_readKey 23 = .ok (.invokevirtual 197, 3) := by decide +kernel
theorem d_MD_readKey_26 : decode b_MD_readKey 26 = .ok (.i2l, 1) := by decide +kernel
theorem d_MD_readKey_27 : decode b_MD_readKey 27 = .ok (.lor, 1) := by decide +kernel
theorem d_MD_readKey_28 : decode b_MD_readKey 28 = .ok (.putfield 193, 3) := by decide +kernel
theorem d_MD_readKey_31 : decode b_MD_readKey 31 = .ok (.iinc 2 1, 3) := by decide +kernel
theorem d_MD_readKey_34 : decode b_MD_readKey 34 = .ok (.goto (-27), 3) := by decide +kernel
theorem d_MD_readKey_37 : decode b_MD_readKey 37 = .ok (.return_, 1) := by decide +kernel
abbrev b_MD_next : ByteArray := prog_9_method_31_code
def y_MD_next : MethodName := ⟨"RunStoreModel", "next", "(I)I"⟩
theorem d_MD_next_0 : decode b_MD_next 0 = .ok (.aload_n 0, 1) := by decide +kernel
theorem d_MD_next_1 : decode b_MD_next 1 = .ok (.getfield 170, 3) := by decide +kernel
theorem d_MD_next_4 : decode b_MD_next 4 = .ok (.ifCond .eq 5, 3) := by decide +kernel
theorem d_MD_next_7 : decode b_MD_next 7 = .ok (.iconst 0, 1) := by decide +kernel
theorem d_MD_next_8 : decode b_MD_next 8 = .ok (.ireturn, 1) := by decide +kernel
theorem d_MD_next_9 : decode b_MD_next 9 = .ok (.aload_n 0, 1) := by decide +kernel
theorem d_MD_next_10 : decode b_MD_next 10 = .ok (.getfield 180, 3) := by decide +kernel
theorem d_MD_next_13 : decode b_MD_next 13 = .ok (.bipush 32, 2) := by decide +kernel
theorem d_MD_next_15 : decode b_MD_next 15 = .ok (.idiv, 1) := by decide +kernel
theorem d_MD_next_16 : decode b_MD_next 16 = .ok (.istore_n 2, 1) := by decide +kernel
theorem d_MD_next_17 : decode b_MD_next 17 = .ok (.iload_n 2, 1) := by decide +kernel
theorem d_MD_next_18 : decode b_MD_next 18 = .ok (.aload_n 0, 1) := by decide +kernel
theorem d_MD_next_19 : decode b_MD_next 19 = .ok (.getfield 39, 3) := by decide +kernel
theorem d_MD_next_22 : decode b_MD_next 22 = .ok (.iload_n 1, 1) := by decide +kernel
theorem d_MD_next_23 : decode b_MD_next 23 = .ok (.iaload, 1) := by decide +kernel
theorem d_MD_next_24 : decode b_MD_next 24 = .ok (.if_icmp .lt 18, 3) := by decide +kernel
theorem d_MD_next_27 : decode b_MD_next 27 = .ok (.aload_n 0, 1) := by decide +kernel
theorem d_MD_next_28 : decode b_MD_next 28 = .ok (.iload_n 1, 1) := by decide +kernel
theorem d_MD_next_29 : decode b_MD_next 29 = .ok (.aload_n 0, 1) := by decide +kernel
theorem d_MD_next_30 : decode b_MD_next 30 = .ok (.getfield 39, 3) := by decide +kernel
theorem d_MD_next_33 : decode b_MD_next 33 = .ok (.iload_n 1, 1) := by decide +kernel
theorem d_MD_next_34 : decode b_MD_next 34 = .ok (.iaload, 1) := by decide +kernel
theorem d_MD_next_35 : decode b_MD_next 35 = .ok (.iconst 1, 1) := by decide +kernel
theorem d_MD_next_36 : decode b_MD_next 36 = .ok (.isub, 1) := by decide +kernel
theorem d_MD_next_37 : decode b_MD_next 37 = .ok (.invokevirtual 177, 3) := by decide +kernel
theorem d_MD_next_40 : decode b_MD_next 40 = .ok (.iconst 0, 1) := by decide +kernel
theorem d_MD_next_41 : decode b_MD_next 41 = .ok (.ireturn, 1) := by decide +kernel
theorem d_MD_next_42 : decode b_MD_next 42 = .ok (.aload_n 0, 1) := by decide +kernel
theorem d_MD_next_43 : decode b_MD_next 43 = .ok (.getfield 183, 3) := by decide +kernel
theorem d_MD_next_46 : decode b_MD_next 46 = .ok (.ifCond .eq 27, 3) := by decide +kernel
theorem d_MD_next_49 : decode b_MD_next 49 = .ok (.iload_n 2, 1) := by decide +kernel
theorem d_MD_next_50 : decode b_MD_next 50 = .ok (.aload_n 0, 1) := by decide +kernel
theorem d_MD_next_51 : decode b_MD_next 51 = .ok (.getfield 186, 3) := by decide +kernel
theorem d_MD_next_54 : decode b_MD_next 54 = .ok (.if_icmp .eq 19, 3) := by decide +kernel
theorem d_MD_next_57 : decode b_MD_next 57 = .ok (.aload_n 0, 1) := by decide +kernel
theorem d_MD_next_58 : decode b_MD_next 58 = .ok (.iload_n 2, 1) := by decide +kernel
theorem d_MD_next_59 : decode b_MD_next 59 = .ok (.putfield 186, 3) := by decide +kernel
theorem d_MD_next_62 : decode b_MD_next 62 = .ok (.aload_n 0, 1) := by decide +kernel
theorem d_MD_next_63 : decode b_MD_next 63 = .ok (.iload_n 1, 1) := by decide +kernel
theorem d_MD_next_64 : decode b_MD_next 64 = .ok (.iload_n 2, 1) := by decide +kernel
theorem d_MD_next_65 : decode b_MD_next 65 = .ok (.invokevirtual 189, 3) := by decide +kernel
theorem d_MD_next_68 : decode b_MD_next 68 = .ok (.ifCond .ne 5, 3) := by decide +kernel
theorem d_MD_next_71 : decode b_MD_next 71 = .ok (.iconst 0, 1) := by decide +kernel
theorem d_MD_next_72 : decode b_MD_next 72 = .ok (.ireturn, 1) := by decide +kernel
theorem d_MD_next_73 : decode b_MD_next 73 = .ok (.aload_n 0, 1) := by decide +kernel
theorem d_MD_next_74 : decode b_MD_next 74 = .ok (.getfield 23, 3) := by decide +kernel
theorem d_MD_next_77 : decode b_MD_next 77 = .ok (.bipush 32, 2) := by decide +kernel
theorem d_MD_next_79 : decode b_MD_next 79 = .ok (.aload_n 0, 1) := by decide +kernel
theorem d_MD_next_80 : decode b_MD_next 80 = .ok (.getfield 42, 3) := by decide +kernel
theorem d_MD_next_83 : decode b_MD_next 83 = .ok (.sipush 128, 3) := by decide +kernel
theorem d_MD_next_86 : decode b_MD_next 86 = .ok (.iload_n 1, 1) := by decide +kernel
theorem d_MD_next_87 : decode b_MD_next 87 = .ok (.imul, 1) := by decide +kernel
theorem d_MD_next_88 : decode b_MD_next 88 = .ok (.iload_n 2, 1) := by decide +kernel
theorem d_MD_next_89 : decode b_MD_next 89 = .ok (.iadd, 1) := by decide +kernel
theorem d_MD_next_90 : decode b_MD_next 90 = .ok (.iaload, 1) := by decide +kernel
theorem d_MD_next_91 : decode b_MD_next 91 = .ok (.imul, 1) := by decide +kernel
theorem d_MD_next_92 : decode b_MD_next 92 = .ok (.aload_n 0, 1) := by decide +kernel
theorem d_MD_next_93 : decode b_MD_next 93 = .ok (.getfield 180, 3) := by decide +kernel
theorem d_MD_next_96 : decode b_MD_next 96 = .ok (.bipush 32, 2) := by decide +kernel
theorem d_MD_next_98 : decode b_MD_next 98 = .ok (.irem, 1) := by decide +kernel
theorem d_MD_next_99 : decode b_MD_next 99 = .ok (.iadd, 1) := by decide +kernel
theorem d_MD_next_100 : decode b_MD_next 100 = .ok (.iaload, 1) := by decide +kernel
theorem d_MD_next_101 : decode b_MD_next 101 = .ok (.istore_n 3, 1) := by decide +kernel
theorem d_MD_next_102 : decode b_MD_next 102 = .ok (.aload_n 0, 1) := by decide +kernel
theorem d_MD_next_103 : decode b_MD_next 103 = .ok (.dup, 1) := by decide +kernel
theorem d_MD_next_104 : decode b_MD_next 104 = .ok (.getfield 180, 3) := by decide +kernel
theorem d_MD_next_107 : decode b_MD_next 107 = .ok (.iconst 1, 1) := by decide +kernel
theorem d_MD_next_108 : decode b_MD_next 108 = .ok (.iadd, 1) := by decide +kernel
theorem d_MD_next_109 : decode b_MD_next 109 = .ok (.putfield 180, 3) := by decide +kernel
theorem d_MD_next_112 : decode b_MD_next 112 = .ok (.iload_n 3, 1) := by decide +kernel
theorem d_MD_next_113 : decode b_MD_next 113 = .ok (.ireturn, 1) := by decide +kernel
abbrev b_MD_fault : ByteArray := prog_9_method_29_code
def y_MD_fault : MethodName := ⟨"RunStoreModel", "fault", "(II)V"⟩
theorem d_MD_fault_0 : decode b_MD_fault 0 = .ok (.aload_n 0, 1) := by decide +kernel
theorem d_MD_fault_1 : decode b_MD_fault 1 = .ok (.iconst 1, 1) := by decide +kernel
theorem d_MD_fault_2 : decode b_MD_fault 2 = .ok (.putfield 170, 3) := by decide +kernel
theorem d_MD_fault_5 : decode b_MD_fault 5 = .ok (.aload_n 0, 1) := by decide +kernel
theorem d_MD_fault_6 : decode b_MD_fault 6 = .ok (.aload_n 0, 1) := by decide +kernel
theorem d_MD_fault_7 : decode b_MD_fault 7 = .ok (.getfield 42, 3) := by decide +kernel
theorem d_MD_fault_10 : decode b_MD_fault 10 = .ok (.sipush 128, 3) := by decide +kernel
theorem d_MD_fault_13 : decode b_MD_fault 13 = .ok (.iload_n 1, 1) := by decide +kernel
theorem d_MD_fault_14 : decode b_MD_fault 14 = .ok (.imul, 1) := by decide +kernel
theorem d_MD_fault_15 : decode b_MD_fault 15 = .ok (.iload_n 2, 1) := by decide +kernel
theorem d_MD_fault_16 : decode b_MD_fault 16 = .ok (.iadd, 1) := by decide +kernel
theorem d_MD_fault_17 : decode b_MD_fault 17 = .ok (.iaload, 1) := by decide +kernel
theorem d_MD_fault_18 : decode b_MD_fault 18 = .ok (.putfield 48, 3) := by decide +kernel
theorem d_MD_fault_21 : decode b_MD_fault 21 = .ok (.return_, 1) := by decide +kernel
abbrev b_MD_isRight : ByteArray := prog_9_method_30_code
def y_MD_isRight : MethodName := ⟨"RunStoreModel", "isRight", "(II)Z"⟩
theorem d_MD_isRight_0 : decode b_MD_isRight 0 = .ok (.aload_n 0, 1) := by decide +kernel
theorem d_MD_isRight_1 : decode b_MD_isRight 1 = .ok (.dup, 1) := by decide +kernel
theorem d_MD_isRight_2 : decode b_MD_isRight 2 = .ok (.getfield 174, 3) := by decide +kernel
theorem d_MD_isRight_5 : decode b_MD_isRight 5 = .ok (.iconst 1, 1) := by decide +kernel
theorem d_MD_isRight_6 : decode b_MD_isRight 6 = .ok (.iadd, 1) := by decide +kernel
theorem d_MD_isRight_7 : decode b_MD_isRight 7 = .ok (.putfield 174, 3) := by decide +kernel
theorem d_MD_isRight_10 : decode b_MD_isRight 10 = .ok (.aload_n 0, 1) := by decide +kernel
theorem d_MD_isRight_11 : decode b_MD_isRight 11 = .ok (.getfield 42, 3) := by decide +kernel
theorem d_MD_isRight_14 : decode b_MD_isRight 14 = .ok (.sipush 128, 3) := by decide +kernel
theorem d_MD_isRight_17 : decode b_MD_isRight 17 = .ok (.iload_n 1, 1) := by decide +kernel
theorem d_MD_isRight_18 : decode b_MD_isRight 18 = .ok (.imul, 1) := by decide +kernel
theorem d_MD_isRight_19 : decode b_MD_isRight 19 = .ok (.iload_n 2, 1) := by decide +kernel
theorem d_MD_isRight_20 : decode b_MD_isRight 20 = .ok (.iadd, 1) := by decide +kernel
theorem d_MD_isRight_21 : decode b_MD_isRight 21 = .ok (.iaload, 1) := by decide +kernel
theorem d_MD_isRight_22 : decode b_MD_isRight 22 = .ok (.istore_n 3, 1) := by decide +kernel
theorem d_MD_isRight_23 : decode b_MD_isRight 23 = .ok (.aload_n 0, 1) := by decide +kernel
theorem d_MD_isRight_24 : decode b_MD_isRight 24 = .ok (.getfield 26, 3) := by decide +kernel
theorem d_MD_isRight_27 : decode b_MD_isRight 27 = .ok (.iload_n 3, 1) := by decide +kernel
theorem d_MD_isRight_28 : decode b_MD_isRight 28 = .ok (.iaload, 1) := by decide +kernel
theorem d_MD_isRight_29 : decode b_MD_isRight 29 = .ok (.aload_n 0, 1) := by decide +kernel
theorem d_MD_isRight_30 : decode b_MD_isRight 30 = .ok (.iload_n 3, 1) := by decide +kernel
theorem d_MD_isRight_31 : decode b_MD_isRight 31 = .ok (.iload_n 2, 1) := by decide +kernel
theorem d_MD_isRight_32 : decode b_MD_isRight 32 = .ok (.invokevirtual 146, 3) := by decide +kernel
theorem d_MD_isRight_35 : decode b_MD_isRight 35 = .ok (.if_icmp .ne 5, 3) := by decide +kernel
theorem d_MD_isRight_38 : decode b_MD_isRight 38 = .ok (.iconst 1, 1) := by decide +kernel
theorem d_MD_isRight_39 : decode b_MD_isRight 39 = .ok (.ireturn, 1) := by decide +kernel
theorem d_MD_isRight_40 : decode b_MD_isRight 40 = .ok (.aload_n 0, 1) := by decide +kernel
theorem d_MD_isRight_41 : decode b_MD_isRight 41 = .ok (.iload_n 1, 1) := by decide +kernel
theorem d_MD_isRight_42 : decode b_MD_isRight 42 = .ok (.iload_n 2, 1) := by decide +kernel
theorem d_MD_isRight_43 : decode b_MD_isRight 43 = .ok (.invokevirtual 177, 3) := by decide +kernel
theorem d_MD_isRight_46 : decode b_MD_isRight 46 = .ok (.iconst 0, 1) := by decide +kernel
theorem d_MD_isRight_47 : decode b_MD_isRight 47 = .ok (.ireturn, 1) := by decide +kernel
abbrev b_MD_readLength : ByteArray := prog_9_method_34_code
def y_MD_readLength : MethodName := ⟨"RunStoreModel", "readLength", "(I)V"⟩
theorem d_MD_readLength_0 : decode b_MD_readLength 0 = .ok (.aload_n 0, 1) := by decide +kernel
theorem d_MD_readLength_1 : decode b_MD_readLength 1 = .ok (.getfield 180, 3) := by decide +kernel
theorem d_MD_readLength_4 : decode b_MD_readLength 4 = .ok (.bipush 32, 2) := by decide +kernel
theorem d_MD_readLength_6 : decode b_MD_readLength 6 = .ok (.idiv, 1) := by decide +kernel
theorem d_MD_readLength_7 : decode b_MD_readLength 7 = .ok (.istore_n 2, 1) := by decide +kernel
theorem d_MD_readLength_8 : decode b_MD_readLength 8 = .ok (.aload_n 0, 1) := by decide +kernel
theorem d_MD_readLength_9 : decode b_MD_readLength 9 = .ok (.aload_n 0, 1) := by decide +kernel
theorem d_MD_readLength_10 : decode b_MD_readLength 10 = .ok (.iload_n 1, 1) := by decide +kernel
theorem d_MD_readLength_11 : decode b_MD_readLength 11 = .ok (.invokevirtual 197, 3) := by decide +kernel
theorem d_MD_readLength_14 : decode b_MD_readLength 14 = .ok (.putfield 200, 3) := by decide +kernel
theorem d_MD_readLength_17 : decode b_MD_readLength 17 = .ok (.aload_n 0, 1) := by decide +kernel
theorem d_MD_readLength_18 : decode b_MD_readLength 18 = .ok (.getfield 170, 3) := by decide +kernel
theorem d_MD_readLength_21 : decode b_MD_readLength 21 = .ok (.ifCond .ne 28, 3) := by decide +kernel
theorem d_MD_readLength_24 : decode b_MD_readLength 24 = .ok (.aload_n 0, 1) := by decide +kernel
theorem d_MD_readLength_25 : decode b_MD_readLength 25 = .ok (.getfield 200, 3) := by decide +kernel
theorem d_MD_readLength_28 : decode b_MD_readLength 28 = .ok (.bipush 8, 2) := by decide +kernel
theorem d_MD_readLength_30 : decode b_MD_readLength 30 = .ok (.if_icmp .le 19, 3) := by decide +kernel
theorem d_MD_readLength_33 : decode b_MD_readLength 33 = .ok (.aload_n 0, 1) := by decide +kernel
theorem d_MD_readLength_34 : decode b_MD_readLength 34 = .ok (.getfield 200, 3) := by decide +kernel
theorem d_MD_readLength_37 : decode b_MD_readLength 37 = .ok (.sipush 255, 3) := by decide +kernel
theorem d_MD_readLength_40 : decode b_MD_readLength 40 = .ok (.if_icmp .eq 9, 3) := by decide +kernel
theorem d_MD_readLength_43 : decode b_MD_readLength 43 = .ok (.aload_n 0, 1) := by decide +kernel
theorem d_MD_readLength_44 : decode b_MD_readLength 44 = .ok (.iload_n 1, 1) := by decide +kernel
theorem d_MD_readLength_45 : decode b_MD_readLength 45 = .ok (.iload_n 2, 1) := by decide +kernel
theorem d_MD_readLength_46 : decode b_MD_readLength 46 = .ok (.invokevirtual 177, 3) := by decide +kernel
theorem d_MD_readLength_49 : decode b_MD_readLength 49 = .ok (.return_, 1) := by decide +kernel
abbrev b_MD_readValue : ByteArray := prog_9_method_35_code
def y_MD_readValue : MethodName := ⟨"RunStoreModel", "readValue", "(I)V"⟩
theorem d_MD_readValue_0 : decode b_MD_readValue 0 = .ok (.aload_n 0, 1) := by decide +kernel
theorem d_MD_readValue_1 : decode b_MD_readValue 1 = .ok (.lconst 0, 1) := by decide +kernel
theorem d_MD_readValue_2 : decode b_MD_readValue 2 = .ok (.putfield 203, 3) := by decide +kernel
theorem d_MD_readValue_5 : decode b_MD_readValue 5 = .ok (.iconst 0, 1) := by decide +kernel
theorem d_MD_readValue_6 : decode b_MD_readValue 6 = .ok (.istore_n 2, 1) := by decide +kernel
theorem d_MD_readValue_7 : decode b_MD_readValue 7 = .ok (.iload_n 2, 1) := by decide +kernel
theorem d_MD_readValue_8 : decode b_MD_readValue 8 = .ok (.aload_n 0, 1) := by decide +kernel
theorem d_MD_readValue_9 : decode b_MD_readValue 9 = .ok (.getfield 200, 3) := by decide +kernel
theorem d_MD_readValue_12 : decode b_MD_readValue 12 = .ok (.invokestatic 87, 3) := by decide +kernel
theorem d_MD_readValue_15 : decode b_MD_readValue 15 = .ok (.if_icmp .ge 34, 3) := by decide +kernel
theorem d_MD_readValue_18 : decode b_MD_readValue 18 = .ok (.aload_n 0, 1) := by decide +kernel
theorem d_MD_readValue_19 : decode b_MD_readValue 19 = .ok (.getfield 170, 3) := by decide +kernel
theorem d_MD_readValue_22 : decode b_MD_readValue 22 = .ok (.ifCond .ne 27, 3) := by decide +kernel
theorem d_MD_readValue_25 : decode b_MD_readValue 25 = .ok (.aload_n 0, 1) := by decide +kernel
theorem d_MD_readValue_26 : decode b_MD_readValue 26 = .ok (.aload_n 0, 1) := by decide +kernel
theorem d_MD_readValue_27 : decode b_MD_readValue 27 = .ok (.getfield 203, 3) := by decide +kernel
theorem d_MD_readValue_30 : decode b_MD_readValue 30 = .ok (.bipush 8, 2) := by decide +kernel
theorem d_MD_readValue_32 : decode b_MD_readValue 32 = .ok (.lshl, 1) := by decide +kernel
theorem d_MD_readValue_33 : decode b_MD_readValue 33 = .ok (.aload_n 0, 1) := by decide +kernel
theorem d_MD_readValue_34 : decode b_MD_readValue 34 = .ok (.iload_n 1, 1) := by decide +kernel
theorem d_MD_readValue_35 : decode b_MD_readValue 35 = .ok (.invokevirtual 197, 3) := by decide +kernel
theorem d_MD_readValue_38 : decode b_MD_readValue 38 = .ok (.i2l, 1) := by decide +kernel
theorem d_MD_readValue_39 : decode b_MD_readValue 39 = .ok (.lor, 1) := by decide +kernel
theorem d_MD_readValue_40 : decode b_MD_readValue 40 = .ok (.putfield 203, 3) := by decide +kernel
theorem d_MD_readValue_43 : decode b_MD_readValue 43 = .ok (.iinc 2 1, 3) := by decide +kernel
theorem d_MD_readValue_46 : decode b_MD_readValue 46 = .ok (.goto (-39), 3) := by decide +kernel
theorem d_MD_readValue_49 : decode b_MD_readValue 49 = .ok (.return_, 1) := by decide +kernel
abbrev b_MD_length : ByteArray := prog_9_method_40_code
def y_MD_length : MethodName := ⟨"RunStoreModel", "length", "(J)I"⟩
theorem d_MD_length_0 : decode b_MD_length 0 = .ok (.aload_n 0, 1) := by decide +kernel
theorem d_MD_length_1 : decode b_MD_length 1 = .ok (.lload_n 1, 1) := by decide +kernel
theorem d_MD_length_2 : decode b_MD_length 2 = .ok (.invokevirtual 229, 3) := by decide +kernel
theorem d_MD_length_5 : decode b_MD_length 5 = .ok (.istore_n 3, 1) := by decide +kernel
theorem d_MD_length_6 : decode b_MD_length 6 = .ok (.aload_n 0, 1) := by decide +kernel
theorem d_MD_length_7 : decode b_MD_length 7 = .ok (.aload_n 0, 1) := by decide +kernel
theorem d_MD_length_8 : decode b_MD_length 8 = .ok (.getfield 170, 3) := by decide +kernel
theorem d_MD_length_11 : decode b_MD_length 11 = .ok (.ifCond .eq 7, 3) := by decide +kernel
theorem d_MD_length_14 : decode b_MD_length 14 = .ok (.iconst 1, 1) := by decide +kernel
theorem d_MD_length_15 : decode b_MD_length 15 = .ok (.goto 4, 3) := by decide +kernel
theorem d_MD_length_18 : decode b_MD_length 18 = .ok (.iconst 0, 1) := by decide +kernel
theorem d_MD_length_19 : decode b_MD_length 19 = .ok (.putfield 70, 3) := by decide +kernel
theorem d_MD_length_22 : decode b_MD_length 22 = .ok (.aload_n 0, 1) := by decide +kernel
theorem d_MD_length_23 : decode b_MD_length 23 = .ok (.getfield 170, 3) := by decide +kernel
theorem d_MD_length_26 : decode b_MD_length 26 = .ok (.ifCond .eq 7, 3) := by decide +kernel
theorem d_MD_length_29 : decode b_MD_length 29 = .ok (.iconst 0, 1) := by decide +kernel
theorem d_MD_length_30 : decode b_MD_length 30 = .ok (.goto 15, 3) := by decide +kernel
theorem d_MD_length_33 : decode b_MD_length 33 = .ok (.iload_n 3, 1) := by decide +kernel
theorem d_MD_length_34 : decode b_MD_length 34 = .ok (.ifCond .eq 10, 3) := by decide +kernel
theorem d_MD_length_37 : decode b_MD_length 37 = .ok (.aload_n 0, 1) := by decide +kernel
theorem d_MD_length_38 : decode b_MD_length 38 = .ok (.getfield 200, 3) := by decide +kernel
theorem d_MD_length_41 : decode b_MD_length 41 = .ok (.goto 4, 3) := by decide +kernel
theorem d_MD_length_44 : decode b_MD_length 44 = .ok (.iconst (-1), 1) := by decide +kernel
theorem d_MD_length_45 : decode b_MD_length 45 = .ok (.ireturn, 1) := by decide +kernel
abbrev b_MD_after : ByteArray := prog_9_method_43_code
def y_MD_after : MethodName := ⟨"RunStoreModel", "after", "(J)J"⟩
theorem d_MD_after_0 : decode b_MD_after 0 = .ok (.aload_n 0, 1) := by decide +kernel
theorem d_MD_after_1 : decode b_MD_after 1 = .ok (.iconst 0, 1) := by decide +kernel
theorem d_MD_after_2 : decode b_MD_after 2 = .ok (.putfield 70, 3) := by decide +kernel
theorem d_MD_after_5 : decode b_MD_after 5 = .ok (.aload_n 0, 1) := by decide +kernel
theorem d_MD_after_6 : decode b_MD_after 6 = .ok (.iconst 0, 1) := by decide +kernel
theorem d_MD_after_7 : decode b_MD_after 7 = .ok (.putfield 170, 3) := by decide +kernel
theorem d_MD_after_10 : decode b_MD_after 10 = .ok (.aload_n 0, 1) := by decide +kernel
theorem d_MD_after_11 : decode b_MD_after 11 = .ok (.iconst (-1), 1) := by decide +kernel
theorem d_MD_after_12 : decode b_MD_after 12 = .ok (.putfield 48, 3) := by decide +kernel
theorem d_MD_after_15 : decode b_MD_after 15 = .ok (.aload_n 0, 1) := by decide +kernel
theorem d_MD_after_16 : decode b_MD_after 16 = .ok (.iconst 0, 1) := by decide +kernel
theorem d_MD_after_17 : decode b_MD_after 17 = .ok (.putfield 232, 3) := by decide +kernel
theorem d_MD_after_20 : decode b_MD_after 20 = .ok (.iconst 0, 1) := by decide +kernel
theorem d_MD_after_21 : decode b_MD_after 21 = .ok (.istore_n 3, 1) := by decide +kernel
theorem d_MD_after_22 : decode b_MD_after 22 = .ok (.iload_n 3, 1) := by decide +kernel
theorem d_MD_after_23 : decode b_MD_after 23 = .ok (.aload_n 0, 1) := by decide +kernel
theorem d_MD_after_24 : decode b_MD_after 24 = .ok (.getfield 73, 3) := by decide +kernel
theorem d_MD_after_27 : decode b_MD_after 27 = .ok (.if_icmp .ge 31, 3) := by decide +kernel
theorem d_MD_after_30 : decode b_MD_after 30 = .ok (.aload_n 0, 1) := by decide +kernel
theorem d_MD_after_31 : decode b_MD_after 31 = .ok (.aload_n 0, 1) := by decide +kernel
theorem d_MD_after_32 : decode b_MD_after 32 = .ok (.getfield 7, 3) := by decide +kernel
theorem d_MD_after_35 : decode b_MD_after 35 = .ok (.iload_n 3, 1) := by decide +kernel
theorem d_MD_after_36 : decode b_MD_after 36 = .ok (.laload, 1) := by decide +kernel
theorem d_MD_after_37 : decode b_MD_after 37 = .ok (.aload_n 0, 1) := by decide +kernel
theorem d_MD_after_38 : decode b_MD_after 38 = .ok (.getfield 13, 3) := by decide +kernel
theorem d_MD_after_41 : decode b_MD_after 41 = .ok (.iload_n 3, 1) := by decide +kernel
theorem d_MD_after_42 : decode b_MD_after 42 = .ok (.laload, 1) := by decide +kernel
theorem d_MD_after_43 : decode b_MD_after 43 = .ok (.aload_n 0, 1) := by decide +kernel
theorem d_MD_after_44 : decode b_MD_after 44 = .ok (.getfield 16, 3) := by decide +kernel
theorem d_MD_after_47 : decode b_MD_after 47 = .ok (.iload_n 3, 1) := by decide +kernel
theorem d_MD_after_48 : decode b_MD_after 48 = .ok (.iaload, 1) := by decide +kernel
theorem d_MD_after_49 : decode b_MD_after 49 = .ok (.invokevirtual 235, 3) := by decide +kernel
theorem d_MD_after_52 : decode b_MD_after 52 = .ok (.iinc 3 1, 3) := by decide +kernel
theorem d_MD_after_55 : decode b_MD_after 55 = .ok (.goto (-33), 3) := by decide +kernel
theorem d_MD_after_58 : decode b_MD_after 58 = .ok (.iconst 0, 1) := by decide +kernel
theorem d_MD_after_59 : decode b_MD_after 59 = .ok (.istore_n 3, 1) := by decide +kernel
theorem d_MD_after_60 : decode b_MD_after 60 = .ok (.iload_n 3, 1) := by decide +kernel
theorem d_MD_after_61 : decode b_MD_after 61 = .ok (.aload_n 0, 1) := by decide +kernel
theorem d_MD_after_62 : decode b_MD_after 62 = .ok (.getfield 136, 3) := by decide +kernel
theorem d_MD_after_65 : decode b_MD_after 65 = .ok (.if_icmp .ge 22, 3) := by decide +kernel
theorem d_MD_after_68 : decode b_MD_after 68 = .ok (.aload_n 0, 1) := by decide +kernel
theorem d_MD_after_69 : decode b_MD_after 69 = .ok (.getfield 170, 3) := by decide +kernel
theorem d_MD_after_72 : decode b_MD_after 72 = .ok (.ifCond .ne 15, 3) := by decide +kernel
theorem d_MD_after_75 : decode b_MD_after 75 = .ok (.aload_n 0, 1) := by decide +kernel
theorem d_MD_after_76 : decode b_MD_after 76 = .ok (.iload_n 3, 1) := by decide +kernel
theorem d_MD_after_77 : decode b_MD_after 77 = .ok (.iconst 1, 1) := by decide +kernel
theorem d_MD_after_78 : decode b_MD_after 78 = .ok (.invokevirtual 238, 3) := by decide +kernel
theorem d_MD_after_81 : decode b_MD_after 81 = .ok (.iinc 3 1, 3) := by decide +kernel
theorem d_MD_after_84 : decode b_MD_after 84 = .ok (.goto (-24), 3) := by decide +kernel
theorem d_MD_after_87 : decode b_MD_after 87 = .ok (.aload_n 0, 1) := by decide +kernel
theorem d_MD_after_88 : decode b_MD_after 88 = .ok (.getfield 170, 3) := by decide +kernel
theorem d_MD_after_91 : decode b_MD_after 91 = .ok (.ifCond .eq 10, 3) := by decide +kernel
theorem d_MD_after_94 : decode b_MD_after 94 = .ok (.aload_n 0, 1) := by decide +kernel
theorem d_MD_after_95 : decode b_MD_after 95 = .ok (.iconst 1, 1) := by decide +kernel
theorem d_MD_after_96 : decode b_MD_after 96 = .ok (.putfield 70, 3) := by decide +kernel
theorem d_MD_after_99 : decode b_MD_after 99 = .ok (.lconst 0, 1) := by decide +kernel
theorem d_MD_after_100 : decode b_MD_after 100 = .ok (.lreturn, 1) := by decide +kernel
theorem d_MD_after_101 : decode b_MD_after 101 = .ok (.iconst 0, 1) := by decide +kernel
theorem d_MD_after_102 : decode b_MD_after 102 = .ok (.istore_n 3, 1) := by decide +kernel
theorem d_MD_after_103 : decode b_MD_after 103 = .ok (.iload_n 3, 1) := by decide +kernel
theorem d_MD_after_104 : decode b_MD_after 104 = .ok (.aload_n 0, 1) := by decide +kernel
theorem d_MD_after_105 : decode b_MD_after 105 = .ok (.getfield 232, 3) := by decide +kernel
theorem d_MD_after_108 : decode b_MD_after 108 = .ok (.if_icmp .ge 39, 3) := by decide +kernel
theorem d_MD_after_111 : decode b_MD_after 111 = .ok (.aload_n 0, 1) := by decide +kernel
theorem d_MD_after_112 : decode b_MD_after 112 = .ok (.getfield 52, 3) := by decide +kernel
theorem d_MD_after_115 : decode b_MD_after 115 = .ok (.iload_n 3, 1) := by decide +kernel
theorem d_MD_after_116 : decode b_MD_after 116 = .ok (.laload, 1) := by decide +kernel
theorem d_MD_after_117 : decode b_MD_after 117 = .ok (.lload_n 1, 1) := by decide +kernel
theorem d_MD_after_118 : decode b_MD_after 118 = .ok (.lcmp, 1) := by decide +kernel
theorem d_MD_after_119 : decode b_MD_after 119 = .ok (.ifCond .le 22, 3) := by decide +kernel
theorem d_MD_after_122 : decode b_MD_after 122 = .ok (.aload_n 0, 1) := by decide +kernel
theorem d_MD_after_123 : decode b_MD_after 123 = .ok (.getfield 58, 3) := by decide +kernel
theorem d_MD_after_126 : decode b_MD_after 126 = .ok (.iload_n 3, 1) := by decide +kernel
theorem d_MD_after_127 : decode b_MD_after 127 = .ok (.iaload, 1) := by decide +kernel
theorem d_MD_after_128 : decode b_MD_after 128 = .ok (.sipush 255, 3) := by decide +kernel
theorem d_MD_after_131 : decode b_MD_after 131 = .ok (.if_icmp .eq 10, 3) := by decide +kernel
theorem d_MD_after_134 : decode b_MD_after 134 = .ok (.aload_n 0, 1) := by decide +kernel
theorem d_MD_after_135 : decode b_MD_after 135 = .ok (.getfield 52, 3) := by decide +kernel
theorem d_MD_after_138 : decode b_MD_after 138 = .ok (.iload_n 3, 1) := by decide +kernel
theorem d_MD_after_139 : decode b_MD_after 139 = .ok (.laload, 1) := by decide +kernel
theorem d_MD_after_140 : decode b_MD_after 140 = .ok (.lreturn, 1) := by decide +kernel
theorem d_MD_after_141 : decode b_MD_after 141 = .ok (.iinc 3 1, 3) := by decide +kernel
theorem d_MD_after_144 : decode b_MD_after 144 = .ok (.goto (-41), 3) := by decide +kernel
theorem d_MD_after_147 : decode b_MD_after 147 = .ok (.lload_n 1, 1) := by decide +kernel
theorem d_MD_after_148 : decode b_MD_after 148 = .ok (.lreturn, 1) := by decide +kernel
abbrev b_MD_come : ByteArray := prog_9_method_41_code
def y_MD_come : MethodName := ⟨"RunStoreModel", "come", "(JJI)V"⟩
theorem d_MD_come_0 : decode b_MD_come 0 = .ok (.iconst 0, 1) := by decide +kernel
theorem d_MD_come_1 : decode b_MD_come 1 = .ok (.istore 6, 2) := by decide +kernel
theorem d_MD_come_3 : decode b_MD_come 3 = .ok (.iload 6, 2) := by decide +kernel
theorem d_MD_come_5 : decode b_MD_come 5 = .ok (.aload_n 0, 1) := by decide +kernel
theorem d_MD_come_6 : decode b_MD_come 6 = .ok (.getfield 232, 3) := by decide +kernel
theorem d_MD_come_9 : decode b_MD_come 9 = .ok (.if_icmp .ge 21, 3) := by decide +kernel
theorem d_MD_come_12 : decode b_MD_come 12 = .ok (.aload_n 0, 1) := by decide +kernel
theorem d_MD_come_13 : decode b_MD_come 13 = .ok (.getfield 52, 3) := by decide +kernel
theorem d_MD_come_16 : decode b_MD_come 16 = .ok (.iload 6, 2) := by decide +kernel
theorem d_MD_come_18 : decode b_MD_come 18 = .ok (.laload, 1) := by decide +kernel
theorem d_MD_come_19 : decode b_MD_come 19 = .ok (.lload_n 1, 1) := by decide +kernel
theorem d_MD_come_20 : decode b_MD_come 20 = .ok (.lcmp, 1) := by decide +kernel
theorem d_MD_come_21 : decode b_MD_come 21 = .ok (.ifCond .ge 9, 3) := by decide +kernel
theorem d_MD_come_24 : decode b_MD_come 24 = .ok (.iinc 6 1, 3) := by decide +kernel
theorem d_MD_come_27 : decode b_MD_come 27 = .ok (.goto (-24), 3) := by decide +kernel
theorem d_MD_come_30 : decode b_MD_come 30 = .ok (.iload 6, 2) := by decide +kernel
theorem d_MD_come_32 : decode b_MD_come 32 = .ok (.aload_n 0, 1) := by decide +kernel
theorem d_MD_come_33 : decode b_MD_come 33 = .ok (.getfield 232, 3) := by decide +kernel
theorem d_MD_come_36 : decode b_MD_come 36 = .ok (.if_icmp .ge 16, 3) := by decide +kernel
theorem d_MD_come_39 : decode b_MD_come 39 = .ok (.aload_n 0, 1) := by decide +kernel
theorem d_MD_come_40 : decode b_MD_come 40 = .ok (.getfield 52, 3) := by decide +kernel
theorem d_MD_come_43 : decode b_MD_come 43 = .ok (.iload 6, 2) := by decide +kernel
theorem d_MD_come_45 : decode b_MD_come 45 = .ok (.laload, 1) := by decide +kernel
theorem d_MD_come_46 : decode b_MD_come 46 = .ok (.lload_n 1, 1) := by decide +kernel
theorem d_MD_come_47 : decode b_MD_come 47 = .ok (.lcmp, 1) := by decide +kernel
theorem d_MD_come_48 : decode b_MD_come 48 = .ok (.ifCond .ne 4, 3) := by decide +kernel
theorem d_MD_come_51 : decode b_MD_come 51 = .ok (.return_, 1) := by decide +kernel
theorem d_MD_come_52 : decode b_MD_come 52 = .ok (.aload_n 0, 1) := by decide +kernel
theorem d_MD_come_53 : decode b_MD_come 53 = .ok (.getfield 232, 3) := by decide +kernel
theorem d_MD_come_56 : decode b_MD_come 56 = .ok (.istore 7, 2) := by decide +kernel
theorem d_MD_come_58 : decode b_MD_come 58 = .ok (.iload 7, 2) := by decide +kernel
theorem d_MD_come_60 : decode b_MD_come 60 = .ok (.iload 6, 2) := by decide +kernel
theorem d_MD_come_62 : decode b_MD_come 62 = .ok (.if_icmp .le 57, 3) := by decide +kernel
theorem d_MD_come_65 : decode b_MD_come 65 = .ok (.aload_n 0, 1) := by decide +kernel
theorem d_MD_come_66 : decode b_MD_come 66 = .ok (.getfield 52, 3) := by decide +kernel
theorem d_MD_come_69 : decode b_MD_come 69 = .ok (.iload 7, 2) := by decide +kernel
theorem d_MD_come_71 : decode b_MD_come 71 = .ok (.aload_n 0, 1) := by decide +kernel
theorem d_MD_come_72 : decode b_MD_come 72 = .ok (.getfield 52, 3) := by decide +kernel
theorem d_MD_come_75 : decode b_MD_come 75 = .ok (.iload 7, 2) := by decide +kernel
theorem d_MD_come_77 : decode b_MD_come 77 = .ok (.iconst 1, 1) := by decide +kernel
theorem d_MD_come_78 : decode b_MD_come 78 = .ok (.isub, 1) := by decide +kernel
theorem d_MD_come_79 : decode b_MD_come 79 = .ok (.laload, 1) := by decide +kernel
theorem d_MD_come_80 : decode b_MD_come 80 = .ok (.lastore, 1) := by decide +kernel
theorem d_MD_come_81 : decode b_MD_come 81 = .ok (.aload_n 0, 1) := by decide +kernel
theorem d_MD_come_82 : decode b_MD_come 82 = .ok (.getfield 55, 3) := by decide +kernel
theorem d_MD_come_85 : decode b_MD_come 85 = .ok (.iload 7, 2) := by decide +kernel
theorem d_MD_come_87 : decode b_MD_come 87 = .ok (.aload_n 0, 1) := by decide +kernel
theorem d_MD_come_88 : decode b_MD_come 88 = .ok (.getfield 55, 3) := by decide +kernel
theorem d_MD_come_91 : decode b_MD_come 91 = .ok (.iload 7, 2) := by decide +kernel
theorem d_MD_come_93 : decode b_MD_come 93 = .ok (.iconst 1, 1) := by decide +kernel
theorem d_MD_come_94 : decode b_MD_come 94 = .ok (.isub, 1) := by decide +kernel
theorem d_MD_come_95 : decode b_MD_come 95 = .ok (.laload, 1) := by decide +kernel
theorem d_MD_come_96 : decode b_MD_come 96 = .ok (.lastore, 1) := by decide +kernel
theorem d_MD_come_97 : decode b_MD_come 97 = .ok (.aload_n 0, 1) := by decide +kernel
theorem d_MD_come_98 : decode b_MD_come 98 = .ok (.getfield 58, 3) := by decide +kernel
theorem d_MD_come_101 : decode b_MD_come 101 = .ok (.iload 7, 2) := by decide +kernel
theorem d_MD_come_103 : decode b_MD_come 103 = .ok (.aload_n 0, 1) := by decide +kernel
theorem d_MD_come_104 : decode b_MD_come 104 = .ok (.getfield 58, 3) := by decide +kernel
theorem d_MD_come_107 : decode b_MD_come 107 = .ok (.iload 7, 2) := by decide +kernel
theorem d_MD_come_109 : decode b_MD_come 109 = .ok (.iconst 1, 1) := by decide +kernel
theorem d_MD_come_110 : decode b_MD_come 110 = .ok (.isub, 1) := by decide +kernel
theorem d_MD_come_111 : decode b_MD_come 111 = .ok (.iaload, 1) := by decide +kernel
theorem d_MD_come_112 : decode b_MD_come 112 = .ok (.iastore, 1) := by decide +kernel
theorem d_MD_come_113 : decode b_MD_come 113 = .ok (.iinc 7 (-1), 3) := by decide +kernel
theorem d_MD_come_116 : decode b_MD_come 116 = .ok (.goto (-58), 3) := by decide +kernel
theorem d_MD_come_119 : decode b_MD_come 119 = .ok (.aload_n 0, 1) := by decide +kernel
theorem d_MD_come_120 : decode b_MD_come 120 = .ok (.getfield 52, 3) := by decide +kernel
theorem d_MD_come_123 : decode b_MD_come 123 = .ok (.iload 6, 2) := by decide +kernel
theorem d_MD_come_125 : decode b_MD_come 125 = .ok (.lload_n 1, 1) := by decide +kernel
theorem d_MD_come_126 : decode b_MD_come 126 = .ok (.lastore, 1) := by decide +kernel
theorem d_MD_come_127 : decode b_MD_come 127 = .ok (.aload_n 0, 1) := by decide +kernel
theorem d_MD_come_128 : decode b_MD_come 128 = .ok (.getfield 55, 3) := by decide +kernel
theorem d_MD_come_131 : decode b_MD_come 131 = .ok (.iload 6, 2) := by decide +kernel
theorem d_MD_come_133 : decode b_MD_come 133 = .ok (.lload_n 3, 1) := by decide +kernel
theorem d_MD_come_134 : decode b_MD_come 134 = .ok (.lastore, 1) := by decide +kernel
theorem d_MD_come_135 : decode b_MD_come 135 = .ok (.aload_n 0, 1) := by decide +kernel
theorem d_MD_come_136 : decode b_MD_come 136 = .ok (.getfield 58, 3) := by decide +kernel
theorem d_MD_come_139 : decode b_MD_come 139 = .ok (.iload 6, 2) := by decide +kernel
theorem d_MD_come_141 : decode b_MD_come 141 = .ok (.iload 5, 2) := by decide +kernel
theorem d_MD_come_143 : decode b_MD_come 143 = .ok (.iastore, 1) := by decide +kernel
theorem d_MD_come_144 : decode b_MD_come 144 = .ok (.aload_n 0, 1) := by decide +kernel
theorem d_MD_come_145 : decode b_MD_come 145 = .ok (.dup, 1) := by decide +kernel
theorem d_MD_come_146 : decode b_MD_come 146 = .ok (.getfield 232, 3) := by decide +kernel
theorem d_MD_come_149 : decode b_MD_come 149 = .ok (.iconst 1, 1) := by decide +kernel
theorem d_MD_come_150 : decode b_MD_come 150 = .ok (.iadd, 1) := by decide +kernel
theorem d_MD_come_151 : decode b_MD_come 151 = .ok (.putfield 232, 3) := by decide +kernel
theorem d_MD_come_154 : decode b_MD_come 154 = .ok (.return_, 1) := by decide +kernel
abbrev b_MD_readAll : ByteArray := prog_9_method_42_code
def y_MD_readAll : MethodName := ⟨"RunStoreModel", "readAll", "(IZ)V"⟩
theorem d_MD_readAll_0 : decode b_MD_readAll 0 = .ok (.aload_n 0, 1) := by decide +kernel
theorem d_MD_readAll_1 : decode b_MD_readAll 1 = .ok (.iload_n 2, 1) := by decide +kernel
theorem d_MD_readAll_2 : decode b_MD_readAll 2 = .ok (.invokevirtual 206, 3) := by decide +kernel
theorem d_MD_readAll_5 : decode b_MD_readAll 5 = .ok (.iconst 0, 1) := by decide +kernel
theorem d_MD_readAll_6 : decode b_MD_readAll 6 = .ok (.istore_n 3, 1) := by decide +kernel
theorem d_MD_readAll_7 : decode b_MD_readAll 7 = .ok (.iload_n 3, 1) := by decide +kernel
theorem d_MD_readAll_8 : decode b_MD_readAll 8 = .ok (.aload_n 0, 1) := by decide +kernel
theorem d_MD_readAll_9 : decode b_MD_readAll 9 = .ok (.getfield 36, 3) := by decide +kernel
theorem d_MD_readAll_12 : decode b_MD_readAll 12 = .ok (.iload_n 1, 1) := by decide +kernel
theorem d_MD_readAll_13 : decode b_MD_readAll 13 = .ok (.iaload, 1) := by decide +kernel
theorem d_MD_readAll_14 : decode b_MD_readAll 14 = .ok (.if_icmp .ge 44, 3) := by decide +kernel
theorem d_MD_readAll_17 : decode b_MD_readAll 17 = .ok (.aload_n 0, 1) := by decide +kernel
theorem d_MD_readAll_18 : decode b_MD_readAll 18 = .ok (.getfield 170, 3) := by decide +kernel
theorem d_MD_readAll_21 : decode b_MD_readAll 21 = .ok (.ifCond .ne 37, 3) := by decide +kernel
theorem d_MD_readAll_24 : decode b_MD_readAll 24 = .ok (.aload_n 0, 1) := by decide +kernel
theorem d_MD_readAll_25 : decode b_MD_readAll 25 = .ok (.iload_n 1, 1) := by decide +kernel
theorem d_MD_readAll_26 : decode b_MD_readAll 26 = .ok (.invokevirtual 210, 3) := by decide +kernel
theorem d_MD_readAll_29 : decode b_MD_readAll 29 = .ok (.aload_n 0, 1) := by decide +kernel
theorem d_MD_readAll_30 : decode b_MD_readAll 30 = .ok (.getfield 170, 3) := by decide +kernel
theorem d_MD_readAll_33 : decode b_MD_readAll 33 = .ok (.ifCond .ne 19, 3) := by decide +kernel
theorem d_MD_readAll_36 : decode b_MD_readAll 36 = .ok (.aload_n 0, 1) := by decide +kernel
theorem d_MD_readAll_37 : decode b_MD_readAll 37 = .ok (.aload_n 0, 1) := by decide +kernel
theorem d_MD_readAll_38 : decode b_MD_readAll 38 = .ok (.getfield 193, 3) := by decide +kernel
theorem d_MD_readAll_41 : decode b_MD_readAll 41 = .ok (.aload_n 0, 1) := by decide +kernel
theorem d_MD_readAll_42 : decode b_MD_readAll 42 = .ok (.getfield 203, 3) := by decide +kernel
theorem d_MD_readAll_45 : decode b_MD_readAll 45 = .ok (.aload_n 0, 1) := by decide +kernel
theorem d_MD_readAll_46 : decode b_MD_readAll 46 = .ok (.getfield 200, 3) := by decide +kernel
theorem d_MD_readAll_49 : decode b_MD_readAll 49 = .ok (.invokevirtual 235, 3) := by decide +kernel
theorem d_MD_readAll_52 : decode b_MD_readAll 52 = .ok (.iinc 3 1, 3) := by decide +kernel
theorem d_MD_readAll_55 : decode b_MD_readAll 55 = .ok (.goto (-48), 3) := by decide +kernel
theorem d_MD_readAll_58 : decode b_MD_readAll 58 = .ok (.return_, 1) := by decide +kernel
abbrev b_MD_join : ByteArray := prog_9_method_48_code
def y_MD_join : MethodName := ⟨"RunStoreModel", "join", "(I)I"⟩
theorem d_MD_join_0 : decode b_MD_join 0 = .ok (.aload_n 0, 1) := by decide +kernel
theorem d_MD_join_1 : decode b_MD_join 1 = .ok (.iconst 0, 1) := by decide +kernel
theorem d_MD_join_2 : decode b_MD_join 2 = .ok (.putfield 70, 3) := by decide +kernel
theorem d_MD_join_5 : decode b_MD_join 5 = .ok (.iload_n 1, 1) := by decide +kernel
theorem d_MD_join_6 : decode b_MD_join 6 = .ok (.iconst 0, 1) := by decide +kernel
theorem d_MD_join_7 : decode b_MD_join 7 = .ok (.iconst 2, 1) := by decide +kernel
theorem d_MD_join_8 : decode b_MD_join 8 = .ok (.invokestatic 109, 3) := by decide +kernel
theorem d_MD_join_11 : decode b_MD_join 11 = .ok (.ifCond .ne 9, 3) := by decide +kernel
theorem d_MD_join_14 : decode b_MD_join 14 = .ok (.aload_n 0, 1) := by decide +kernel
theorem d_MD_join_15 : decode b_MD_join 15 = .ok (.iconst 1, 1) := by decide +kernel
theorem d_MD_join_16 : decode b_MD_join 16 = .ok (.invokevirtual 113, 3) := by decide +kernel
theorem d_MD_join_19 : decode b_MD_join 19 = .ok (.ireturn, 1) := by decide +kernel
theorem d_MD_join_20 : decode b_MD_join 20 = .ok (.aload_n 0, 1) := by decide +kernel
theorem d_MD_join_21 : decode b_MD_join 21 = .ok (.iload_n 1, 1) := by decide +kernel
theorem d_MD_join_22 : decode b_MD_join 22 = .ok (.invokevirtual 245, 3) := by decide +kernel
theorem d_MD_join_25 : decode b_MD_join 25 = .ok (.ifCond .ne 9, 3) := by decide +kernel
theorem d_MD_join_28 : decode b_MD_join 28 = .ok (.aload_n 0, 1) := by decide +kernel
theorem d_MD_join_29 : decode b_MD_join 29 = .ok (.iconst 2, 1) := by decide +kernel
theorem d_MD_join_30 : decode b_MD_join 30 = .ok (.invokevirtual 113, 3) := by decide +kernel
theorem d_MD_join_33 : decode b_MD_join 33 = .ok (.ireturn, 1) := by decide +kernel
theorem d_MD_join_34 : decode b_MD_join 34 = .ok (.aload_n 0, 1) := by decide +kernel
theorem d_MD_join_35 : decode b_MD_join 35 = .ok (.iconst 0, 1) := by decide +kernel
theorem d_MD_join_36 : decode b_MD_join 36 = .ok (.putfield 170, 3) := by decide +kernel
theorem d_MD_join_39 : decode b_MD_join 39 = .ok (.aload_n 0, 1) := by decide +kernel
theorem d_MD_join_40 : decode b_MD_join 40 = .ok (.iconst (-1), 1) := by decide +kernel
theorem d_MD_join_41 : decode b_MD_join 41 = .ok (.putfield 48, 3) := by decide +kernel
theorem d_MD_join_44 : decode b_MD_join 44 = .ok (.aload_n 0, 1) := by decide +kernel
theorem d_MD_join_45 : decode b_MD_join 45 = .ok (.iload_n 1, 1) := by decide +kernel
theorem d_MD_join_46 : decode b_MD_join 46 = .ok (.invokevirtual 248, 3) := by decide +kernel
theorem d_MD_join_49 : decode b_MD_join 49 = .ok (.aload_n 0, 1) := by decide +kernel
theorem d_MD_join_50 : decode b_MD_join 50 = .ok (.getfield 170, 3) := by decide +kernel
theorem d_MD_join_53 : decode b_MD_join 53 = .ok (.ifCond .eq 9, 3) := by decide +kernel
theorem d_MD_join_56 : decode b_MD_join 56 = .ok (.aload_n 0, 1) := by decide +kernel
theorem d_MD_join_57 : decode b_MD_join 57 = .ok (.iconst 2, 1) := by decide +kernel
theorem d_MD_join_58 : decode b_MD_join 58 = .ok (.invokevirtual 113, 3) := by decide +kernel
theorem d_MD_join_61 : decode b_MD_join 61 = .ok (.ireturn, 1) := by decide +kernel
theorem d_MD_join_62 : decode b_MD_join 62 = .ok (.aload_n 0, 1) := by decide +kernel
theorem d_MD_join_63 : decode b_MD_join 63 = .ok (.iload_n 1, 1) := by decide +kernel
theorem d_MD_join_64 : decode b_MD_join 64 = .ok (.iconst 1, 1) := by decide +kernel
theorem d_MD_join_65 : decode b_MD_join 65 = .ok (.iadd, 1) := by decide +kernel
theorem d_MD_join_66 : decode b_MD_join 66 = .ok (.invokevirtual 251, 3) := by decide +kernel
theorem d_MD_join_69 : decode b_MD_join 69 = .ok (.istore_n 2, 1) := by decide +kernel
theorem d_MD_join_70 : decode b_MD_join 70 = .ok (.aload_n 0, 1) := by decide +kernel
theorem d_MD_join_71 : decode b_MD_join 71 = .ok (.iconst 0, 1) := by decide +kernel
theorem d_MD_join_72 : decode b_MD_join 72 = .ok (.putfield 130, 3) := by decide +kernel
theorem d_MD_join_75 : decode b_MD_join 75 = .ok (.iconst 0, 1) := by decide +kernel
theorem d_MD_join_76 : decode b_MD_join 76 = .ok (.istore_n 3, 1) := by decide +kernel
theorem d_MD_join_77 : decode b_MD_join 77 = .ok (.lconst 0, 1) := by decide +kernel
theorem d_MD_join_78 : decode b_MD_join 78 = .ok (.lstore 4, 2) := by decide +kernel
theorem d_MD_join_80 : decode b_MD_join 80 = .ok (.iconst 0, 1) := by decide +kernel
theorem d_MD_join_81 : decode b_MD_join 81 = .ok (.istore 6, 2) := by decide +kernel
theorem d_MD_join_83 : decode b_MD_join 83 = .ok (.iload 6, 2) := by decide +kernel
theorem d_MD_join_85 : decode b_MD_join 85 = .ok (.aload_n 0, 1) := by decide +kernel
theorem d_MD_join_86 : decode b_MD_join 86 = .ok (.getfield 232, 3) := by decide +kernel
theorem d_MD_join_89 : decode b_MD_join 89 = .ok (.if_icmp .ge 69, 3) := by decide +kernel
theorem d_MD_join_92 : decode b_MD_join 92 = .ok (.iload_n 2, 1) := by decide +kernel
theorem d_MD_join_93 : decode b_MD_join 93 = .ok (.ifCond .ne 16, 3) := by decide +kernel
theorem d_MD_join_96 : decode b_MD_join 96 = .ok (.aload_n 0, 1) := by decide +kernel
theorem d_MD_join_97 : decode b_MD_join 97 = .ok (.getfield 58, 3) := by decide +kernel
theorem d_MD_join_100 : decode b_MD_join 100 = .ok (.iload 6, 2) := by decide +kernel
theorem d_MD_join_102 : decode b_MD_join 102 = .ok (.iaload, 1) := by decide +kernel
theorem d_MD_join_103 : decode b_MD_join 103 = .ok (.sipush 255, 3) := by decide +kernel
theorem d_MD_join_106 : decode b_MD_join 106 = .ok (.if_icmp .eq 46, 3) := by decide +kernel
theorem d_MD_join_109 : decode b_MD_join 109 = .ok (.aload_n 0, 1) := by decide +kernel
theorem d_MD_join_110 : decode b_MD_join 110 = .ok (.aload_n 0, 1) := by decide +kernel
theorem d_MD_join_111 : decode b_MD_join 111 = .ok (.getfield 52, 3) := by decide +kernel
theorem d_MD_join_114 : decode b_MD_join 114 = .ok (.iload 6, 2) := by decide +kernel
theorem d_MD_join_116 : decode b_MD_join 116 = .ok (.laload, 1) := by decide +kernel
theorem d_MD_join_117 : decode b_MD_join 117 = .ok (.aload_n 0, 1) := by decide +kernel
theorem d_MD_join_118 : decode b_MD_join 118 = .ok (.getfield 55, 3) := by decide +kernel
theorem d_MD_join_121 : decode b_MD_join 121 = .ok (.iload 6, 2) := by decide +kernel
theorem d_MD_join_123 : decode b_MD_join 123 = .ok (.laload, 1) := by decide +kernel
theorem d_MD_join_124 : decode b_MD_join 124 = .ok (.aload_n 0, 1) := by decide +kernel
theorem d_MD_join_125 : decode b_MD_join 125 = .ok (.getfield 58, 3) := by decide +kernel
theorem d_MD_join_128 : decode b_MD_join 128 = .ok (.iload 6, 2) := by decide +kernel
theorem d_MD_join_130 : decode b_MD_join 130 = .ok (.iaload, 1) := by decide +kernel
theorem d_MD_join_131 : decode b_MD_join 131 = .ok (.invokevirtual 149, 3) := by decide +kernel
theorem d_MD_join_134 : decode b_MD_join 134 = .ok (.lload 4, 2) := by decide +kernel
theorem d_MD_join_136 : decode b_MD_join 136 = .ok (.aload_n 0, 1) := by decide +kernel
theorem d_MD_join_137 : decode b_MD_join 137 = .ok (.getfield 52, 3) := by decide +kernel
theorem d_MD_join_140 : decode b_MD_join 140 = .ok (.iload 6, 2) := by decide +kernel
theorem d_MD_join_142 : decode b_MD_join 142 = .ok (.laload, 1) := by decide +kernel
theorem d_MD_join_143 : decode b_MD_join 143 = .ok (.invokestatic 152, 3) := by decide +kernel
theorem d_MD_join_146 : decode b_MD_join 146 = .ok (.lor, 1) := by decide +kernel
theorem d_MD_join_147 : decode b_MD_join 147 = .ok (.lstore 4, 2) := by decide +kernel
theorem d_MD_join_149 : decode b_MD_join 149 = .ok (.iinc 3 1, 3) := by decide +kernel
theorem d_MD_join_152 : decode b_MD_join 152 = .ok (.iinc 6 1, 3) := by decide +kernel
theorem d_MD_join_155 : decode b_MD_join 155 = .ok (.goto (-72), 3) := by decide +kernel
theorem d_MD_join_158 : decode b_MD_join 158 = .ok (.aload_n 0, 1) := by decide +kernel
theorem d_MD_join_159 : decode b_MD_join 159 = .ok (.getfield 130, 3) := by decide +kernel
theorem d_MD_join_162 : decode b_MD_join 162 = .ok (.invokestatic 143, 3) := by decide +kernel
theorem d_MD_join_165 : decode b_MD_join 165 = .ok (.aload_n 0, 1) := by decide +kernel
theorem d_MD_join_166 : decode b_MD_join 166 = .ok (.invokevirtual 156, 3) := by decide +kernel
theorem d_MD_join_169 : decode b_MD_join 169 = .ok (.if_icmp .le 9, 3) := by decide +kernel
theorem d_MD_join_172 : decode b_MD_join 172 = .ok (.aload_n 0, 1) := by decide +kernel
theorem d_MD_join_173 : decode b_MD_join 173 = .ok (.iconst 3, 1) := by decide +kernel
theorem d_MD_join_174 : decode b_MD_join 174 = .ok (.invokevirtual 113, 3) := by decide +kernel
theorem d_MD_join_177 : decode b_MD_join 177 = .ok (.ireturn, 1) := by decide +kernel
theorem d_MD_join_178 : decode b_MD_join 178 = .ok (.aload_n 0, 1) := by decide +kernel
theorem d_MD_join_179 : decode b_MD_join 179 = .ok (.invokevirtual 160, 3) := by decide +kernel
theorem d_MD_join_182 : decode b_MD_join 182 = .ok (.aload_n 0, 1) := by decide +kernel
theorem d_MD_join_183 : decode b_MD_join 183 = .ok (.getfield 136, 3) := by decide +kernel
theorem d_MD_join_186 : decode b_MD_join 186 = .ok (.iconst 1, 1) := by decide +kernel
theorem d_MD_join_187 : decode b_MD_join 187 = .ok (.isub, 1) := by decide +kernel
theorem d_MD_join_188 : decode b_MD_join 188 = .ok (.istore 6, 2) := by decide +kernel
theorem d_MD_join_190 : decode b_MD_join 190 = .ok (.iload 6, 2) := by decide +kernel
theorem d_MD_join_192 : decode b_MD_join 192 = .ok (.ifCond .lt 25, 3) := by decide +kernel
theorem d_MD_join_195 : decode b_MD_join 195 = .ok (.aload_n 0, 1) := by decide +kernel
theorem d_MD_join_196 : decode b_MD_join 196 = .ok (.iload 6, 2) := by decide +kernel
theorem d_MD_join_198 : decode b_MD_join 198 = .ok (.iload_n 1, 1) := by decide +kernel
theorem d_MD_join_199 : decode b_MD_join 199 = .ok (.invokevirtual 242, 3) := by decide +kernel
theorem d_MD_join_202 : decode b_MD_join 202 = .ok (.ifCond .eq 9, 3) := by decide +kernel
theorem d_MD_join_205 : decode b_MD_join 205 = .ok (.aload_n 0, 1) := by decide +kernel
theorem d_MD_join_206 : decode b_MD_join 206 = .ok (.iload 6, 2) := by decide +kernel
theorem d_MD_join_208 : decode b_MD_join 208 = .ok (.invokevirtual 255, 3) := by decide +kernel
theorem d_MD_join_211 : decode b_MD_join 211 = .ok (.iinc 6 (-1), 3) := by decide +kernel
theorem d_MD_join_214 : decode b_MD_join 214 = .ok (.goto (-24), 3) := by decide +kernel
theorem d_MD_join_217 : decode b_MD_join 217 = .ok (.iload_n 3, 1) := by decide +kernel
theorem d_MD_join_218 : decode b_MD_join 218 = .ok (.ifCond .ne 5, 3) := by decide +kernel
theorem d_MD_join_221 : decode b_MD_join 221 = .ok (.iconst 0, 1) := by decide +kernel
theorem d_MD_join_222 : decode b_MD_join 222 = .ok (.ireturn, 1) := by decide +kernel
theorem d_MD_join_223 : decode b_MD_join 223 = .ok (.iconst 0, 1) := by decide +kernel
theorem d_MD_join_224 : decode b_MD_join 224 = .ok (.istore 6, 2) := by decide +kernel
theorem d_MD_join_226 : decode b_MD_join 226 = .ok (.iload 6, 2) := by decide +kernel
theorem d_MD_join_228 : decode b_MD_join 228 = .ok (.aload_n 0, 1) := by decide +kernel
theorem d_MD_join_229 : decode b_MD_join 229 = .ok (.getfield 136, 3) := by decide +kernel
theorem d_MD_join_232 : decode b_MD_join 232 = .ok (.if_icmp .ge 20, 3) := by decide +kernel
theorem d_MD_join_235 : decode b_MD_join 235 = .ok (.aload_n 0, 1) := by decide +kernel
theorem d_MD_join_236 : decode b_MD_join 236 = .ok (.getfield 33, 3) := by decide +kernel
theorem d_MD_join_239 : decode b_MD_join 239 = .ok (.iload 6, 2) := by decide +kernel
theorem d_MD_join_241 : decode b_MD_join 241 = .ok (.iaload, 1) := by decide +kernel
theorem d_MD_join_242 : decode b_MD_join 242 = .ok (.iload_n 1, 1) := by decide +kernel
theorem d_MD_join_243 : decode b_MD_join 243 = .ok (.if_icmp .gt 9, 3) := by decide +kernel
theorem d_MD_join_246 : decode b_MD_join 246 = .ok (.iinc 6 1, 3) := by decide +kernel
theorem d_MD_join_249 : decode b_MD_join 249 = .ok (.goto (-23), 3) := by decide +kernel
theorem d_MD_join_252 : decode b_MD_join 252 = .ok (.aload_n 0, 1) := by decide +kernel
theorem d_MD_join_253 : decode b_MD_join 253 = .ok (.iload 6, 2) := by decide +kernel
theorem d_MD_join_255 : decode b_MD_join 255 = .ok (.invokevirtual 163, 3) := by decide +kernel
theorem d_MD_join_258 : decode b_MD_join 258 = .ok (.aload_n 0, 1) := by decide +kernel
theorem d_MD_join_259 : decode b_MD_join 259 = .ok (.iload 6, 2) := by decide +kernel
theorem d_MD_join_261 : decode b_MD_join 261 = .ok (.iload_n 1, 1) := by decide +kernel
theorem d_MD_join_262 : decode b_MD_join 262 = .ok (.iconst 1, 1) := by decide +kernel
theorem d_MD_join_263 : decode b_MD_join 263 = .ok (.iadd, 1) := by decide +kernel
theorem d_MD_join_264 : decode b_MD_join 264 = .ok (.iload_n 3, 1) := by decide +kernel
theorem d_MD_join_265 : decode b_MD_join 265 = .ok (.lload 4, 2) := by decide +kernel
theorem d_MD_join_267 : decode b_MD_join 267 = .ok (.invokevirtual 166, 3) := by decide +kernel
theorem d_MD_join_270 : decode b_MD_join 270 = .ok (.iload_n 3, 1) := by decide +kernel
theorem d_MD_join_271 : decode b_MD_join 271 = .ok (.ireturn, 1) := by decide +kernel
abbrev b_MD_tablesOf : ByteArray := prog_9_method_45_code
def y_MD_tablesOf : MethodName := ⟨"RunStoreModel", "tablesOf", "(I)I"⟩
theorem d_MD_tablesOf_0 : decode b_MD_tablesOf 0 = .ok (.iconst 0, 1) := by decide +kernel
theorem d_MD_tablesOf_1 : decode b_MD_tablesOf 1 = .ok (.istore_n 2, 1) := by decide +kernel
theorem d_MD_tablesOf_2 : decode b_MD_tablesOf 2 = .ok (.iconst 0, 1) := by decide +kernel
theorem d_MD_tablesOf_3 : decode b_MD_tablesOf 3 = .ok (.istore_n 3, 1) := by decide +kernel
theorem d_MD_tablesOf_4 : decode b_MD_tablesOf 4 = .ok (.iload_n 3, 1) := by decide +kernel
theorem d_MD_tablesOf_5 : decode b_MD_tablesOf 5 = .ok (.aload_n 0, 1) := by decide +kernel
theorem d_MD_tablesOf_6 : decode b_MD_tablesOf 6 = .ok (.getfield 136, 3) := by decide +kernel
theorem d_MD_tablesOf_9 : decode b_MD_tablesOf 9 = .ok (.if_icmp .ge 27, 3) := by decide +kernel
theorem d_MD_tablesOf_12 : decode b_MD_tablesOf 12 = .ok (.iload_n 2, 1) := by decide +kernel
theorem d_MD_tablesOf_13 : decode b_MD_tablesOf 13 = .ok (.aload_n 0, 1) := by decide +kernel
theorem d_MD_tablesOf_14 : decode b_MD_tablesOf 14 = .ok (.getfield 33, 3) := by decide +kernel
theorem d_MD_tablesOf_17 : decode b_MD_tablesOf 17 = .ok (.iload_n 3, 1) := by decide +kernel
theorem d_MD_tablesOf_18 : decode b_MD_tablesOf 18 = .ok (.iaload, 1) := by decide +kernel
theorem d_MD_tablesOf_19 : decode b_MD_tablesOf 19 = .ok (.iload_n 1, 1) := by decide +kernel
theorem d_MD_tablesOf_20 : decode b_MD_tablesOf 20 = .ok (.if_icmp .ne 7, 3) := by decide +kernel
theorem d_MD_tablesOf_23 : decode b_MD_tablesOf 23 = .ok (.iconst 1, 1) := by decide +kernel
theorem d_MD_tablesOf_24 : decode b_MD_tablesOf 24 = .ok (.goto 4, 3) := by decide +kernel
theorem d_MD_tablesOf_27 : decode b_MD_tablesOf 27 = .ok (.iconst 0, 1) := by decide +kernel
theorem d_MD_tablesOf_28 : decode b_MD_tablesOf 28 = .ok (.iadd, 1) := by decide +kernel
theorem d_MD_tablesOf_29 : decode b_MD_tablesOf 29 = .ok (.istore_n 2, 1) := by decide +kernel
theorem d_MD_tablesOf_30 : decode b_MD_tablesOf 30 = .ok (.iinc 3 1, 3) := by decide +kernel
theorem d_MD_tablesOf_33 : decode b_MD_tablesOf 33 = .ok (.goto (-29), 3) := by decide +kernel
theorem d_MD_tablesOf_36 : decode b_MD_tablesOf 36 = .ok (.iload_n 2, 1) := by decide +kernel
theorem d_MD_tablesOf_37 : decode b_MD_tablesOf 37 = .ok (.ireturn, 1) := by decide +kernel
abbrev b_MD_gather : ByteArray := prog_9_method_47_code
def y_MD_gather : MethodName := ⟨"RunStoreModel", "gather", "(I)V"⟩
theorem d_MD_gather_0 : decode b_MD_gather 0 = .ok (.aload_n 0, 1) := by decide +kernel
theorem d_MD_gather_1 : decode b_MD_gather 1 = .ok (.iconst 0, 1) := by decide +kernel
theorem d_MD_gather_2 : decode b_MD_gather 2 = .ok (.putfield 232, 3) := by decide +kernel
theorem d_MD_gather_5 : decode b_MD_gather 5 = .ok (.iconst 0, 1) := by decide +kernel
theorem d_MD_gather_6 : decode b_MD_gather 6 = .ok (.istore_n 2, 1) := by decide +kernel
theorem d_MD_gather_7 : decode b_MD_gather 7 = .ok (.iload_n 2, 1) := by decide +kernel
theorem d_MD_gather_8 : decode b_MD_gather 8 = .ok (.aload_n 0, 1) := by decide +kernel
theorem d_MD_gather_9 : decode b_MD_gather 9 = .ok (.getfield 136, 3) := by decide +kernel
theorem d_MD_gather_12 : decode b_MD_gather 12 = .ok (.if_icmp .ge 57, 3) := by decide +kernel
theorem d_MD_gather_15 : decode b_MD_gather 15 = .ok (.aload_n 0, 1) := by decide +kernel
theorem d_MD_gather_16 : decode b_MD_gather 16 = .ok (.getfield 170, 3) := by decide +kernel
theorem d_MD_gather_19 : decode b_MD_gather 19 = .ok (.ifCond .ne 50, 3) := by decide +kernel
theorem d_MD_gather_22 : decode b_MD_gather 22 = .ok (.iconst 0, 1) := by decide +kernel
theorem d_MD_gather_23 : decode b_MD_gather 23 = .ok (.istore_n 3, 1) := by decide +kernel
theorem d_MD_gather_24 : decode b_MD_gather 24 = .ok (.aload_n 0, 1) := by decide +kernel
theorem d_MD_gather_25 : decode b_MD_gather 25 = .ok (.iload_n 2, 1) := by decide +kernel
theorem d_MD_gather_26 : decode b_MD_gather 26 = .ok (.iload_n 1, 1) := by decide +kernel
theorem d_MD_gather_27 : decode b_MD_gather 27 = .ok (.invokevirtual 242, 3) := by decide +kernel
theorem d_MD_gather_30 : decode b_MD_gather 30 = .ok (.ifCond .eq 33, 3) := by decide +kernel
theorem d_MD_gather_33 : decode b_MD_gather 33 = .ok (.iload_n 3, 1) := by decide +kernel
theorem d_MD_gather_34 : decode b_MD_gather 34 = .ok (.aload_n 0, 1) := by decide +kernel
theorem d_MD_gather_35 : decode b_MD_gather 35 = .ok (.getfield 39, 3) := by decide +kernel
theorem d_MD_gather_38 : decode b_MD_gather 38 = .ok (.iload_n 2, 1) := by decide +kernel
theorem d_MD_gather_39 : decode b_MD_gather 39 = .ok (.iaload, 1) := by decide +kernel
theorem d_MD_gather_40 : decode b_MD_gather 40 = .ok (.if_icmp .ge 23, 3) := by decide +kernel
theorem d_MD_gather_43 : decode b_MD_gather 43 = .ok (.aload_n 0, 1) := by decide +kernel
theorem d_MD_gather_44 : decode b_MD_gather 44 = .ok (.getfield 170, 3) := by decide +kernel
theorem d_MD_gather_47 : decode b_MD_gather 47 = .ok (.ifCond .ne 16, 3) := by decide +kernel
theorem d_MD_gather_50 : decode b_MD_gather 50 = .ok (.aload_n 0, 1) := by decide +kernel
theorem d_MD_gather_51 : decode b_MD_gather 51 = .ok (.iload_n 2, 1) := by decide +kernel
theorem d_MD_gather_52 : decode b_MD_gather 52 = .ok (.iload_n 3, 1) := by decide +kernel
theorem d_MD_gather_53 : decode b_MD_gather 53 = .ok (.invokevirtual 189, 3) := by decide +kernel
theorem d_MD_gather_56 : decode b_MD_gather 56 = .ok (.pop, 1) := by decide +kernel
theorem d_MD_gather_57 : decode b_MD_gather 57 = .ok (.iinc 3 1, 3) := by decide +kernel
theorem d_MD_gather_60 : decode b_MD_gather 60 = .ok (.goto (-36), 3) := by decide +kernel
theorem d_MD_gather_63 : decode b_MD_gather 63 = .ok (.iinc 2 1, 3) := by decide +kernel
theorem d_MD_gather_66 : decode b_MD_gather 66 = .ok (.goto (-59), 3) := by decide +kernel
theorem d_MD_gather_69 : decode b_MD_gather 69 = .ok (.iconst 0, 1) := by decide +kernel
theorem d_MD_gather_70 : decode b_MD_gather 70 = .ok (.istore_n 2, 1) := by decide +kernel
theorem d_MD_gather_71 : decode b_MD_gather 71 = .ok (.iload_n 2, 1) := by decide +kernel
theorem d_MD_gather_72 : decode b_MD_gather 72 = .ok (.aload_n 0, 1) := by decide +kernel
theorem d_MD_gather_73 : decode b_MD_gather 73 = .ok (.getfield 136, 3) := by decide +kernel
theorem d_MD_gather_76 : decode b_MD_gather 76 = .ok (.if_icmp .ge 31, 3) := by decide +kernel
theorem d_MD_gather_79 : decode b_MD_gather 79 = .ok (.aload_n 0, 1) := by decide +kernel
theorem d_MD_gather_80 : decode b_MD_gather 80 = .ok (.getfield 170, 3) := by decide +kernel
theorem d_MD_gather_83 : decode b_MD_gather 83 = .ok (.ifCond .ne 24, 3) := by decide +kernel
theorem d_MD_gather_86 : decode b_MD_gather 86 = .ok (.aload_n 0, 1) := by decide +kernel
theorem d_MD_gather_87 : decode b_MD_gather 87 = .ok (.iload_n 2, 1) := by decide +kernel
theorem d_MD_gather_88 : decode b_MD_gather 88 = .ok (.iload_n 1, 1) := by decide +kernel
theorem d_MD_gather_89 : decode b_MD_gather 89 = .ok (.invokevirtual 242, 3) := by decide +kernel
theorem d_MD_gather_92 : decode b_MD_gather 92 = .ok (.ifCond .eq 9, 3) := by decide +kernel
theorem d_MD_gather_95 : decode b_MD_gather 95 = .ok (.aload_n 0, 1) := by decide +kernel
theorem d_MD_gather_96 : decode b_MD_gather 96 = .ok (.iload_n 2, 1) := by decide +kernel
theorem d_MD_gather_97 : decode b_MD_gather 97 = .ok (.iconst 0, 1) := by decide +kernel
theorem d_MD_gather_98 : decode b_MD_gather 98 = .ok (.invokevirtual 238, 3) := by decide +kernel
theorem d_MD_gather_101 : decode b_MD_gather 101 = .ok (.iinc 2 1, 3) := by decide +kernel
theorem d_MD_gather_104 : decode b_MD_gather 104 = .ok (.goto (-33), 3) := by decide +kernel
theorem d_MD_gather_107 : decode b_MD_gather 107 = .ok (.return_, 1) := by decide +kernel
abbrev b_MD_isOf : ByteArray := prog_9_method_44_code
def y_MD_isOf : MethodName := ⟨"RunStoreModel", "isOf", "(II)Z"⟩
theorem d_MD_isOf_0 : decode b_MD_isOf 0 = .ok (.aload_n 0, 1) := by decide +kernel
theorem d_MD_isOf_1 : decode b_MD_isOf 1 = .ok (.getfield 33, 3) := by decide +kernel
theorem d_MD_isOf_4 : decode b_MD_isOf 4 = .ok (.iload_n 1, 1) := by decide +kernel
theorem d_MD_isOf_5 : decode b_MD_isOf 5 = .ok (.iaload, 1) := by decide +kernel
theorem d_MD_isOf_6 : decode b_MD_isOf 6 = .ok (.iload_n 2, 1) := by decide +kernel
theorem d_MD_isOf_7 : decode b_MD_isOf 7 = .ok (.if_icmp .eq 15, 3) := by decide +kernel
theorem d_MD_isOf_10 : decode b_MD_isOf 10 = .ok (.aload_n 0, 1) := by decide +kernel
theorem d_MD_isOf_11 : decode b_MD_isOf 11 = .ok (.getfield 33, 3) := by decide +kernel
theorem d_MD_isOf_14 : decode b_MD_isOf 14 = .ok (.iload_n 1, 1) := by decide +kernel
theorem d_MD_isOf_15 : decode b_MD_isOf 15 = .ok (.iaload, 1) := by decide +kernel
theorem d_MD_isOf_16 : decode b_MD_isOf 16 = .ok (.iload_n 2, 1) := by decide +kernel
theorem d_MD_isOf_17 : decode b_MD_isOf 17 = .ok (.iconst 1, 1) := by decide +kernel
theorem d_MD_isOf_18 : decode b_MD_isOf 18 = .ok (.iadd, 1) := by decide +kernel
theorem d_MD_isOf_19 : decode b_MD_isOf 19 = .ok (.if_icmp .ne 7, 3) := by decide +kernel
theorem d_MD_isOf_22 : decode b_MD_isOf 22 = .ok (.iconst 1, 1) := by decide +kernel
theorem d_MD_isOf_23 : decode b_MD_isOf 23 = .ok (.goto 4, 3) := by decide +kernel
theorem d_MD_isOf_26 : decode b_MD_isOf 26 = .ok (.iconst 0, 1) := by decide +kernel
theorem d_MD_isOf_27 : decode b_MD_isOf 27 = .ok (.ireturn, 1) := by decide +kernel
abbrev b_MD_anyBehind : ByteArray := prog_9_method_46_code
def y_MD_anyBehind : MethodName := ⟨"RunStoreModel", "anyBehind", "(I)Z"⟩
theorem d_MD_anyBehind_0 : decode b_MD_anyBehind 0 = .ok (.iconst 0, 1) := by decide +kernel
theorem d_MD_anyBehind_1 : decode b_MD_anyBehind 1 = .ok (.istore_n 2, 1) := by decide +kernel
theorem d_MD_anyBehind_2 : decode b_MD_anyBehind 2 = .ok (.iconst 0, 1) := by decide +kernel
theorem d_MD_anyBehind_3 : decode b_MD_anyBehind 3 = .ok (.istore_n 3, 1) := by decide +kernel
theorem d_MD_anyBehind_4 : decode b_MD_anyBehind 4 = .ok (.iload_n 3, 1) := by decide +kernel
theorem d_MD_anyBehind_5 : decode b_MD_anyBehind 5 = .ok (.aload_n 0, 1) := by decide +kernel
theorem d_MD_anyBehind_6 : decode b_MD_anyBehind 6 = .ok (.getfield 136, 3) := by decide +kernel
theorem d_MD_anyBehind_9 : decode b_MD_anyBehind 9 = .ok (.if_icmp .ge 29, 3) := by decide +kernel
theorem d_MD_anyBehind_12 : decode b_MD_anyBehind 12 = .ok (.iload_n 2, 1) := by decide +kernel
theorem d_MD_anyBehind_13 : decode b_MD_anyBehind 13 = .ok (.ifCond .ne 13, 3) := by decide +kernel
theorem d_MD_anyBehind_16 : decode b_MD_anyBehind 16 = .ok (.aload_n 0, 1) := by decide +kernel
theorem d_MD_anyBehind_17 : decode b_MD_anyBehind 17 = .ok (.getfield 33, 3) := by decide +kernel
theorem d_MD_anyBehind_20 : decode b_MD_anyBehind 20 = .ok (.iload_n 3, 1) := by decide +kernel
theorem d_MD_anyBehind_21 : decode b_MD_anyBehind 21 = .ok (.iaload, 1) := by decide +kernel
theorem d_MD_anyBehind_22 : decode b_MD_anyBehind 22 = .ok (.iload_n 1, 1) := by decide +kernel
theorem d_MD_anyBehind_23 : decode b_MD_anyBehind 23 = .ok (.if_icmp .le 7, 3) := by decide +kernel
theorem d_MD_anyBehind_26 : decode b_MD_anyBehind 26 = .ok (.iconst 1, 1) := by decide +kernel
theorem d_MD_anyBehind_27 : decode b_MD_anyBehind 27 = .ok (.goto 4, 3) := by decide +kernel
theorem d_MD_anyBehind_30 : decode b_MD_anyBehind 30 = .ok (.iconst 0, 1) := by decide +kernel
theorem d_MD_anyBehind_31 : decode b_MD_anyBehind 31 = .ok (.istore_n 2, 1) := by decide +kernel
theorem d_MD_anyBehind_32 : decode b_MD_anyBehind 32 = .ok (.iinc 3 1, 3) := by decide +kernel
theorem d_MD_anyBehind_35 : decode b_MD_anyBehind 35 = .ok (.goto (-31), 3) := by decide +kernel
theorem d_MD_anyBehind_38 : decode b_MD_anyBehind 38 = .ok (.iload_n 2, 1) := by decide +kernel
theorem d_MD_anyBehind_39 : decode b_MD_anyBehind 39 = .ok (.ireturn, 1) := by decide +kernel
abbrev b_MD_removeTable : ByteArray := prog_9_method_25_code
def y_MD_removeTable : MethodName := ⟨"RunStoreModel", "removeTable", "(I)V"⟩
theorem d_MD_removeTable_0 : decode b_MD_removeTable 0 = .ok (.iconst 0, 1) := by decide +kernel
theorem d_MD_removeTable_1 : decode b_MD_removeTable 1 = .ok (.istore_n 2, 1) := by decide +kernel
theorem d_MD_removeTable_2 : decode b_MD_removeTable 2 = .ok (.iload_n 2, 1) := by decide +kernel
theorem d_MD_removeTable_3 : decode b_MD_removeTable 3 = .ok (.aload_n 0, 1) := by decide +kernel
theorem d_MD_removeTable_4 : decode b_MD_removeTable 4 = .ok (.getfield 39, 3) := by decide +kernel
theorem d_MD_removeTable_7 : decode b_MD_removeTable 7 = .ok (.iload_n 1, 1) := by decide +kernel
theorem d_MD_removeTable_8 : decode b_MD_removeTable 8 = .ok (.iaload, 1) := by decide +kernel
theorem d_MD_removeTable_9 : decode b_MD_removeTable 9 = .ok (.if_icmp .ge 27, 3) := by decide +kernel
theorem d_MD_removeTable_12 : decode b_MD_removeTable 12 = .ok (.aload_n 0, 1) := by decide +kernel
theorem d_MD_removeTable_13 : decode b_MD_removeTable 13 = .ok (.getfield 29, 3) := by decide +kernel
theorem d_MD_removeTable_16 : decode b_MD_removeTable 16 = .ok (.aload_n 0, 1) := by decide +kernel
theorem d_MD_removeTable_17 : decode b_MD_removeTable 17 = .ok (.getfield 42, 3) := by decide +kernel
theorem d_MD_removeTable_20 : decode b_MD_removeTable 20 = .ok (.sipush 128, 3) := by decide +kernel
theorem d_MD_removeTable_23 : decode b_MD_removeTable 23 = .ok (.iload_n 1, 1) := by decide +kernel
theorem d_MD_removeTable_24 : decode b_MD_removeTable 24 = .ok (.imul, 1) := by decide +kernel
theorem d_MD_removeTable_25 : decode b_MD_removeTable 25 = .ok (.iload_n 2, 1) := by decide +kernel
theorem d_MD_removeTable_26 : decode b_MD_removeTable 26 = .ok (.iadd, 1) := by decide +kernel
theorem d_MD_removeTable_27 : decode b_MD_removeTable 27 = .ok (.iaload, 1) := by decide +kernel
theorem d_MD_removeTable_28 : decode b_MD_removeTable 28 = .ok (.iconst 0, 1) := by decide +kernel
theorem d_MD_removeTable_29 : decode b_MD_removeTable 29 = .ok (.bastore, 1) := by decide +kernel
theorem d_MD_removeTable_30 : decode b_MD_removeTable 30 = .ok (.iinc 2 1, 3) := by decide +kernel
theorem d_MD_removeTable_33 : decode b_MD_removeTable 33 = .ok (.goto (-31), 3) := by decide +kernel
theorem d_MD_removeTable_36 : decode b_MD_removeTable 36 = .ok (.iload_n 1, 1) := by decide +kernel
theorem d_MD_removeTable_37 : decode b_MD_removeTable 37 = .ok (.istore_n 2, 1) := by decide +kernel
theorem d_MD_removeTable_38 : decode b_MD_removeTable 38 = .ok (.iload_n 2, 1) := by decide +kernel
theorem d_MD_removeTable_39 : decode b_MD_removeTable 39 = .ok (.iconst 1, 1) := by decide +kernel
theorem d_MD_removeTable_40 : decode b_MD_removeTable 40 = .ok (.iadd, 1) := by decide +kernel
theorem d_MD_removeTable_41 : decode b_MD_removeTable 41 = .ok (.aload_n 0, 1) := by decide +kernel
theorem d_MD_removeTable_42 : decode b_MD_removeTable 42 = .ok (.getfield 136, 3) := by decide +kernel
theorem d_MD_removeTable_45 : decode b_MD_removeTable 45 = .ok (.if_icmp .ge 17, 3) := by decide +kernel
theorem d_MD_removeTable_48 : decode b_MD_removeTable 48 = .ok (.aload_n 0, 1) := by decide +kernel
theorem d_MD_removeTable_49 : decode b_MD_removeTable 49 = .ok (.iload_n 2, 1) := by decide +kernel
theorem d_MD_removeTable_50 : decode b_MD_removeTable 50 = .ok (.iload_n 2, 1) := by decide +kernel
theorem d_MD_removeTable_51 : decode b_MD_removeTable 51 = .ok (.iconst 1, 1) := by decide +kernel
theorem d_MD_removeTable_52 : decode b_MD_removeTable 52 = .ok (.iadd, 1) := by decide +kernel
theorem d_MD_removeTable_53 : decode b_MD_removeTable 53 = .ok (.invokevirtual 139, 3) := by decide +kernel
theorem d_MD_removeTable_56 : decode b_MD_removeTable 56 = .ok (.iinc 2 1, 3) := by decide +kernel
theorem d_MD_removeTable_59 : decode b_MD_removeTable 59 = .ok (.goto (-21), 3) := by decide +kernel
theorem d_MD_removeTable_62 : decode b_MD_removeTable 62 = .ok (.aload_n 0, 1) := by decide +kernel
theorem d_MD_removeTable_63 : decode b_MD_removeTable 63 = .ok (.dup, 1) := by decide +kernel
theorem d_MD_removeTable_64 : decode b_MD_removeTable 64 = .ok (.getfield 136, 3) := by decide +kernel
theorem d_MD_removeTable_67 : decode b_MD_removeTable 67 = .ok (.iconst 1, 1) := by decide +kernel
theorem d_MD_removeTable_68 : decode b_MD_removeTable 68 = .ok (.isub, 1) := by decide +kernel
theorem d_MD_removeTable_69 : decode b_MD_removeTable 69 = .ok (.putfield 136, 3) := by decide +kernel
theorem d_MD_removeTable_72 : decode b_MD_removeTable 72 = .ok (.return_, 1) := by decide +kernel
abbrev b_MD_may : ByteArray := prog_9_method_49_code
def y_MD_may : MethodName := ⟨"RunStoreModel", "may", "(IJ)Z"⟩
theorem d_MD_may_0 : decode b_MD_may 0 = .ok (.aload_n 0, 1) := by decide +kernel
theorem d_MD_may_1 : decode b_MD_may 1 = .ok (.iload_n 1, 1) := by decide +kernel
theorem d_MD_may_2 : decode b_MD_may 2 = .ok (.iconst 0, 1) := by decide +kernel
theorem d_MD_may_3 : decode b_MD_may 3 = .ok (.aload_n 0, 1) := by decide +kernel
theorem d_MD_may_4 : decode b_MD_may 4 = .ok (.getfield 136, 3) := by decide +kernel
theorem d_MD_may_7 : decode b_MD_may 7 = .ok (.iconst 1, 1) := by decide +kernel
theorem d_MD_may_8 : decode b_MD_may 8 = .ok (.isub, 1) := by decide +kernel
theorem d_MD_may_9 : decode b_MD_may 9 = .ok (.invokestatic 109, 3) := by decide +kernel
theorem d_MD_may_12 : decode b_MD_may 12 = .ok (.ifCond .eq 7, 3) := by decide +kernel
theorem d_MD_may_15 : decode b_MD_may 15 = .ok (.iconst 0, 1) := by decide +kernel
theorem d_MD_may_16 : decode b_MD_may 16 = .ok (.goto 4, 3) := by decide +kernel
theorem d_MD_may_19 : decode b_MD_may 19 = .ok (.iconst 1, 1) := by decide +kernel
theorem d_MD_may_20 : decode b_MD_may 20 = .ok (.putfield 70, 3) := by decide +kernel
theorem d_MD_may_23 : decode b_MD_may 23 = .ok (.aload_n 0, 1) := by decide +kernel
theorem d_MD_may_24 : decode b_MD_may 24 = .ok (.getfield 70, 3) := by decide +kernel
theorem d_MD_may_27 : decode b_MD_may 27 = .ok (.ifCond .ne 26, 3) := by decide +kernel
theorem d_MD_may_30 : decode b_MD_may 30 = .ok (.aload_n 0, 1) := by decide +kernel
theorem d_MD_may_31 : decode b_MD_may 31 = .ok (.getfield 45, 3) := by decide +kernel
theorem d_MD_may_34 : decode b_MD_may 34 = .ok (.iload_n 1, 1) := by decide +kernel
theorem d_MD_may_35 : decode b_MD_may 35 = .ok (.laload, 1) := by decide +kernel
theorem d_MD_may_36 : decode b_MD_may 36 = .ok (.lload_n 2, 1) := by decide +kernel
theorem d_MD_may_37 : decode b_MD_may 37 = .ok (.invokestatic 152, 3) := by decide +kernel
theorem d_MD_may_40 : decode b_MD_may 40 = .ok (.land, 1) := by decide +kernel
theorem d_MD_may_41 : decode b_MD_may 41 = .ok (.lload_n 2, 1) := by decide +kernel
theorem d_MD_may_42 : decode b_MD_may 42 = .ok (.invokestatic 152, 3) := by decide +kernel
theorem d_MD_may_45 : decode b_MD_may 45 = .ok (.lcmp, 1) := by decide +kernel
theorem d_MD_may_46 : decode b_MD_may 46 = .ok (.ifCond .ne 7, 3) := by decide +kernel
theorem d_MD_may_49 : decode b_MD_may 49 = .ok (.iconst 1, 1) := by decide +kernel
theorem d_MD_may_50 : decode b_MD_may 50 = .ok (.goto 4, 3) := by decide +kernel
theorem d_MD_may_53 : decode b_MD_may 53 = .ok (.iconst 0, 1) := by decide +kernel
theorem d_MD_may_54 : decode b_MD_may 54 = .ok (.ireturn, 1) := by decide +kernel
abbrev b_MD_table : ByteArray := prog_9_method_50_code
def y_MD_table : MethodName := ⟨"RunStoreModel", "table", "(II)I"⟩
theorem d_MD_table_0 : decode b_MD_table 0 = .ok (.aload_n 0, 1) := by decide +kernel
theorem d_MD_table_1 : decode b_MD_table 1 = .ok (.iconst 0, 1) := by decide +kernel
theorem d_MD_table_2 : decode b_MD_table 2 = .ok (.putfield 70, 3) := by decide +kernel
theorem d_MD_table_5 : decode b_MD_table 5 = .ok (.iload_n 1, 1) := by decide +kernel
theorem d_MD_table_6 : decode b_MD_table 6 = .ok (.iconst 0, 1) := by decide +kernel
theorem d_MD_table_7 : decode b_MD_table 7 = .ok (.aload_n 0, 1) := by decide +kernel
theorem d_MD_table_8 : decode b_MD_table 8 = .ok (.getfield 136, 3) := by decide +kernel
theorem d_MD_table_11 : decode b_MD_table 11 = .ok (.iconst 1, 1) := by decide +kernel
theorem d_MD_table_12 : decode b_MD_table 12 = .ok (.isub, 1) := by decide +kernel
theorem d_MD_table_13 : decode b_MD_table 13 = .ok (.invokestatic 109, 3) := by decide +kernel
theorem d_MD_table_16 : decode b_MD_table 16 = .ok (.ifCond .eq 12, 3) := by decide +kernel
theorem d_MD_table_19 : decode b_MD_table 19 = .ok (.iload_n 2, 1) := by decide +kernel
theorem d_MD_table_20 : decode b_MD_table 20 = .ok (.iconst 0, 1) := by decide +kernel
theorem d_MD_table_21 : decode b_MD_table 21 = .ok (.iconst 3, 1) := by decide +kernel
theorem d_MD_table_22 : decode b_MD_table 22 = .ok (.invokestatic 109, 3) := by decide +kernel
theorem d_MD_table_25 : decode b_MD_table 25 = .ok (.ifCond .ne 9, 3) := by decide +kernel
theorem d_MD_table_28 : decode b_MD_table 28 = .ok (.aload_n 0, 1) := by decide +kernel
theorem d_MD_table_29 : decode b_MD_table 29 = .ok (.iconst 1, 1) := by decide +kernel
theorem d_MD_table_30 : decode b_MD_table 30 = .ok (.invokevirtual 113, 3) := by decide +kernel
theorem d_MD_table_33 : decode b_MD_table 33 = .ok (.ireturn, 1) := by decide +kernel
theorem d_MD_table_34 : decode b_MD_table 34 = .ok (.iload_n 2, 1) := by decide +kernel
theorem d_MD_table_35 : decode b_MD_table 35 = .ok (.ifCond .ne 12, 3) := by decide +kernel
theorem d_MD_table_38 : decode b_MD_table 38 = .ok (.aload_n 0, 1) := by decide +kernel
theorem d_MD_table_39 : decode b_MD_table 39 = .ok (.getfield 33, 3) := by decide +kernel
theorem d_MD_table_42 : decode b_MD_table 42 = .ok (.iload_n 1, 1) := by decide +kernel
theorem d_MD_table_43 : decode b_MD_table 43 = .ok (.iaload, 1) := by decide +kernel
theorem d_MD_table_44 : decode b_MD_table 44 = .ok (.goto 41, 3) := by decide +kernel
theorem d_MD_table_47 : decode b_MD_table 47 = .ok (.iload_n 2, 1) := by decide +kernel
theorem d_MD_table_48 : decode b_MD_table 48 = .ok (.iconst 1, 1) := by decide +kernel
theorem d_MD_table_49 : decode b_MD_table 49 = .ok (.if_icmp .ne 12, 3) := by decide +kernel
theorem d_MD_table_52 : decode b_MD_table 52 = .ok (.aload_n 0, 1) := by decide +kernel
theorem d_MD_table_53 : decode b_MD_table 53 = .ok (.getfield 36, 3) := by decide +kernel
theorem d_MD_table_56 : decode b_MD_table 56 = .ok (.iload_n 1, 1) := by decide +kernel
theorem d_MD_table_57 : decode b_MD_table 57 = .ok (.iaload, 1) := by decide +kernel
theorem d_MD_table_58 : decode b_MD_table 58 = .ok (.goto 27, 3) := by decide +kernel
theorem d_MD_table_61 : decode b_MD_table 61 = .ok (.iload_n 2, 1) := by decide +kernel
theorem d_MD_table_62 : decode b_MD_table 62 = .ok (.iconst 2, 1) := by decide +kernel
theorem d_MD_table_63 : decode b_MD_table 63 = .ok (.if_icmp .ne 12, 3) := by decide +kernel
theorem d_MD_table_66 : decode b_MD_table 66 = .ok (.aload_n 0, 1) := by decide +kernel
theorem d_MD_table_67 : decode b_MD_table 67 = .ok (.getfield 39, 3) := by decide +kernel
theorem d_MD_table_70 : decode b_MD_table 70 = .ok (.iload_n 1, 1) := by decide +kernel
theorem d_MD_table_71 : decode b_MD_table 71 = .ok (.iaload, 1) := by decide +kernel
theorem d_MD_table_72 : decode b_MD_table 72 = .ok (.goto 13, 3) := by decide +kernel
theorem d_MD_table_75 : decode b_MD_table 75 = .ok (.aload_n 0, 1) := by decide +kernel
theorem d_MD_table_76 : decode b_MD_table 76 = .ok (.getfield 42, 3) := by decide +kernel
theorem d_MD_table_79 : decode b_MD_table 79 = .ok (.sipush 128, 3) := by decide +kernel
theorem d_MD_table_82 : decode b_MD_table 82 = .ok (.iload_n 1, 1) := by decide +kernel
theorem d_MD_table_83 : decode b_MD_table 83 = .ok (.imul, 1) := by decide +kernel
theorem d_MD_table_84 : decode b_MD_table 84 = .ok (.iaload, 1) := by decide +kernel
theorem d_MD_table_85 : decode b_MD_table 85 = .ok (.ireturn, 1) := by decide +kernel
abbrev b_MD_byteAt : ByteArray := prog_9_method_52_code
def y_MD_byteAt : MethodName := ⟨"RunStoreModel", "byteAt", "(II)I"⟩
theorem d_MD_byteAt_0 : decode b_MD_byteAt 0 = .ok (.aload_n 0, 1) := by decide +kernel
theorem d_MD_byteAt_1 : decode b_MD_byteAt 1 = .ok (.iload_n 1, 1) := by decide +kernel
theorem d_MD_byteAt_2 : decode b_MD_byteAt 2 = .ok (.iload_n 2, 1) := by decide +kernel
theorem d_MD_byteAt_3 : decode b_MD_byteAt 3 = .ok (.invokevirtual 258, 3) := by decide +kernel
theorem d_MD_byteAt_6 : decode b_MD_byteAt 6 = .ok (.ifCond .eq 17, 3) := by decide +kernel
theorem d_MD_byteAt_9 : decode b_MD_byteAt 9 = .ok (.aload_n 0, 1) := by decide +kernel
theorem d_MD_byteAt_10 : decode b_MD_byteAt 10 = .ok (.getfield 23, 3) := by decide +kernel
theorem d_MD_byteAt_13 : decode b_MD_byteAt 13 = .ok (.bipush 32, 2) := by decide +kernel
theorem d_MD_byteAt_15 : decode b_MD_byteAt 15 = .ok (.iload_n 1, 1) := by decide +kernel
theorem d_MD_byteAt_16 : decode b_MD_byteAt 16 = .ok (.imul, 1) := by decide +kernel
theorem d_MD_byteAt_17 : decode b_MD_byteAt 17 = .ok (.iload_n 2, 1) := by decide +kernel
theorem d_MD_byteAt_18 : decode b_MD_byteAt 18 = .ok (.iadd, 1) := by decide +kernel
theorem d_MD_byteAt_19 : decode b_MD_byteAt 19 = .ok (.iaload, 1) := by decide +kernel
theorem d_MD_byteAt_20 : decode b_MD_byteAt 20 = .ok (.goto 4, 3) := by decide +kernel
theorem d_MD_byteAt_23 : decode b_MD_byteAt 23 = .ok (.iconst 0, 1) := by decide +kernel
theorem d_MD_byteAt_24 : decode b_MD_byteAt 24 = .ok (.ireturn, 1) := by decide +kernel
abbrev b_MD_isByte : ByteArray := prog_9_method_51_code
def y_MD_isByte : MethodName := ⟨"RunStoreModel", "isByte", "(II)Z"⟩
theorem d_MD_isByte_0 : decode b_MD_isByte 0 = .ok (.aload_n 0, 1) := by decide +kernel
theorem d_MD_isByte_1 : decode b_MD_isByte 1 = .ok (.iload_n 1, 1) := by decide +kernel
theorem d_MD_isByte_2 : decode b_MD_isByte 2 = .ok (.iconst 0, 1) := by decide +kernel
theorem d_MD_isByte_3 : decode b_MD_isByte 3 = .ok (.aload_n 0, 1) := by decide +kernel
theorem d_MD_isByte_4 : decode b_MD_isByte 4 = .ok (.getfield 67, 3) := by decide +kernel
theorem d_MD_isByte_7 : decode b_MD_isByte 7 = .ok (.iconst 1, 1) := by decide +kernel
theorem d_MD_isByte_8 : decode b_MD_isByte 8 = .ok (.isub, 1) := by decide +kernel
theorem d_MD_isByte_9 : decode b_MD_isByte 9 = .ok (.invokestatic 109, 3) := by decide +kernel
theorem d_MD_isByte_12 : decode b_MD_isByte 12 = .ok (.ifCond .eq 17, 3) := by decide +kernel
theorem d_MD_isByte_15 : decode b_MD_isByte 15 = .ok (.iload_n 2, 1) := by decide +kernel
theorem d_MD_isByte_16 : decode b_MD_isByte 16 = .ok (.iconst 0, 1) := by decide +kernel
theorem d_MD_isByte_17 : decode b_MD_isByte 17 = .ok (.bipush 31, 2) := by decide +kernel
theorem d_MD_isByte_19 : decode b_MD_isByte 19 = .ok (.invokestatic 109, 3) := by decide +kernel
theorem d_MD_isByte_22 : decode b_MD_isByte 22 = .ok (.ifCond .eq 7, 3) := by decide +kernel
theorem d_MD_isByte_25 : decode b_MD_isByte 25 = .ok (.iconst 0, 1) := by decide +kernel
theorem d_MD_isByte_26 : decode b_MD_isByte 26 = .ok (.goto 4, 3) := by decide +kernel
theorem d_MD_isByte_29 : decode b_MD_isByte 29 = .ok (.iconst 1, 1) := by decide +kernel
theorem d_MD_isByte_30 : decode b_MD_isByte 30 = .ok (.putfield 70, 3) := by decide +kernel
theorem d_MD_isByte_33 : decode b_MD_isByte 33 = .ok (.aload_n 0, 1) := by decide +kernel
theorem d_MD_isByte_34 : decode b_MD_isByte 34 = .ok (.getfield 70, 3) := by decide +kernel
theorem d_MD_isByte_37 : decode b_MD_isByte 37 = .ok (.ifCond .ne 7, 3) := by decide +kernel
theorem d_MD_isByte_40 : decode b_MD_isByte 40 = .ok (.iconst 1, 1) := by decide +kernel
theorem d_MD_isByte_41 : decode b_MD_isByte 41 = .ok (.goto 4, 3) := by decide +kernel
theorem d_MD_isByte_44 : decode b_MD_isByte 44 = .ok (.iconst 0, 1) := by decide +kernel
theorem d_MD_isByte_45 : decode b_MD_isByte 45 = .ok (.ireturn, 1) := by decide +kernel
abbrev b_MD_poke : ByteArray := prog_9_method_53_code
def y_MD_poke : MethodName := ⟨"RunStoreModel", "poke", "(III)I"⟩
theorem d_MD_poke_0 : decode b_MD_poke 0 = .ok (.aload_n 0, 1) := by decide +kernel
theorem d_MD_poke_1 : decode b_MD_poke 1 = .ok (.iload_n 1, 1) := by decide +kernel
theorem d_MD_poke_2 : decode b_MD_poke 2 = .ok (.iload_n 2, 1) := by decide +kernel
theorem d_MD_poke_3 : decode b_MD_poke 3 = .ok (.invokevirtual 258, 3) := by decide +kernel
theorem d_MD_poke_6 : decode b_MD_poke 6 = .ok (.ifCond .ne 5, 3) := by decide +kernel
theorem d_MD_poke_9 : decode b_MD_poke 9 = .ok (.iconst 0, 1) := by decide +kernel
theorem d_MD_poke_10 : decode b_MD_poke 10 = .ok (.ireturn, 1) := by decide +kernel
theorem d_MD_poke_11 : decode b_MD_poke 11 = .ok (.aload_n 0, 1) := by decide +kernel
theorem d_MD_poke_12 : decode b_MD_poke 12 = .ok (.getfield 23, 3) := by decide +kernel
theorem d_MD_poke_15 : decode b_MD_poke 15 = .ok (.bipush 32, 2) := by decide +kernel
theorem d_MD_poke_17 : decode b_MD_poke 17 = .ok (.iload_n 1, 1) := by decide +kernel
theorem d_MD_poke_18 : decode b_MD_poke 18 = .ok (.imul, 1) := by decide +kernel
theorem d_MD_poke_19 : decode b_MD_poke 19 = .ok (.iload_n 2, 1) := by decide +kernel
theorem d_MD_poke_20 : decode b_MD_poke 20 = .ok (.iadd, 1) := by decide +kernel
theorem d_MD_poke_21 : decode b_MD_poke 21 = .ok (.aload_n 0, 1) := by decide +kernel
theorem d_MD_poke_22 : decode b_MD_poke 22 = .ok (.getfield 23, 3) := by decide +kernel
theorem d_MD_poke_25 : decode b_MD_poke 25 = .ok (.bipush 32, 2) := by decide +kernel
theorem d_MD_poke_27 : decode b_MD_poke 27 = .ok (.iload_n 1, 1) := by decide +kernel
theorem d_MD_poke_28 : decode b_MD_poke 28 = .ok (.imul, 1) := by decide +kernel
theorem d_MD_poke_29 : decode b_MD_poke 29 = .ok (.iload_n 2, 1) := by decide +kernel
theorem d_MD_poke_30 : decode b_MD_poke 30 = .ok (.iadd, 1) := by decide +kernel
theorem d_MD_poke_31 : decode b_MD_poke 31 = .ok (.iaload, 1) := by decide +kernel
theorem d_MD_poke_32 : decode b_MD_poke 32 = .ok (.iload_n 3, 1) := by decide +kernel
theorem d_MD_poke_33 : decode b_MD_poke 33 = .ok (.sipush 255, 3) := by decide +kernel
theorem d_MD_poke_36 : decode b_MD_poke 36 = .ok (.iand, 1) := by decide +kernel
theorem d_MD_poke_37 : decode b_MD_poke 37 = .ok (.ixor, 1) := by decide +kernel
theorem d_MD_poke_38 : decode b_MD_poke 38 = .ok (.iastore, 1) := by decide +kernel
theorem d_MD_poke_39 : decode b_MD_poke 39 = .ok (.aload_n 0, 1) := by decide +kernel
theorem d_MD_poke_40 : decode b_MD_poke 40 = .ok (.getfield 23, 3) := by decide +kernel
theorem d_MD_poke_43 : decode b_MD_poke 43 = .ok (.bipush 32, 2) := by decide +kernel
theorem d_MD_poke_45 : decode b_MD_poke 45 = .ok (.iload_n 1, 1) := by decide +kernel
theorem d_MD_poke_46 : decode b_MD_poke 46 = .ok (.imul, 1) := by decide +kernel
theorem d_MD_poke_47 : decode b_MD_poke 47 = .ok (.iload_n 2, 1) := by decide +kernel
theorem d_MD_poke_48 : decode b_MD_poke 48 = .ok (.iadd, 1) := by decide +kernel
theorem d_MD_poke_49 : decode b_MD_poke 49 = .ok (.iaload, 1) := by decide +kernel
theorem d_MD_poke_50 : decode b_MD_poke 50 = .ok (.ireturn, 1) := by decide +kernel
abbrev b_MD_sum : ByteArray := prog_9_method_54_code
def y_MD_sum : MethodName := ⟨"RunStoreModel", "sum", "(I)I"⟩
theorem d_MD_sum_0 : decode b_MD_sum 0 = .ok (.aload_n 0, 1) := by decide +kernel
theorem d_MD_sum_1 : decode b_MD_sum 1 = .ok (.iconst 0, 1) := by decide +kernel
theorem d_MD_sum_2 : decode b_MD_sum 2 = .ok (.putfield 70, 3) := by decide +kernel
theorem d_MD_sum_5 : decode b_MD_sum 5 = .ok (.iload_n 1, 1) := by decide +kernel
theorem d_MD_sum_6 : decode b_MD_sum 6 = .ok (.iconst 0, 1) := by decide +kernel
theorem d_MD_sum_7 : decode b_MD_sum 7 = .ok (.aload_n 0, 1) := by decide +kernel
theorem d_MD_sum_8 : decode b_MD_sum 8 = .ok (.getfield 67, 3) := by decide +kernel
theorem d_MD_sum_11 : decode b_MD_sum 11 = .ok (.iconst 1, 1) := by decide +kernel
theorem d_MD_sum_12 : decode b_MD_sum 12 = .ok (.isub, 1) := by decide +kernel
theorem d_MD_sum_13 : decode b_MD_sum 13 = .ok (.invokestatic 109, 3) := by decide +kernel
theorem d_MD_sum_16 : decode b_MD_sum 16 = .ok (.ifCond .eq 12, 3) := by decide +kernel
theorem d_MD_sum_19 : decode b_MD_sum 19 = .ok (.aload_n 0, 1) := by decide +kernel
theorem d_MD_sum_20 : decode b_MD_sum 20 = .ok (.getfield 26, 3) := by decide +kernel
theorem d_MD_sum_23 : decode b_MD_sum 23 = .ok (.iload_n 1, 1) := by decide +kernel
theorem d_MD_sum_24 : decode b_MD_sum 24 = .ok (.iaload, 1) := by decide +kernel
theorem d_MD_sum_25 : decode b_MD_sum 25 = .ok (.goto 8, 3) := by decide +kernel
theorem d_MD_sum_28 : decode b_MD_sum 28 = .ok (.aload_n 0, 1) := by decide +kernel
theorem d_MD_sum_29 : decode b_MD_sum 29 = .ok (.iconst 1, 1) := by decide +kernel
theorem d_MD_sum_30 : decode b_MD_sum 30 = .ok (.invokevirtual 113, 3) := by decide +kernel
theorem d_MD_sum_33 : decode b_MD_sum 33 = .ok (.ireturn, 1) := by decide +kernel
abbrev b_MD_logged : ByteArray := prog_9_method_55_code
def y_MD_logged : MethodName := ⟨"RunStoreModel", "logged", "(I)I"⟩
theorem d_MD_logged_0 : decode b_MD_logged 0 = .ok (.aload_n 0, 1) := by decide +kernel
theorem d_MD_logged_1 : decode b_MD_logged 1 = .ok (.iconst 0, 1) := by decide +kernel
theorem d_MD_logged_2 : decode b_MD_logged 2 = .ok (.putfield 70, 3) := by decide +kernel
theorem d_MD_logged_5 : decode b_MD_logged 5 = .ok (.iload_n 1, 1) := by decide +kernel
theorem d_MD_logged_6 : decode b_MD_logged 6 = .ok (.iconst 0, 1) := by decide +kernel
theorem d_MD_logged_7 : decode b_MD_logged 7 = .ok (.aload_n 0, 1) := by decide +kernel
theorem d_MD_logged_8 : decode b_MD_logged 8 = .ok (.getfield 84, 3) := by decide +kernel
theorem d_MD_logged_11 : decode b_MD_logged 11 = .ok (.iconst 1, 1) := by decide +kernel
theorem d_MD_logged_12 : decode b_MD_logged 12 = .ok (.isub, 1) := by decide +kernel
theorem d_MD_logged_13 : decode b_MD_logged 13 = .ok (.invokestatic 109, 3) := by decide +kernel
theorem d_MD_logged_16 : decode b_MD_logged 16 = .ok (.ifCond .eq 12, 3) := by decide +kernel
theorem d_MD_logged_19 : decode b_MD_logged 19 = .ok (.aload_n 0, 1) := by decide +kernel
theorem d_MD_logged_20 : decode b_MD_logged 20 = .ok (.getfield 20, 3) := by decide +kernel
theorem d_MD_logged_23 : decode b_MD_logged 23 = .ok (.iload_n 1, 1) := by decide +kernel
theorem d_MD_logged_24 : decode b_MD_logged 24 = .ok (.iaload, 1) := by decide +kernel
theorem d_MD_logged_25 : decode b_MD_logged 25 = .ok (.goto 8, 3) := by decide +kernel
theorem d_MD_logged_28 : decode b_MD_logged 28 = .ok (.aload_n 0, 1) := by decide +kernel
theorem d_MD_logged_29 : decode b_MD_logged 29 = .ok (.iconst 1, 1) := by decide +kernel
theorem d_MD_logged_30 : decode b_MD_logged 30 = .ok (.invokevirtual 113, 3) := by decide +kernel
theorem d_MD_logged_33 : decode b_MD_logged 33 = .ok (.ireturn, 1) := by decide +kernel
abbrev b_MD_crash : ByteArray := prog_9_method_57_code
def y_MD_crash : MethodName := ⟨"RunStoreModel", "crash", "(III)I"⟩
theorem d_MD_crash_0 : decode b_MD_crash 0 = .ok (.aload_n 0, 1) := by decide +kernel
theorem d_MD_crash_1 : decode b_MD_crash 1 = .ok (.iconst 0, 1) := by decide +kernel
theorem d_MD_crash_2 : decode b_MD_crash 2 = .ok (.putfield 70, 3) := by decide +kernel
theorem d_MD_crash_5 : decode b_MD_crash 5 = .ok (.iload_n 1, 1) := by decide +kernel
theorem d_MD_crash_6 : decode b_MD_crash 6 = .ok (.iconst 0, 1) := by decide +kernel
theorem d_MD_crash_7 : decode b_MD_crash 7 = .ok (.aload_n 0, 1) := by decide +kernel
theorem d_MD_crash_8 : decode b_MD_crash 8 = .ok (.getfield 84, 3) := by decide +kernel
theorem d_MD_crash_11 : decode b_MD_crash 11 = .ok (.invokestatic 109, 3) := by decide +kernel
theorem d_MD_crash_14 : decode b_MD_crash 14 = .ok (.ifCond .eq 14, 3) := by decide +kernel
theorem d_MD_crash_17 : decode b_MD_crash 17 = .ok (.iload_n 2, 1) := by decide +kernel
theorem d_MD_crash_18 : decode b_MD_crash 18 = .ok (.iconst (-1), 1) := by decide +kernel
theorem d_MD_crash_19 : decode b_MD_crash 19 = .ok (.iload_n 1, 1) := by decide +kernel
theorem d_MD_crash_20 : decode b_MD_crash 20 = .ok (.iconst 1, 1) := by decide +kernel
theorem d_MD_crash_21 : decode b_MD_crash 21 = .ok (.isub, 1) := by decide +kernel
theorem d_MD_crash_22 : decode b_MD_crash 22 = .ok (.invokestatic 109, 3) := by decide +kernel
theorem d_MD_crash_25 : decode b_MD_crash 25 = .ok (.ifCond .ne 9, 3) := by decide +kernel
theorem d_MD_crash_28 : decode b_MD_crash 28 = .ok (.aload_n 0, 1) := by decide +kernel
theorem d_MD_crash_29 : decode b_MD_crash 29 = .ok (.iconst 1, 1) := by decide +kernel
theorem d_MD_crash_30 : decode b_MD_crash 30 = .ok (.invokevirtual 113, 3) := by decide +kernel
theorem d_MD_crash_33 : decode b_MD_crash 33 = .ok (.ireturn, 1) := by decide +kernel
theorem d_MD_crash_34 : decode b_MD_crash 34 = .ok (.iload_n 2, 1) := by decide +kernel
theorem d_MD_crash_35 : decode b_MD_crash 35 = .ok (.ifCond .lt 21, 3) := by decide +kernel
theorem d_MD_crash_38 : decode b_MD_crash 38 = .ok (.aload_n 0, 1) := by decide +kernel
theorem d_MD_crash_39 : decode b_MD_crash 39 = .ok (.getfield 20, 3) := by decide +kernel
theorem d_MD_crash_42 : decode b_MD_crash 42 = .ok (.iload_n 2, 1) := by decide +kernel
theorem d_MD_crash_43 : decode b_MD_crash 43 = .ok (.aload_n 0, 1) := by decide +kernel
theorem d_MD_crash_44 : decode b_MD_crash 44 = .ok (.getfield 20, 3) := by decide +kernel
theorem d_MD_crash_47 : decode b_MD_crash 47 = .ok (.iload_n 2, 1) := by decide +kernel
theorem d_MD_crash_48 : decode b_MD_crash 48 = .ok (.iaload, 1) := by decide +kernel
theorem d_MD_crash_49 : decode b_MD_crash 49 = .ok (.iload_n 3, 1) := by decide +kernel
theorem d_MD_crash_50 : decode b_MD_crash 50 = .ok (.sipush 255, 3) := by decide +kernel
theorem d_MD_crash_53 : decode b_MD_crash 53 = .ok (.iand, 1) := by decide +kernel
theorem d_MD_crash_54 : decode b_MD_crash 54 = .ok (.ixor, 1) := by decide +kernel
theorem d_MD_crash_55 : decode b_MD_crash 55 = .ok (.iastore, 1) := by decide +kernel
theorem d_MD_crash_56 : decode b_MD_crash 56 = .ok (.aload_n 0, 1) := by decide +kernel
theorem d_MD_crash_57 : decode b_MD_crash 57 = .ok (.iconst 0, 1) := by decide +kernel
theorem d_MD_crash_58 : decode b_MD_crash 58 = .ok (.putfield 73, 3) := by decide +kernel
theorem d_MD_crash_61 : decode b_MD_crash 61 = .ok (.iconst 0, 1) := by decide +kernel
theorem d_MD_crash_62 : decode b_MD_crash 62 = .ok (.istore 4, 2) := by decide +kernel
theorem d_MD_crash_64 : decode b_MD_crash 64 = .ok (.aload_n 0, 1) := by decide +kernel
theorem d_MD_crash_65 : decode b_MD_crash 65 = .ok (.iconst 0, 1) := by decide +kernel
theorem d_MD_crash_66 : decode b_MD_crash 66 = .ok (.iload_n 1, 1) := by decide +kernel
theorem d_MD_crash_67 : decode b_MD_crash 67 = .ok (.invokevirtual 261, 3) := by decide +kernel
theorem d_MD_crash_70 : decode b_MD_crash 70 = .ok (.istore 5, 2) := by decide +kernel
theorem d_MD_crash_72 : decode b_MD_crash 72 = .ok (.iload 5, 2) := by decide +kernel
theorem d_MD_crash_74 : decode b_MD_crash 74 = .ok (.ifCond .le 147, 3) := by decide +kernel
theorem d_MD_crash_77 : decode b_MD_crash 77 = .ok (.lconst 0, 1) := by decide +kernel
theorem d_MD_crash_78 : decode b_MD_crash 78 = .ok (.lstore 6, 2) := by decide +kernel
theorem d_MD_crash_80 : decode b_MD_crash 80 = .ok (.iconst 0, 1) := by decide +kernel
theorem d_MD_crash_81 : decode b_MD_crash 81 = .ok (.istore 8, 2) := by decide +kernel
theorem d_MD_crash_83 : decode b_MD_crash 83 = .ok (.iload 8, 2) := by decide +kernel
theorem d_MD_crash_85 : decode b_MD_crash 85 = .ok (.bipush 8, 2) := by decide +kernel
theorem d_MD_crash_87 : decode b_MD_crash 87 = .ok (.if_icmp .ge 28, 3) := by decide +kernel
theorem d_MD_crash_90 : decode b_MD_crash 90 = .ok (.lload 6, 2) := by decide +kernel
theorem d_MD_crash_92 : decode b_MD_crash 92 = .ok (.bipush 8, 2) := by decide +kernel
theorem d_MD_crash_94 : decode b_MD_crash 94 = .ok (.lshl, 1) := by decide +kernel
theorem d_MD_crash_95 : decode b_MD_crash 95 = .ok (.aload_n 0, 1) := by decide +kernel
theorem d_MD_crash_96 : decode b_MD_crash 96 = .ok (.getfield 20, 3) := by decide +kernel
theorem d_MD_crash_99 : decode b_MD_crash 99 = .ok (.iload 4, 2) := by decide +kernel
theorem d_MD_crash_101 : decode b_MD_crash 101 = .ok (.iload 8, 2) := by decide +kernel
theorem d_MD_crash_103 : decode b_MD_crash 103 = .ok (.iadd, 1) := by decide +kernel
theorem d_MD_crash_104 : decode b_MD_crash 104 = .ok (.iaload, 1) := by decide +kernel
theorem d_MD_crash_105 : decode b_MD_crash 105 = .ok (.i2l, 1) := by decide +kernel
theorem d_MD_crash_106 : decode b_MD_crash 106 = .ok (.lor, 1) := by decide +kernel
theorem d_MD_crash_107 : decode b_MD_crash 107 = .ok (.lstore 6, 2) := by decide +kernel
theorem d_MD_crash_109 : decode b_MD_crash 109 = .ok (.iinc 8 1, 3) := by decide +kernel
theorem d_MD_crash_112 : decode b_MD_crash 112 = .ok (.goto (-29), 3) := by decide +kernel
theorem d_MD_crash_115 : decode b_MD_crash 115 = .ok (.aload_n 0, 1) := by decide +kernel
theorem d_MD_crash_116 : decode b_MD_crash 116 = .ok (.getfield 73, 3) := by decide +kernel
theorem d_MD_crash_119 : decode b_MD_crash 119 = .ok (.bipush 24, 2) := by decide +kernel
theorem d_MD_crash_121 : decode b_MD_crash 121 = .ok (.if_icmp .ne 15, 3) := by decide +kernel
theorem d_MD_crash_124 : decode b_MD_crash 124 = .ok (.aload_n 0, 1) := by decide +kernel
theorem d_MD_crash_125 : decode b_MD_crash 125 = .ok (.lload 6, 2) := by decide +kernel
theorem d_MD_crash_127 : decode b_MD_crash 127 = .ok (.invokevirtual 80, 3) := by decide +kernel
theorem d_MD_crash_130 : decode b_MD_crash 130 = .ok (.ifCond .ne 6, 3) := by decide +kernel
theorem d_MD_crash_133 : decode b_MD_crash 133 = .ok (.goto 88, 3) := by decide +kernel
theorem d_MD_crash_136 : decode b_MD_crash 136 = .ok (.aload_n 0, 1) := by decide +kernel
theorem d_MD_crash_137 : decode b_MD_crash 137 = .ok (.getfield 20, 3) := by decide +kernel
theorem d_MD_crash_140 : decode b_MD_crash 140 = .ok (.iload 4, 2) := by decide +kernel
theorem d_MD_crash_142 : decode b_MD_crash 142 = .ok (.bipush 8, 2) := by decide +kernel
theorem d_MD_crash_144 : decode b_MD_crash 144 = .ok (.iadd, 1) := by decide +kernel
theorem d_MD_crash_145 : decode b_MD_crash 145 = .ok (.iaload, 1) := by decide +kernel
theorem d_MD_crash_146 : decode b_MD_crash 146 = .ok (.istore 8, 2) := by decide +kernel
theorem d_MD_crash_148 : decode b_MD_crash 148 = .ok (.lconst 0, 1) := by decide +kernel
theorem d_MD_crash_149 : decode b_MD_crash 149 = .ok (.lstore 9, 2) := by decide +kernel
theorem d_MD_crash_151 : decode b_MD_crash 151 = .ok (.iconst 0, 1) := by decide +kernel
theorem d_MD_crash_152 : decode b_MD_crash 152 = .ok (.istore 11, 2) := by decide +kernel
theorem d_MD_crash_154 : decode b_MD_crash 154 = .ok (.iload 11, 2) := by decide +kernel
theorem d_MD_crash_156 : decode b_MD_crash 156 = .ok (.iload 8, 2) := by decide +kernel
theorem d_MD_crash_158 : decode b_MD_crash 158 = .ok (.invokestatic 87, 3) := by decide +kernel
theorem d_MD_crash_161 : decode b_MD_crash 161 = .ok (.if_icmp .ge 31, 3) := by decide +kernel
theorem d_MD_crash_164 : decode b_MD_crash 164 = .ok (.lload 9, 2) := by decide +kernel
theorem d_MD_crash_166 : decode b_MD_crash 166 = .ok (.bipush 8, 2) := by decide +kernel
theorem d_MD_crash_168 : decode b_MD_crash 168 = .ok (.lshl, 1) := by decide +kernel
theorem d_MD_crash_169 : decode b_MD_crash 169 = .ok (.aload_n 0, 1) := by decide +kernel
theorem d_MD_crash_170 : decode b_MD_crash 170 = .ok (.getfield 20, 3) := by decide +kernel
theorem d_MD_crash_173 : decode b_MD_crash 173 = .ok (.iload 4, 2) := by decide +kernel
theorem d_MD_crash_175 : decode b_MD_crash 175 = .ok (.bipush 9, 2) := by decide +kernel
theorem d_MD_crash_177 : decode b_MD_crash 177 = .ok (.iadd, 1) := by decide +kernel
theorem d_MD_crash_178 : decode b_MD_crash 178 = .ok (.iload 11, 2) := by decide +kernel
theorem d_MD_crash_180 : decode b_MD_crash 180 = .ok (.iadd, 1) := by decide +kernel
theorem d_MD_crash_181 : decode b_MD_crash 181 = .ok (.iaload, 1) := by decide +kernel
theorem d_MD_crash_182 : decode b_MD_crash 182 = .ok (.i2l, 1) := by decide +kernel
theorem d_MD_crash_183 : decode b_MD_crash 183 = .ok (.lor, 1) := by decide +kernel
theorem d_MD_crash_184 : decode b_MD_crash 184 = .ok (.lstore 9, 2) := by decide +kernel
theorem d_MD_crash_186 : decode b_MD_crash 186 = .ok (.iinc 11 1, 3) := by decide +kernel
theorem d_MD_crash_189 : decode b_MD_crash 189 = .ok (.goto (-35), 3) := by decide +kernel
theorem d_MD_crash_192 : decode b_MD_crash 192 = .ok (.aload_n 0, 1) := by decide +kernel
theorem d_MD_crash_193 : decode b_MD_crash 193 = .ok (.lload 6, 2) := by decide +kernel
theorem d_MD_crash_195 : decode b_MD_crash 195 = .ok (.lload 9, 2) := by decide +kernel
theorem d_MD_crash_197 : decode b_MD_crash 197 = .ok (.iload 8, 2) := by decide +kernel
theorem d_MD_crash_199 : decode b_MD_crash 199 = .ok (.invokevirtual 105, 3) := by decide +kernel
theorem d_MD_crash_202 : decode b_MD_crash 202 = .ok (.iload 4, 2) := by decide +kernel
theorem d_MD_crash_204 : decode b_MD_crash 204 = .ok (.iload 5, 2) := by decide +kernel
theorem d_MD_crash_206 : decode b_MD_crash 206 = .ok (.iadd, 1) := by decide +kernel
theorem d_MD_crash_207 : decode b_MD_crash 207 = .ok (.istore 4, 2) := by decide +kernel
theorem d_MD_crash_209 : decode b_MD_crash 209 = .ok (.aload_n 0, 1) := by decide +kernel
theorem d_MD_crash_210 : decode b_MD_crash 210 = .ok (.iload 4, 2) := by decide +kernel
theorem d_MD_crash_212 : decode b_MD_crash 212 = .ok (.iload_n 1, 1) := by decide +kernel
theorem d_MD_crash_213 : decode b_MD_crash 213 = .ok (.invokevirtual 261, 3) := by decide +kernel
theorem d_MD_crash_216 : decode b_MD_crash 216 = .ok (.istore 5, 2) := by decide +kernel
theorem d_MD_crash_218 : decode b_MD_crash 218 = .ok (.goto (-146), 3) := by decide +kernel
theorem d_MD_crash_221 : decode b_MD_crash 221 = .ok (.aload_n 0, 1) := by decide +kernel
theorem d_MD_crash_222 : decode b_MD_crash 222 = .ok (.iload 4, 2) := by decide +kernel
theorem d_MD_crash_224 : decode b_MD_crash 224 = .ok (.putfield 84, 3) := by decide +kernel
theorem d_MD_crash_227 : decode b_MD_crash 227 = .ok (.aload_n 0, 1) := by decide +kernel
theorem d_MD_crash_228 : decode b_MD_crash 228 = .ok (.getfield 73, 3) := by decide +kernel
theorem d_MD_crash_231 : decode b_MD_crash 231 = .ok (.ireturn, 1) := by decide +kernel
abbrev b_MD_wholeAt : ByteArray := prog_9_method_56_code
def y_MD_wholeAt : MethodName := ⟨"RunStoreModel", "wholeAt", "(II)I"⟩
theorem d_MD_wholeAt_0 : decode b_MD_wholeAt 0 = .ok (.iload_n 1, 1) := by decide +kernel
theorem d_MD_wholeAt_1 : decode b_MD_wholeAt 1 = .ok (.bipush 10, 2) := by decide +kernel
theorem d_MD_wholeAt_3 : decode b_MD_wholeAt 3 = .ok (.iadd, 1) := by decide +kernel
theorem d_MD_wholeAt_4 : decode b_MD_wholeAt 4 = .ok (.iload_n 2, 1) := by decide +kernel
theorem d_MD_wholeAt_5 : decode b_MD_wholeAt 5 = .ok (.if_icmp .le 5, 3) := by decide +kernel
theorem d_MD_wholeAt_8 : decode b_MD_wholeAt 8 = .ok (.iconst 0, 1) := by decide +kernel
theorem d_MD_wholeAt_9 : decode b_MD_wholeAt 9 = .ok (.ireturn, 1) := by decide +kernel
theorem d_MD_wholeAt_10 : decode b_MD_wholeAt 10 = .ok (.aload_n 0, 1) := by decide +kernel
theorem d_MD_wholeAt_11 : decode b_MD_wholeAt 11 = .ok (.getfield 20, 3) := by decide +kernel
theorem d_MD_wholeAt_14 : decode b_MD_wholeAt 14 = .ok (.iload_n 1, 1) := by decide +kernel
theorem d_MD_wholeAt_15 : decode b_MD_wholeAt 15 = .ok (.bipush 8, 2) := by decide +kernel
theorem d_MD_wholeAt_17 : decode b_MD_wholeAt 17 = .ok (.iadd, 1) := by decide +kernel
theorem d_MD_wholeAt_18 : decode b_MD_wholeAt 18 = .ok (.iaload, 1) := by decide +kernel
theorem d_MD_wholeAt_19 : decode b_MD_wholeAt 19 = .ok (.istore_n 3, 1) := by decide +kernel
theorem d_MD_wholeAt_20 : decode b_MD_wholeAt 20 = .ok (.iload_n 3, 1) := by decide +kernel
theorem d_MD_wholeAt_21 : decode b_MD_wholeAt 21 = .ok (.bipush 8, 2) := by decide +kernel
theorem d_MD_wholeAt_23 : decode b_MD_wholeAt 23 = .ok (.if_icmp .le 12, 3) := by decide +kernel
theorem d_MD_wholeAt_26 : decode b_MD_wholeAt 26 = .ok (.iload_n 3, 1) := by decide +kernel
theorem d_MD_wholeAt_27 : decode b_MD_wholeAt 27 = .ok (.sipush 255, 3) := by decide +kernel
theorem d_MD_wholeAt_30 : decode b_MD_wholeAt 30 = .ok (.if_icmp .eq 5, 3) := by decide +kernel
theorem d_MD_wholeAt_33 : decode b_MD_wholeAt 33 = .ok (.iconst 0, 1) := by decide +kernel
theorem d_MD_wholeAt_34 : decode b_MD_wholeAt 34 = .ok (.ireturn, 1) := by decide +kernel
theorem d_MD_wholeAt_35 : decode b_MD_wholeAt 35 = .ok (.iload_n 1, 1) := by decide +kernel
theorem d_MD_wholeAt_36 : decode b_MD_wholeAt 36 = .ok (.bipush 9, 2) := by decide +kernel
theorem d_MD_wholeAt_38 : decode b_MD_wholeAt 38 = .ok (.iadd, 1) := by decide +kernel
theorem d_MD_wholeAt_39 : decode b_MD_wholeAt 39 = .ok (.iload_n 3, 1) := by decide +kernel
theorem d_MD_wholeAt_40 : decode b_MD_wholeAt 40 = .ok (.invokestatic 87, 3) := by decide +kernel
theorem d_MD_wholeAt_43 : decode b_MD_wholeAt 43 = .ok (.iadd, 1) := by decide +kernel
theorem d_MD_wholeAt_44 : decode b_MD_wholeAt 44 = .ok (.istore 4, 2) := by decide +kernel
theorem d_MD_wholeAt_46 : decode b_MD_wholeAt 46 = .ok (.iload 4, 2) := by decide +kernel
theorem d_MD_wholeAt_48 : decode b_MD_wholeAt 48 = .ok (.iload_n 2, 1) := by decide +kernel
theorem d_MD_wholeAt_49 : decode b_MD_wholeAt 49 = .ok (.if_icmp .ge 20, 3) := by decide +kernel
theorem d_MD_wholeAt_52 : decode b_MD_wholeAt 52 = .ok (.aload_n 0, 1) := by decide +kernel
theorem d_MD_wholeAt_53 : decode b_MD_wholeAt 53 = .ok (.iload_n 1, 1) := by decide +kernel
theorem d_MD_wholeAt_54 : decode b_MD_wholeAt 54 = .ok (.iload 4, 2) := by decide +kernel
theorem d_MD_wholeAt_56 : decode b_MD_wholeAt 56 = .ok (.invokevirtual 101, 3) := by decide +kernel
theorem d_MD_wholeAt_59 : decode b_MD_wholeAt 59 = .ok (.aload_n 0, 1) := by decide +kernel
theorem d_MD_wholeAt_60 : decode b_MD_wholeAt 60 = .ok (.getfield 20, 3) := by decide +kernel
theorem d_MD_wholeAt_63 : decode b_MD_wholeAt 63 = .ok (.iload 4, 2) := by decide +kernel
theorem d_MD_wholeAt_65 : decode b_MD_wholeAt 65 = .ok (.iaload, 1) := by decide +kernel
theorem d_MD_wholeAt_66 : decode b_MD_wholeAt 66 = .ok (.if_icmp .eq 7, 3) := by decide +kernel
theorem d_MD_wholeAt_69 : decode b_MD_wholeAt 69 = .ok (.iconst 0, 1) := by decide +kernel
theorem d_MD_wholeAt_70 : decode b_MD_wholeAt 70 = .ok (.goto 9, 3) := by decide +kernel
theorem d_MD_wholeAt_73 : decode b_MD_wholeAt 73 = .ok (.iload 4, 2) := by decide +kernel
theorem d_MD_wholeAt_75 : decode b_MD_wholeAt 75 = .ok (.iconst 1, 1) := by decide +kernel
theorem d_MD_wholeAt_76 : decode b_MD_wholeAt 76 = .ok (.iadd, 1) := by decide +kernel
theorem d_MD_wholeAt_77 : decode b_MD_wholeAt 77 = .ok (.iload_n 1, 1) := by decide +kernel
theorem d_MD_wholeAt_78 : decode b_MD_wholeAt 78 = .ok (.isub, 1) := by decide +kernel
theorem d_MD_wholeAt_79 : decode b_MD_wholeAt 79 = .ok (.ireturn, 1) := by decide +kernel
abbrev b_MD_badAt : ByteArray := prog_9_method_58_code
def y_MD_badAt : MethodName := ⟨"RunStoreModel", "badAt", "()I"⟩
theorem d_MD_badAt_0 : decode b_MD_badAt 0 = .ok (.aload_n 0, 1) := by decide +kernel
theorem d_MD_badAt_1 : decode b_MD_badAt 1 = .ok (.iconst 0, 1) := by decide +kernel
theorem d_MD_badAt_2 : decode b_MD_badAt 2 = .ok (.putfield 70, 3) := by decide +kernel
theorem d_MD_badAt_5 : decode b_MD_badAt 5 = .ok (.aload_n 0, 1) := by decide +kernel
theorem d_MD_badAt_6 : decode b_MD_badAt 6 = .ok (.getfield 48, 3) := by decide +kernel
theorem d_MD_badAt_9 : decode b_MD_badAt 9 = .ok (.ireturn, 1) := by decide +kernel
abbrev b_MD_check : ByteArray := prog_9_method_59_code
def y_MD_check : MethodName := ⟨"RunStoreModel", "check", "()I"⟩
theorem d_MD_check_0 : decode b_MD_check 0 = .ok (.aload_n 0, 1) := by decide +kernel
theorem d_MD_check_1 : decode b_MD_check 1 = .ok (.iconst 0, 1) := by decide +kernel
theorem d_MD_check_2 : decode b_MD_check 2 = .ok (.putfield 70, 3) := by decide +kernel
theorem d_MD_check_5 : decode b_MD_check 5 = .ok (.iconst (-1), 1) := by decide +kernel
theorem d_MD_check_6 : decode b_MD_check 6 = .ok (.istore_n 1, 1) := by decide +kernel
theorem d_MD_check_7 : decode b_MD_check 7 = .ok (.iconst 0, 1) := by decide +kernel
theorem d_MD_check_8 : decode b_MD_check 8 = .ok (.istore_n 2, 1) := by decide +kernel
theorem d_MD_check_9 : decode b_MD_check 9 = .ok (.iload_n 2, 1) := by decide +kernel
theorem d_MD_check_10 : decode b_MD_check 10 = .ok (.aload_n 0, 1) := by decide +kernel
theorem d_MD_check_11 : decode b_MD_check 11 = .ok (.getfield 136, 3) := by decide +kernel
theorem d_MD_check_14 : decode b_MD_check 14 = .ok (.if_icmp .ge 71, 3) := by decide +kernel
theorem d_MD_check_17 : decode b_MD_check 17 = .ok (.iconst 0, 1) := by decide +kernel
theorem d_MD_check_18 : decode b_MD_check 18 = .ok (.istore_n 3, 1) := by decide +kernel
theorem d_MD_check_19 : decode b_MD_check 19 = .ok (.iload_n 3, 1) := by decide +kernel
theorem d_MD_check_20 : decode b_MD_check 20 = .ok (.aload_n 0, 1) := by decide +kernel
theorem d_MD_check_21 : decode b_MD_check 21 = .ok (.getfield 39, 3) := by decide +kernel
theorem d_MD_check_24 : decode b_MD_check 24 = .ok (.iload_n 2, 1) := by decide +kernel
theorem d_MD_check_25 : decode b_MD_check 25 = .ok (.iaload, 1) := by decide +kernel
theorem d_MD_check_26 : decode b_MD_check 26 = .ok (.if_icmp .ge 53, 3) := by decide +kernel
theorem d_MD_check_29 : decode b_MD_check 29 = .ok (.aload_n 0, 1) := by decide +kernel
theorem d_MD_check_30 : decode b_MD_check 30 = .ok (.getfield 42, 3) := by decide +kernel
theorem d_MD_check_33 : decode b_MD_check 33 = .ok (.sipush 128, 3) := by decide +kernel
theorem d_MD_check_36 : decode b_MD_check 36 = .ok (.iload_n 2, 1) := by decide +kernel
theorem d_MD_check_37 : decode b_MD_check 37 = .ok (.imul, 1) := by decide +kernel
theorem d_MD_check_38 : decode b_MD_check 38 = .ok (.iload_n 3, 1) := by decide +kernel
theorem d_MD_check_39 : decode b_MD_check 39 = .ok (.iadd, 1) := by decide +kernel
theorem d_MD_check_40 : decode b_MD_check 40 = .ok (.iaload, 1) := by decide +kernel
theorem d_MD_check_41 : decode b_MD_check 41 = .ok (.istore 4, 2) := by decide +kernel
theorem d_MD_check_43 : decode b_MD_check 43 = .ok (.aload_n 0, 1) := by decide +kernel
theorem d_MD_check_44 : decode b_MD_check 44 = .ok (.getfield 26, 3) := by decide +kernel
theorem d_MD_check_47 : decode b_MD_check 47 = .ok (.iload 4, 2) := by decide +kernel
theorem d_MD_check_49 : decode b_MD_check 49 = .ok (.iaload, 1) := by decide +kernel
theorem d_MD_check_50 : decode b_MD_check 50 = .ok (.aload_n 0, 1) := by decide +kernel
theorem d_MD_check_51 : decode b_MD_check 51 = .ok (.iload 4, 2) := by decide +kernel
theorem d_MD_check_53 : decode b_MD_check 53 = .ok (.iload_n 3, 1) := by decide +kernel
theorem d_MD_check_54 : decode b_MD_check 54 = .ok (.invokevirtual 146, 3) := by decide +kernel
theorem d_MD_check_57 : decode b_MD_check 57 = .ok (.if_icmp .eq 16, 3) := by decide +kernel
theorem d_MD_check_60 : decode b_MD_check 60 = .ok (.iload_n 1, 1) := by decide +kernel
theorem d_MD_check_61 : decode b_MD_check 61 = .ok (.ifCond .lt 9, 3) := by decide +kernel
theorem d_MD_check_64 : decode b_MD_check 64 = .ok (.iload 4, 2) := by decide +kernel
theorem d_MD_check_66 : decode b_MD_check 66 = .ok (.iload_n 1, 1) := by decide +kernel
theorem d_MD_check_67 : decode b_MD_check 67 = .ok (.if_icmp .ge 6, 3) := by decide +kernel
theorem d_MD_check_70 : decode b_MD_check 70 = .ok (.iload 4, 2) := by decide +kernel
theorem d_MD_check_72 : decode b_MD_check 72 = .ok (.istore_n 1, 1) := by decide +kernel
theorem d_MD_check_73 : decode b_MD_check 73 = .ok (.iinc 3 1, 3) := by decide +kernel
theorem d_MD_check_76 : decode b_MD_check 76 = .ok (.goto (-57), 3) := by decide +kernel
theorem d_MD_check_79 : decode b_MD_check 79 = .ok (.iinc 2 1, 3) := by decide +kernel
theorem d_MD_check_82 : decode b_MD_check 82 = .ok (.goto (-73), 3) := by decide +kernel
theorem d_MD_check_85 : decode b_MD_check 85 = .ok (.iload_n 1, 1) := by decide +kernel
theorem d_MD_check_86 : decode b_MD_check 86 = .ok (.ireturn, 1) := by decide +kernel
abbrev b_MD_count : ByteArray := prog_9_method_60_code
def y_MD_count : MethodName := ⟨"RunStoreModel", "count", "(I)I"⟩
theorem d_MD_count_0 : decode b_MD_count 0 = .ok (.aload_n 0, 1) := by decide +kernel
theorem d_MD_count_1 : decode b_MD_count 1 = .ok (.iconst 0, 1) := by decide +kernel
theorem d_MD_count_2 : decode b_MD_count 2 = .ok (.putfield 70, 3) := by decide +kernel
theorem d_MD_count_5 : decode b_MD_count 5 = .ok (.iconst 0, 1) := by decide +kernel
theorem d_MD_count_6 : decode b_MD_count 6 = .ok (.istore_n 2, 1) := by decide +kernel
theorem d_MD_count_7 : decode b_MD_count 7 = .ok (.iconst 0, 1) := by decide +kernel
theorem d_MD_count_8 : decode b_MD_count 8 = .ok (.istore_n 3, 1) := by decide +kernel
theorem d_MD_count_9 : decode b_MD_count 9 = .ok (.iload_n 3, 1) := by decide +kernel
theorem d_MD_count_10 : decode b_MD_count 10 = .ok (.aload_n 0, 1) := by decide +kernel
theorem d_MD_count_11 : decode b_MD_count 11 = .ok (.getfield 136, 3) := by decide +kernel
theorem d_MD_count_14 : decode b_MD_count 14 = .ok (.if_icmp .ge 18, 3) := by decide +kernel
theorem d_MD_count_17 : decode b_MD_count 17 = .ok (.iload_n 2, 1) := by decide +kernel
theorem d_MD_count_18 : decode b_MD_count 18 = .ok (.aload_n 0, 1) := by decide +kernel
theorem d_MD_count_19 : decode b_MD_count 19 = .ok (.getfield 36, 3) := by decide +kernel
theorem d_MD_count_22 : decode b_MD_count 22 = .ok (.iload_n 3, 1) := by decide +kernel
theorem d_MD_count_23 : decode b_MD_count 23 = .ok (.iaload, 1) := by decide +kernel
theorem d_MD_count_24 : decode b_MD_count 24 = .ok (.iadd, 1) := by decide +kernel
theorem d_MD_count_25 : decode b_MD_count 25 = .ok (.istore_n 2, 1) := by decide +kernel
theorem d_MD_count_26 : decode b_MD_count 26 = .ok (.iinc 3 1, 3) := by decide +kernel
theorem d_MD_count_29 : decode b_MD_count 29 = .ok (.goto (-20), 3) := by decide +kernel
theorem d_MD_count_32 : decode b_MD_count 32 = .ok (.iload_n 1, 1) := by decide +kernel
theorem d_MD_count_33 : decode b_MD_count 33 = .ok (.tableswitch 84 0 7 #[47, 52, 57, 62, 67, 72, 77, 82], 47) := by decide +kernel
theorem d_MD_count_80 : decode b_MD_count 80 = .ok (.aload_n 0, 1) := by decide +kernel
theorem d_MD_count_81 : decode b_MD_count 81 = .ok (.getfield 67, 3) := by decide +kernel
theorem d_MD_count_84 : decode b_MD_count 84 = .ok (.ireturn, 1) := by decide +kernel
theorem d_MD_count_85 : decode b_MD_count 85 = .ok (.aload_n 0, 1) := by decide +kernel
theorem d_MD_count_86 : decode b_MD_count 86 = .ok (.getfield 73, 3) := by decide +kernel
theorem d_MD_count_89 : decode b_MD_count 89 = .ok (.ireturn, 1) := by decide +kernel
theorem d_MD_count_90 : decode b_MD_count 90 = .ok (.aload_n 0, 1) := by decide +kernel
theorem d_MD_count_91 : decode b_MD_count 91 = .ok (.getfield 84, 3) := by decide +kernel
theorem d_MD_count_94 : decode b_MD_count 94 = .ok (.ireturn, 1) := by decide +kernel
theorem d_MD_count_95 : decode b_MD_count 95 = .ok (.aload_n 0, 1) := by decide +kernel
theorem d_MD_count_96 : decode b_MD_count 96 = .ok (.getfield 136, 3) := by decide +kernel
theorem d_MD_count_99 : decode b_MD_count 99 = .ok (.ireturn, 1) := by decide +kernel
theorem d_MD_count_100 : decode b_MD_count 100 = .ok (.aload_n 0, 1) := by decide +kernel
theorem d_MD_count_101 : decode b_MD_count 101 = .ok (.invokevirtual 156, 3) := by decide +kernel
theorem d_MD_count_104 : decode b_MD_count 104 = .ok (.ireturn, 1) := by decide +kernel
theorem d_MD_count_105 : decode b_MD_count 105 = .ok (.aload_n 0, 1) := by decide +kernel
theorem d_MD_count_106 : decode b_MD_count 106 = .ok (.getfield 174, 3) := by decide +kernel
theorem d_MD_count_109 : decode b_MD_count 109 = .ok (.ireturn, 1) := by decide +kernel
theorem d_MD_count_110 : decode b_MD_count 110 = .ok (.aload_n 0, 1) := by decide +kernel
theorem d_MD_count_111 : decode b_MD_count 111 = .ok (.getfield 222, 3) := by decide +kernel
theorem d_MD_count_114 : decode b_MD_count 114 = .ok (.ireturn, 1) := by decide +kernel
theorem d_MD_count_115 : decode b_MD_count 115 = .ok (.iload_n 2, 1) := by decide +kernel
theorem d_MD_count_116 : decode b_MD_count 116 = .ok (.ireturn, 1) := by decide +kernel
theorem d_MD_count_117 : decode b_MD_count 117 = .ok (.iconst (-1), 1) := by decide +kernel
theorem d_MD_count_118 : decode b_MD_count 118 = .ok (.ireturn, 1) := by decide +kernel
