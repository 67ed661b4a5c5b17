abbrev b_LW_cell : ByteArray := method_2_code
def y_LW_cell : MethodName := ⟨"RunStoreLaw", "cell", "([II)I"⟩
theorem d_LW_cell_0 : decode b_LW_cell 0 = .ok (.iload_n 1, 1) := by decide +kernel
theorem d_LW_cell_1 : decode b_LW_cell 1 = .ok (.aload_n 0, 1) := by decide +kernel
theorem d_LW_cell_2 : decode b_LW_cell 2 = .ok (.arraylength, 1) := by decide +kernel
theorem d_LW_cell_3 : decode b_LW_cell 3 = .ok (.if_icmp .ge 9, 3) := by decide +kernel
theorem d_LW_cell_6 : decode b_LW_cell 6 = .ok (.aload_n 0, 1) := by decide +kernel
theorem d_LW_cell_7 : decode b_LW_cell 7 = .ok (.iload_n 1, 1) := by decide +kernel
theorem d_LW_cell_8 : decode b_LW_cell 8 = .ok (.iaload, 1) := by decide +kernel
theorem d_LW_cell_9 : decode b_LW_cell 9 = .ok (.goto 4, 3) := by decide +kernel
theorem d_LW_cell_12 : decode b_LW_cell 12 = .ok (.iconst 0, 1) := by decide +kernel
theorem d_LW_cell_13 : decode b_LW_cell 13 = .ok (.ireturn, 1) := by decide +kernel
abbrev b_LW_put : ByteArray := method_3_code
def y_LW_put : MethodName := ⟨"RunStoreLaw", "put", "(LRunStore;JJI[J)I"⟩
theorem d_LW_put_0 : decode b_LW_put 0 = .ok (.aload 6, 2) := by decide +kernel
theorem d_LW_put_2 : decode b_LW_put 2 = .ok (.iconst 0, 1) := by decide +kernel
theorem d_LW_put_3 : decode b_LW_put 3 = .ok (.aload_n 0, 1) := by decide +kernel
theorem d_LW_put_4 : decode b_LW_put 4 = .ok (.lload_n 1, 1) := by decide +kernel
theorem d_LW_put_5 : decode b_LW_put 5 = .ok (.lload_n 3, 1) := by decide +kernel
theorem d_LW_put_6 : decode b_LW_put 6 = .ok (.iload 5, 2) := by decide +kernel
theorem d_LW_put_8 : decode b_LW_put 8 = .ok (.invokevirtual 7, 3) := by decide +kernel
theorem d_LW_put_11 : decode b_LW_put 11 = .ok (.i2l, 1) := by decide +kernel
theorem d_LW_put_12 : decode b_LW_put 12 = .ok (.lastore, 1) := by decide +kernel
theorem d_LW_put_13 : decode b_LW_put 13 = .ok (.goto 11, 3) := by decide +kernel
theorem d_LW_put_16 : decode b_LW_put 16 = .ok (.astore 7, 2) := by decide +kernel
theorem d_LW_put_18 : decode b_LW_put 18 = .ok (.iconst 1, 1) := by decide +kernel
theorem d_LW_put_19 : decode b_LW_put 19 = .ok (.ireturn, 1) := by decide +kernel
theorem d_LW_put_20 : decode b_LW_put 20 = .ok (.astore 7, 2) := by decide +kernel
theorem d_LW_put_22 : decode b_LW_put 22 = .ok (.iconst 2, 1) := by decide +kernel
theorem d_LW_put_23 : decode b_LW_put 23 = .ok (.ireturn, 1) := by decide +kernel
theorem d_LW_put_24 : decode b_LW_put 24 = .ok (.iconst 0, 1) := by decide +kernel
theorem d_LW_put_25 : decode b_LW_put 25 = .ok (.ireturn, 1) := by decide +kernel
abbrev b_LW_drop : ByteArray := method_4_code
def y_LW_drop : MethodName := ⟨"RunStoreLaw", "drop", "(LRunStore;J[J)I"⟩
theorem d_LW_drop_0 : decode b_LW_drop 0 = .ok (.aload_n 3, 1) := by decide +kernel
theorem d_LW_drop_1 : decode b_LW_drop 1 = .ok (.iconst 0, 1) := by decide +kernel
theorem d_LW_drop_2 : decode b_LW_drop 2 = .ok (.aload_n 0, 1) := by decide +kernel
theorem d_LW_drop_3 : decode b_LW_drop 3 = .ok (.lload_n 1, 1) := by decide +kernel
theorem d_LW_drop_4 : decode b_LW_drop 4 = .ok (.invokevirtual 17, 3) := by decide +kernel
theorem d_LW_drop_7 : decode b_LW_drop 7 = .ok (.i2l, 1) := by decide +kernel
theorem d_LW_drop_8 : decode b_LW_drop 8 = .ok (.lastore, 1) := by decide +kernel
theorem d_LW_drop_9 : decode b_LW_drop 9 = .ok (.goto 7, 3) := by decide +kernel
theorem d_LW_drop_12 : decode b_LW_drop 12 = .ok (.astore 4, 2) := by decide +kernel
theorem d_LW_drop_14 : decode b_LW_drop 14 = .ok (.iconst 1, 1) := by decide +kernel
theorem d_LW_drop_15 : decode b_LW_drop 15 = .ok (.ireturn, 1) := by decide +kernel
theorem d_LW_drop_16 : decode b_LW_drop 16 = .ok (.iconst 0, 1) := by decide +kernel
theorem d_LW_drop_17 : decode b_LW_drop 17 = .ok (.ireturn, 1) := by decide +kernel
abbrev b_LW_flush : ByteArray := method_5_code
def y_LW_flush : MethodName := ⟨"RunStoreLaw", "flush", "(LRunStore;[J)I"⟩
theorem d_LW_flush_0 : decode b_LW_flush 0 = .ok (.aload_n 1, 1) := by decide +kernel
theorem d_LW_flush_1 : decode b_LW_flush 1 = .ok (.iconst 0, 1) := by decide +kernel
theorem d_LW_flush_2 : decode b_LW_flush 2 = .ok (.aload_n 0, 1) := by decide +kernel
theorem d_LW_flush_3 : decode b_LW_flush 3 = .ok (.invokevirtual 21, 3) := by decide +kernel
theorem d_LW_flush_6 : decode b_LW_flush 6 = .ok (.i2l, 1) := by decide +kernel
theorem d_LW_flush_7 : decode b_LW_flush 7 = .ok (.lastore, 1) := by decide +kernel
theorem d_LW_flush_8 : decode b_LW_flush 8 = .ok (.goto 9, 3) := by decide +kernel
theorem d_LW_flush_11 : decode b_LW_flush 11 = .ok (.astore_n 2, 1) := by decide +kernel
theorem d_LW_flush_12 : decode b_LW_flush 12 = .ok (.iconst 1, 1) := by decide +kernel
theorem d_LW_flush_13 : decode b_LW_flush 13 = .ok (.ireturn, 1) := by decide +kernel
theorem d_LW_flush_14 : decode b_LW_flush 14 = .ok (.astore_n 2, 1) := by decide +kernel
theorem d_LW_flush_15 : decode b_LW_flush 15 = .ok (.iconst 2, 1) := by decide +kernel
theorem d_LW_flush_16 : decode b_LW_flush 16 = .ok (.ireturn, 1) := by decide +kernel
theorem d_LW_flush_17 : decode b_LW_flush 17 = .ok (.iconst 0, 1) := by decide +kernel
theorem d_LW_flush_18 : decode b_LW_flush 18 = .ok (.ireturn, 1) := by decide +kernel
abbrev b_LW_join : ByteArray := method_6_code
def y_LW_join : MethodName := ⟨"RunStoreLaw", "join", "(LRunStore;I[J)I"⟩
theorem d_LW_join_0 : decode b_LW_join 0 = .ok (.aload_n 2, 1) := by decide +kernel
theorem d_LW_join_1 : decode b_LW_join 1 = .ok (.iconst 0, 1) := by decide +kernel
theorem d_LW_join_2 : decode b_LW_join 2 = .ok (.aload_n 0, 1) := by decide +kernel
theorem d_LW_join_3 : decode b_LW_join 3 = .ok (.iload_n 1, 1) := by decide +kernel
theorem d_LW_join_4 : decode b_LW_join 4 = .ok (.invokevirtual 27, 3) := by decide +kernel
theorem d_LW_join_7 : decode b_LW_join 7 = .ok (.i2l, 1) := by decide +kernel
theorem d_LW_join_8 : decode b_LW_join 8 = .ok (.lastore, 1) := by decide +kernel
theorem d_LW_join_9 : decode b_LW_join 9 = .ok (.goto 12, 3) := by decide +kernel
theorem d_LW_join_12 : decode b_LW_join 12 = .ok (.astore_n 3, 1) := by decide +kernel
theorem d_LW_join_13 : decode b_LW_join 13 = .ok (.iconst 1, 1) := by decide +kernel
theorem d_LW_join_14 : decode b_LW_join 14 = .ok (.ireturn, 1) := by decide +kernel
theorem d_LW_join_15 : decode b_LW_join 15 = .ok (.astore_n 3, 1) := by decide +kernel
theorem d_LW_join_16 : decode b_LW_join 16 = .ok (.iconst 2, 1) := by decide +kernel
theorem d_LW_join_17 : decode b_LW_join 17 = .ok (.ireturn, 1) := by decide +kernel
theorem d_LW_join_18 : decode b_LW_join 18 = .ok (.astore_n 3, 1) := by decide +kernel
theorem d_LW_join_19 : decode b_LW_join 19 = .ok (.iconst 3, 1) := by decide +kernel
theorem d_LW_join_20 : decode b_LW_join 20 = .ok (.ireturn, 1) := by decide +kernel
theorem d_LW_join_21 : decode b_LW_join 21 = .ok (.iconst 0, 1) := by decide +kernel
theorem d_LW_join_22 : decode b_LW_join 22 = .ok (.ireturn, 1) := by decide +kernel
abbrev b_LW_find : ByteArray := method_7_code
def y_LW_find : MethodName := ⟨"RunStoreLaw", "find", "(LRunStore;J[J)I"⟩
theorem d_LW_find_0 : decode b_LW_find 0 = .ok (.aload_n 3, 1) := by decide +kernel
theorem d_LW_find_1 : decode b_LW_find 1 = .ok (.iconst 0, 1) := by decide +kernel
theorem d_LW_find_2 : decode b_LW_find 2 = .ok (.aload_n 0, 1) := by decide +kernel
theorem d_LW_find_3 : decode b_LW_find 3 = .ok (.lload_n 1, 1) := by decide +kernel
theorem d_LW_find_4 : decode b_LW_find 4 = .ok (.invokevirtual 31, 3) := by decide +kernel
theorem d_LW_find_7 : decode b_LW_find 7 = .ok (.lastore, 1) := by decide +kernel
theorem d_LW_find_8 : decode b_LW_find 8 = .ok (.goto 7, 3) := by decide +kernel
theorem d_LW_find_11 : decode b_LW_find 11 = .ok (.astore 4, 2) := by decide +kernel
theorem d_LW_find_13 : decode b_LW_find 13 = .ok (.iconst 1, 1) := by decide +kernel
theorem d_LW_find_14 : decode b_LW_find 14 = .ok (.ireturn, 1) := by decide +kernel
theorem d_LW_find_15 : decode b_LW_find 15 = .ok (.iconst 0, 1) := by decide +kernel
theorem d_LW_find_16 : decode b_LW_find 16 = .ok (.ireturn, 1) := by decide +kernel
abbrev b_LW_length : ByteArray := method_8_code
def y_LW_length : MethodName := ⟨"RunStoreLaw", "length", "(LRunStore;J[J)I"⟩
theorem d_LW_length_0 : decode b_LW_length 0 = .ok (.aload_n 3, 1) := by decide +kernel
theorem d_LW_length_1 : decode b_LW_length 1 = .ok (.iconst 0, 1) := by decide +kernel
theorem d_LW_length_2 : decode b_LW_length 2 = .ok (.aload_n 0, 1) := by decide +kernel
theorem d_LW_length_3 : decode b_LW_length 3 = .ok (.lload_n 1, 1) := by decide +kernel
theorem d_LW_length_4 : decode b_LW_length 4 = .ok (.invokevirtual 35, 3) := by decide +kernel
theorem d_LW_length_7 : decode b_LW_length 7 = .ok (.i2l, 1) := by decide +kernel
theorem d_LW_length_8 : decode b_LW_length 8 = .ok (.lastore, 1) := by decide +kernel
theorem d_LW_length_9 : decode b_LW_length 9 = .ok (.goto 7, 3) := by decide +kernel
theorem d_LW_length_12 : decode b_LW_length 12 = .ok (.astore 4, 2) := by decide +kernel
theorem d_LW_length_14 : decode b_LW_length 14 = .ok (.iconst 1, 1) := by decide +kernel
theorem d_LW_length_15 : decode b_LW_length 15 = .ok (.ireturn, 1) := by decide +kernel
theorem d_LW_length_16 : decode b_LW_length 16 = .ok (.iconst 0, 1) := by decide +kernel
theorem d_LW_length_17 : decode b_LW_length 17 = .ok (.ireturn, 1) := by decide +kernel
abbrev b_LW_after : ByteArray := method_9_code
def y_LW_after : MethodName := ⟨"RunStoreLaw", "after", "(LRunStore;J[J)I"⟩
theorem d_LW_after_0 : decode b_LW_after 0 = .ok (.aload_n 3, 1) := by decide +kernel
theorem d_LW_after_1 : decode b_LW_after 1 = .ok (.iconst 0, 1) := by decide +kernel
theorem d_LW_after_2 : decode b_LW_after 2 = .ok (.aload_n 0, 1) := by decide +kernel
theorem d_LW_after_3 : decode b_LW_after 3 = .ok (.lload_n 1, 1) := by decide +kernel
theorem d_LW_after_4 : decode b_LW_after 4 = .ok (.invokevirtual 38, 3) := by decide +kernel
theorem d_LW_after_7 : decode b_LW_after 7 = .ok (.lastore, 1) := by decide +kernel
theorem d_LW_after_8 : decode b_LW_after 8 = .ok (.goto 7, 3) := by decide +kernel
theorem d_LW_after_11 : decode b_LW_after 11 = .ok (.astore 4, 2) := by decide +kernel
theorem d_LW_after_13 : decode b_LW_after 13 = .ok (.iconst 1, 1) := by decide +kernel
theorem d_LW_after_14 : decode b_LW_after 14 = .ok (.ireturn, 1) := by decide +kernel
theorem d_LW_after_15 : decode b_LW_after 15 = .ok (.iconst 0, 1) := by decide +kernel
theorem d_LW_after_16 : decode b_LW_after 16 = .ok (.ireturn, 1) := by decide +kernel
abbrev b_LW_may : ByteArray := method_10_code
def y_LW_may : MethodName := ⟨"RunStoreLaw", "may", "(LRunStore;IJ[J)I"⟩
theorem d_LW_may_0 : decode b_LW_may 0 = .ok (.aload 4, 2) := by decide +kernel
theorem d_LW_may_2 : decode b_LW_may 2 = .ok (.iconst 0, 1) := by decide +kernel
theorem d_LW_may_3 : decode b_LW_may 3 = .ok (.aload_n 0, 1) := by decide +kernel
theorem d_LW_may_4 : decode b_LW_may 4 = .ok (.iload_n 1, 1) := by decide +kernel
theorem d_LW_may_5 : decode b_LW_may 5 = .ok (.lload_n 2, 1) := by decide +kernel
theorem d_LW_may_6 : decode b_LW_may 6 = .ok (.invokevirtual 41, 3) := by decide +kernel
theorem d_LW_may_9 : decode b_LW_may 9 = .ok (.ifCond .eq 7, 3) := by decide +kernel
theorem d_LW_may_12 : decode b_LW_may 12 = .ok (.lconst 1, 1) := by decide +kernel
theorem d_LW_may_13 : decode b_LW_may 13 = .ok (.goto 4, 3) := by decide +kernel
theorem d_LW_may_16 : decode b_LW_may 16 = .ok (.lconst 0, 1) := by decide +kernel
theorem d_LW_may_17 : decode b_LW_may 17 = .ok (.lastore, 1) := by decide +kernel
theorem d_LW_may_18 : decode b_LW_may 18 = .ok (.goto 7, 3) := by decide +kernel
theorem d_LW_may_21 : decode b_LW_may 21 = .ok (.astore 5, 2) := by decide +kernel
theorem d_LW_may_23 : decode b_LW_may 23 = .ok (.iconst 1, 1) := by decide +kernel
theorem d_LW_may_24 : decode b_LW_may 24 = .ok (.ireturn, 1) := by decide +kernel
theorem d_LW_may_25 : decode b_LW_may 25 = .ok (.iconst 0, 1) := by decide +kernel
theorem d_LW_may_26 : decode b_LW_may 26 = .ok (.ireturn, 1) := by decide +kernel
abbrev b_LW_table : ByteArray := method_11_code
def y_LW_table : MethodName := ⟨"RunStoreLaw", "table", "(LRunStore;II[J)I"⟩
theorem d_LW_table_0 : decode b_LW_table 0 = .ok (.aload_n 3, 1) := by decide +kernel
theorem d_LW_table_1 : decode b_LW_table 1 = .ok (.iconst 0, 1) := by decide +kernel
theorem d_LW_table_2 : decode b_LW_table 2 = .ok (.aload_n 0, 1) := by decide +kernel
theorem d_LW_table_3 : decode b_LW_table 3 = .ok (.iload_n 1, 1) := by decide +kernel
theorem d_LW_table_4 : decode b_LW_table 4 = .ok (.iload_n 2, 1) := by decide +kernel
theorem d_LW_table_5 : decode b_LW_table 5 = .ok (.invokevirtual 47, 3) := by decide +kernel
theorem d_LW_table_8 : decode b_LW_table 8 = .ok (.i2l, 1) := by decide +kernel
theorem d_LW_table_9 : decode b_LW_table 9 = .ok (.lastore, 1) := by decide +kernel
theorem d_LW_table_10 : decode b_LW_table 10 = .ok (.goto 7, 3) := by decide +kernel
theorem d_LW_table_13 : decode b_LW_table 13 = .ok (.astore 4, 2) := by decide +kernel
theorem d_LW_table_15 : decode b_LW_table 15 = .ok (.iconst 1, 1) := by decide +kernel
theorem d_LW_table_16 : decode b_LW_table 16 = .ok (.ireturn, 1) := by decide +kernel
theorem d_LW_table_17 : decode b_LW_table 17 = .ok (.iconst 0, 1) := by decide +kernel
theorem d_LW_table_18 : decode b_LW_table 18 = .ok (.ireturn, 1) := by decide +kernel
abbrev b_LW_byteAt : ByteArray := method_12_code
def y_LW_byteAt : MethodName := ⟨"RunStoreLaw", "byteAt", "(LRunStore;II[J)I"⟩
theorem d_LW_byteAt_0 : decode b_LW_byteAt 0 = .ok (.aload_n 3, 1) := by decide +kernel
theorem d_LW_byteAt_1 : decode b_LW_byteAt 1 = .ok (.iconst 0, 1) := by decide +kernel
theorem d_LW_byteAt_2 : decode b_LW_byteAt 2 = .ok (.aload_n 0, 1) := by decide +kernel
theorem d_LW_byteAt_3 : decode b_LW_byteAt 3 = .ok (.iload_n 1, 1) := by decide +kernel
theorem d_LW_byteAt_4 : decode b_LW_byteAt 4 = .ok (.iload_n 2, 1) := by decide +kernel
theorem d_LW_byteAt_5 : decode b_LW_byteAt 5 = .ok (.invokevirtual 51, 3) := by decide +kernel
theorem d_LW_byteAt_8 : decode b_LW_byteAt 8 = .ok (.i2l, 1) := by decide +kernel
theorem d_LW_byteAt_9 : decode b_LW_byteAt 9 = .ok (.lastore, 1) := by decide +kernel
theorem d_LW_byteAt_10 : decode b_LW_byteAt 10 = .ok (.goto 7, 3) := by decide +kernel
theorem d_LW_byteAt_13 : decode b_LW_byteAt 13 = .ok (.astore 4, 2) := by decide +kernel
theorem d_LW_byteAt_15 : decode b_LW_byteAt 15 = .ok (.iconst 1, 1) := by decide +kernel
theorem d_LW_byteAt_16 : decode b_LW_byteAt 16 = .ok (.ireturn, 1) := by decide +kernel
theorem d_LW_byteAt_17 : decode b_LW_byteAt 17 = .ok (.iconst 0, 1) := by decide +kernel
theorem d_LW_byteAt_18 : decode b_LW_byteAt 18 = .ok (.ireturn, 1) := by decide +kernel
abbrev b_LW_poke : ByteArray := method_13_code
def y_LW_poke : MethodName := ⟨"RunStoreLaw", "poke", "(LRunStore;III[J)I"⟩
theorem d_LW_poke_0 : decode b_LW_poke 0 = .ok (.aload 4, 2) := by decide +kernel
theorem d_LW_poke_2 : decode b_LW_poke 2 = .ok (.iconst 0, 1) := by decide +kernel
theorem d_LW_poke_3 : decode b_LW_poke 3 = .ok (.aload_n 0, 1) := by decide +kernel
theorem d_LW_poke_4 : decode b_LW_poke 4 = .ok (.iload_n 1, 1) := by decide +kernel
theorem d_LW_poke_5 : decode b_LW_poke 5 = .ok (.iload_n 2, 1) := by decide +kernel
theorem d_LW_poke_6 : decode b_LW_poke 6 = .ok (.iload_n 3, 1) := by decide +kernel
theorem d_LW_poke_7 : decode b_LW_poke 7 = .ok (.invokevirtual 54, 3) := by decide +kernel
theorem d_LW_poke_10 : decode b_LW_poke 10 = .ok (.i2l, 1) := by decide +kernel
theorem d_LW_poke_11 : decode b_LW_poke 11 = .ok (.lastore, 1) := by decide +kernel
theorem d_LW_poke_12 : decode b_LW_poke 12 = .ok (.goto 7, 3) := by decide +kernel
theorem d_LW_poke_15 : decode b_LW_poke 15 = .ok (.astore 5, 2) := by decide +kernel
theorem d_LW_poke_17 : decode b_LW_poke 17 = .ok (.iconst 1, 1) := by decide +kernel
theorem d_LW_poke_18 : decode b_LW_poke 18 = .ok (.ireturn, 1) := by decide +kernel
theorem d_LW_poke_19 : decode b_LW_poke 19 = .ok (.iconst 0, 1) := by decide +kernel
theorem d_LW_poke_20 : decode b_LW_poke 20 = .ok (.ireturn, 1) := by decide +kernel
abbrev b_LW_sum : ByteArray := method_14_code
def y_LW_sum : MethodName := ⟨"RunStoreLaw", "sum", "(LRunStore;I[J)I"⟩
theorem d_LW_sum_0 : decode b_LW_sum 0 = .ok (.aload_n 2, 1) := by decide +kernel
theorem d_LW_sum_1 : decode b_LW_sum 1 = .ok (.iconst 0, 1) := by decide +kernel
theorem d_LW_sum_2 : decode b_LW_sum 2 = .ok (.aload_n 0, 1) := by decide +kernel
theorem d_LW_sum_3 : decode b_LW_sum 3 = .ok (.iload_n 1, 1) := by decide +kernel
theorem d_LW_sum_4 : decode b_LW_sum 4 = .ok (.invokevirtual 58, 3) := by decide +kernel
theorem d_LW_sum_7 : decode b_LW_sum 7 = .ok (.i2l, 1) := by decide +kernel
theorem d_LW_sum_8 : decode b_LW_sum 8 = .ok (.lastore, 1) := by decide +kernel
theorem d_LW_sum_9 : decode b_LW_sum 9 = .ok (.goto 6, 3) := by decide +kernel
theorem d_LW_sum_12 : decode b_LW_sum 12 = .ok (.astore_n 3, 1) := by decide +kernel
theorem d_LW_sum_13 : decode b_LW_sum 13 = .ok (.iconst 1, 1) := by decide +kernel
theorem d_LW_sum_14 : decode b_LW_sum 14 = .ok (.ireturn, 1) := by decide +kernel
theorem d_LW_sum_15 : decode b_LW_sum 15 = .ok (.iconst 0, 1) := by decide +kernel
theorem d_LW_sum_16 : decode b_LW_sum 16 = .ok (.ireturn, 1) := by decide +kernel
abbrev b_LW_logged : ByteArray := method_15_code
def y_LW_logged : MethodName := ⟨"RunStoreLaw", "logged", "(LRunStore;I[J)I"⟩
theorem d_LW_logged_0 : decode b_LW_logged 0 = .ok (.aload_n 2, 1) := by decide +kernel
theorem d_LW_logged_1 : decode b_LW_logged 1 = .ok (.iconst 0, 1) := by decide +kernel
theorem d_LW_logged_2 : decode b_LW_logged 2 = .ok (.aload_n 0, 1) := by decide +kernel
theorem d_LW_logged_3 : decode b_LW_logged 3 = .ok (.iload_n 1, 1) := by decide +kernel
theorem d_LW_logged_4 : decode b_LW_logged 4 = .ok (.invokevirtual 61, 3) := by decide +kernel
theorem d_LW_logged_7 : decode b_LW_logged 7 = .ok (.i2l, 1) := by decide +kernel
theorem d_LW_logged_8 : decode b_LW_logged 8 = .ok (.lastore, 1) := by decide +kernel
theorem d_LW_logged_9 : decode b_LW_logged 9 = .ok (.goto 6, 3) := by decide +kernel
theorem d_LW_logged_12 : decode b_LW_logged 12 = .ok (.astore_n 3, 1) := by decide +kernel
theorem d_LW_logged_13 : decode b_LW_logged 13 = .ok (.iconst 1, 1) := by decide +kernel
theorem d_LW_logged_14 : decode b_LW_logged 14 = .ok (.ireturn, 1) := by decide +kernel
theorem d_LW_logged_15 : decode b_LW_logged 15 = .ok (.iconst 0, 1) := by decide +kernel
theorem d_LW_logged_16 : decode b_LW_logged 16 = .ok (.ireturn, 1) := by decide +kernel
abbrev b_LW_crash : ByteArray := method_16_code
def y_LW_crash : MethodName := ⟨"RunStoreLaw", "crash", "(LRunStore;III[J)I"⟩
theorem d_LW_crash_0 : decode b_LW_crash 0 = .ok (.aload 4, 2) := by decide +kernel
theorem d_LW_crash_2 : decode b_LW_crash 2 = .ok (.iconst 0, 1) := by decide +kernel
theorem d_LW_crash_3 : decode b_LW_crash 3 = .ok (.aload_n 0, 1) := by decide +kernel
theorem d_LW_crash_4 : decode b_LW_crash 4 = .ok (.iload_n 1, 1) := by decide +kernel
theorem d_LW_crash_5 : decode b_LW_crash 5 = .ok (.iload_n 2, 1) := by decide +kernel
theorem d_LW_crash_6 : decode b_LW_crash 6 = .ok (.iload_n 3, 1) := by decide +kernel
theorem d_LW_crash_7 : decode b_LW_crash 7 = .ok (.invokevirtual 64, 3) := by decide +kernel
theorem d_LW_crash_10 : decode b_LW_crash 10 = .ok (.i2l, 1) := by decide +kernel
theorem d_LW_crash_11 : decode b_LW_crash 11 = .ok (.lastore, 1) := by decide +kernel
theorem d_LW_crash_12 : decode b_LW_crash 12 = .ok (.goto 7, 3) := by decide +kernel
theorem d_LW_crash_15 : decode b_LW_crash 15 = .ok (.astore 5, 2) := by decide +kernel
theorem d_LW_crash_17 : decode b_LW_crash 17 = .ok (.iconst 1, 1) := by decide +kernel
theorem d_LW_crash_18 : decode b_LW_crash 18 = .ok (.ireturn, 1) := by decide +kernel
theorem d_LW_crash_19 : decode b_LW_crash 19 = .ok (.iconst 0, 1) := by decide +kernel
theorem d_LW_crash_20 : decode b_LW_crash 20 = .ok (.ireturn, 1) := by decide +kernel
abbrev b_LW_law : ByteArray := code
def y_LW_law : MethodName := ⟨"RunStoreLaw", "law", "([I)Z"⟩
theorem d_LW_law_0 : decode b_LW_law 0 = .ok (.new 8, 3) := by decide +kernel
theorem d_LW_law_3 : decode b_LW_law 3 = .ok (.dup, 1) := by decide +kernel
theorem d_LW_law_4 : decode b_LW_law 4 = .ok (.aload_n 0, 1) := by decide +kernel
theorem d_LW_law_5 : decode b_LW_law 5 = .ok (.iconst 0, 1) := by decide +kernel
theorem d_LW_law_6 : decode b_LW_law 6 = .ok (.invokestatic 67, 3) := by decide +kernel
theorem d_LW_law_9 : decode b_LW_law 9 = .ok (.invokespecial 73, 3) := by decide +kernel
theorem d_LW_law_12 : decode b_LW_law 12 = .ok (.astore_n 1, 1) := by decide +kernel
theorem d_LW_law_13 : decode b_LW_law 13 = .ok (.new 76, 3) := by decide +kernel
theorem d_LW_law_16 : decode b_LW_law 16 = .ok (.dup, 1) := by decide +kernel
theorem d_LW_law_17 : decode b_LW_law 17 = .ok (.aload_n 0, 1) := by decide +kernel
theorem d_LW_law_18 : decode b_LW_law 18 = .ok (.iconst 0, 1) := by decide +kernel
theorem d_LW_law_19 : decode b_LW_law 19 = .ok (.invokestatic 67, 3) := by decide +kernel
theorem d_LW_law_22 : decode b_LW_law 22 = .ok (.invokespecial 78, 3) := by decide +kernel
theorem d_LW_law_25 : decode b_LW_law 25 = .ok (.astore_n 2, 1) := by decide +kernel
theorem d_LW_law_26 : decode b_LW_law 26 = .ok (.iconst 1, 1) := by decide +kernel
theorem d_LW_law_27 : decode b_LW_law 27 = .ok (.newarray .long, 2) := by decide +kernel
theorem d_LW_law_29 : decode b_LW_law 29 = .ok (.astore_n 3, 1) := by decide +kernel
theorem d_LW_law_30 : decode b_LW_law 30 = .ok (.iconst 1, 1) := by decide +kernel
theorem d_LW_law_31 : decode b_LW_law 31 = .ok (.istore 4, 2) := by decide +kernel
theorem d_LW_law_33 : decode b_LW_law 33 = .ok (.iload 4, 2) := by decide +kernel
theorem d_LW_law_35 : decode b_LW_law 35 = .ok (.aload_n 0, 1) := by decide +kernel
theorem d_LW_law_36 : decode b_LW_law 36 = .ok (.arraylength, 1) := by decide +kernel
theorem d_LW_law_37 : decode b_LW_law 37 = .ok (.bipush 6, 2) := by decide +kernel
theorem d_LW_law_39 : decode b_LW_law 39 = .ok (.isub, 1) := by decide +kernel
theorem d_LW_law_40 : decode b_LW_law 40 = .ok (.if_icmp .gt 1258, 3) := by decide +kernel
theorem d_LW_law_43 : decode b_LW_law 43 = .ok (.aload_n 0, 1) := by decide +kernel
theorem d_LW_law_44 : decode b_LW_law 44 = .ok (.iload 4, 2) := by decide +kernel
theorem d_LW_law_46 : decode b_LW_law 46 = .ok (.iaload, 1) := by decide +kernel
theorem d_LW_law_47 : decode b_LW_law 47 = .ok (.bipush 31, 2) := by decide +kernel
theorem d_LW_law_49 : decode b_LW_law 49 = .ok (.iand, 1) := by decide +kernel
theorem d_LW_law_50 : decode b_LW_law 50 = .ok (.tableswitch 1242 0 16 #[82, 226, 314, 358, 414, 501, 589, 676, 783, 851, 919, 999, 1055, 1111, 1191, 1204, 1217], 82) := by decide +kernel
theorem d_LW_law_132 : decode b_LW_law 132 = .ok (.aload_n 1, 1) := by decide +kernel
theorem d_LW_law_133 : decode b_LW_law 133 = .ok (.aload_n 0, 1) := by decide +kernel
theorem d_LW_law_134 : decode b_LW_law 134 = .ok (.iload 4, 2) := by decide +kernel
theorem d_LW_law_136 : decode b_LW_law 136 = .ok (.iconst 1, 1) := by decide +kernel
theorem d_LW_law_137 : decode b_LW_law 137 = .ok (.iadd, 1) := by decide +kernel
theorem d_LW_law_138 : decode b_LW_law 138 = .ok (.iaload, 1) := by decide +kernel
theorem d_LW_law_139 : decode b_LW_law 139 = .ok (.i2l, 1) := by decide +kernel
theorem d_LW_law_140 : decode b_LW_law 140 = .ok (.bipush 32, 2) := by decide +kernel
theorem d_LW_law_142 : decode b_LW_law 142 = .ok (.lshl, 1) := by decide +kernel
theorem d_LW_law_143 : decode b_LW_law 143 = .ok (.aload_n 0, 1) := by decide +kernel
theorem d_LW_law_144 : decode b_LW_law 144 = .ok (.iload 4, 2) := by decide +kernel
theorem d_LW_law_146 : decode b_LW_law 146 = .ok (.iconst 2, 1) := by decide +kernel
theorem d_LW_law_147 : decode b_LW_law 147 = .ok (.iadd, 1) := by decide +kernel
theorem d_LW_law_148 : decode b_LW_law 148 = .ok (.iaload, 1) := by decide +kernel
theorem d_LW_law_149 : decode b_LW_law 149 = .ok (.i2l, 1) := by decide +kernel
theorem d_LW_law_150 : decode b_LW_law 150 = .ok (.ldc2_w 79, 3) := by decide +kernel
theorem d_LW_law_153 : decode b_LW_law 153 = .ok (.land, 1) := by decide +kernel
theorem d_LW_law_154 : decode b_LW_law 154 = .ok (.lor, 1) := by decide +kernel
theorem d_LW_law_155 : decode b_LW_law 155 = .ok (.aload_n 0, 1) := by decide +kernel
theorem d_LW_law_156 : decode b_LW_law 156 = .ok (.iload 4, 2) := by decide +kernel
theorem d_LW_law_158 : decode b_LW_law 158 = .ok (.iconst 3, 1) := by decide +kernel
theorem d_LW_law_159 : decode b_LW_law 159 = .ok (.iadd, 1) := by decide +kernel
theorem d_LW_law_160 : decode b_LW_law 160 = .ok (.iaload, 1) := by decide +kernel
theorem d_LW_law_161 : decode b_LW_law 161 = .ok (.i2l, 1) := by decide +kernel
theorem d_LW_law_162 : decode b_LW_law 162 = .ok (.bipush 32, 2) := by decide +kernel
theorem d_LW_law_164 : decode b_LW_law 164 = .ok (.lshl, 1) := by decide +kernel
theorem d_LW_law_165 : decode b_LW_law 165 = .ok (.aload_n 0, 1) := by decide +kernel
theorem d_LW_law_166 : decode b_LW_law 166 = .ok (.iload 4, 2) := by decide +kernel
theorem d_LW_law_168 : decode b_LW_law 168 = .ok (.iconst 4, 1) := by decide +kernel
theorem d_LW_law_169 : decode b_LW_law 169 = .ok (.iadd, 1) := by decide +kernel
theorem d_LW_law_170 : decode b_LW_law 170 = .ok (.iaload, 1) := by decide +kernel
theorem d_LW_law_171 : decode b_LW_law 171 = .ok (.i2l, 1) := by decide +kernel
theorem d_LW_law_172 : decode b_LW_law 172 = .ok (.ldc2_w 79, 3) := by decide +kernel
theorem d_LW_law_175 : decode b_LW_law 175 = .ok (.land, 1) := by decide +kernel
theorem d_LW_law_176 : decode b_LW_law 176 = .ok (.lor, 1) := by decide +kernel
theorem d_LW_law_177 : decode b_LW_law 177 = .ok (.aload_n 0, 1) := by decide +kernel
theorem d_LW_law_178 : decode b_LW_law 178 = .ok (.iload 4, 2) := by decide +kernel
theorem d_LW_law_180 : decode b_LW_law 180 = .ok (.iconst 5, 1) := by decide +kernel
theorem d_LW_law_181 : decode b_LW_law 181 = .ok (.iadd, 1) := by decide +kernel
theorem d_LW_law_182 : decode b_LW_law 182 = .ok (.iaload, 1) := by decide +kernel
theorem d_LW_law_183 : decode b_LW_law 183 = .ok (.aload_n 3, 1) := by decide +kernel
theorem d_LW_law_184 : decode b_LW_law 184 = .ok (.invokestatic 81, 3) := by decide +kernel
theorem d_LW_law_187 : decode b_LW_law 187 = .ok (.istore 5, 2) := by decide +kernel
theorem d_LW_law_189 : decode b_LW_law 189 = .ok (.aload_n 2, 1) := by decide +kernel
theorem d_LW_law_190 : decode b_LW_law 190 = .ok (.aload_n 0, 1) := by decide +kernel
theorem d_LW_law_191 : decode b_LW_law 191 = .ok (.iload 4, 2) := by decide +kernel
theorem d_LW_law_193 : decode b_LW_law 193 = .ok (.iconst 1, 1) := by decide +kernel
theorem d_LW_law_194 : decode b_LW_law 194 = .ok (.iadd, 1) := by decide +kernel
theorem d_LW_law_195 : decode b_LW_law 195 = .ok (.iaload, 1) := by decide +kernel
theorem d_LW_law_196 : decode b_LW_law 196 = .ok (.i2l, 1) := by decide +kernel
theorem d_LW_law_197 : decode b_LW_law 197 = .ok (.bipush 32, 2) := by decide +kernel
theorem d_LW_law_199 : decode b_LW_law 199 = .ok (.lshl, 1) := by decide +kernel
theorem d_LW_law_200 : decode b_LW_law 200 = .ok (.aload_n 0, 1) := by decide +kernel
theorem d_LW_law_201 : decode b_LW_law 201 = .ok (.iload 4, 2) := by decide +kernel
theorem d_LW_law_203 : decode b_LW_law 203 = .ok (.iconst 2, 1) := by decide +kernel
theorem d_LW_law_204 : decode b_LW_law 204 = .ok (.iadd, 1) := by decide +kernel
theorem d_LW_law_205 : decode b_LW_law 205 = .ok (.iaload, 1) := by decide +kernel
theorem d_LW_law_206 : decode b_LW_law 206 = .ok (.i2l, 1) := by decide +kernel
theorem d_LW_law_207 : decode b_LW_law 207 = .ok (.ldc2_w 79, 3) := by decide +kernel
theorem d_LW_law_210 : decode b_LW_law 210 = .ok (.land, 1) := by decide +kernel
theorem d_LW_law_211 : decode b_LW_law 211 = .ok (.lor, 1) := by decide +kernel
theorem d_LW_law_212 : decode b_LW_law 212 = .ok (.aload_n 0, 1) := by decide +kernel
theorem d_LW_law_213 : decode b_LW_law 213 = .ok (.iload 4, 2) := by decide +kernel
theorem d_LW_law_215 : decode b_LW_law 215 = .ok (.iconst 3, 1) := by decide +kernel
theorem d_LW_law_216 : decode b_LW_law 216 = .ok (.iadd, 1) := by decide +kernel
theorem d_LW_law_217 : decode b_LW_law 217 = .ok (.iaload, 1) := by decide +kernel
theorem d_LW_law_218 : decode b_LW_law 218 = .ok (.i2l, 1) := by decide +kernel
theorem d_LW_law_219 : decode b_LW_law 219 = .ok (.bipush 32, 2) := by decide +kernel
theorem d_LW_law_221 : decode b_LW_law 221 = .ok (.lshl, 1) := by decide +kernel
theorem d_LW_law_222 : decode b_LW_law 222 = .ok (.aload_n 0, 1) := by decide +kernel
theorem d_LW_law_223 : decode b_LW_law 223 = .ok (.iload 4, 2) := by decide +kernel
theorem d_LW_law_225 : decode b_LW_law 225 = .ok (.iconst 4, 1) := by decide +kernel
theorem d_LW_law_226 : decode b_LW_law 226 = .ok (.iadd, 1) := by decide +kernel
theorem d_LW_law_227 : decode b_LW_law 227 = .ok (.iaload, 1) := by decide +kernel
theorem d_LW_law_228 : decode b_LW_law 228 = .ok (.i2l, 1) := by decide +kernel
theorem d_LW_law_229 : decode b_LW_law 229 = .ok (.ldc2_w 79, 3) := by decide +kernel
theorem d_LW_law_232 : decode b_LW_law 232 = .ok (.land, 1) := by decide +kernel
theorem d_LW_law_233 : decode b_LW_law 233 = .ok (.lor, 1) := by decide +kernel
theorem d_LW_law_234 : decode b_LW_law 234 = .ok (.aload_n 0, 1) := by decide +kernel
theorem d_LW_law_235 : decode b_LW_law 235 = .ok (.iload 4, 2) := by decide +kernel
theorem d_LW_law_237 : decode b_LW_law 237 = .ok (.iconst 5, 1) := by decide +kernel
theorem d_LW_law_238 : decode b_LW_law 238 = .ok (.iadd, 1) := by decide +kernel
theorem d_LW_law_239 : decode b_LW_law 239 = .ok (.iaload, 1) := by decide +kernel
theorem d_LW_law_240 : decode b_LW_law 240 = .ok (.invokevirtual 84, 3) := by decide +kernel
theorem d_LW_law_243 : decode b_LW_law 243 = .ok (.istore 6, 2) := by decide +kernel
theorem d_LW_law_245 : decode b_LW_law 245 = .ok (.aload_n 2, 1) := by decide +kernel
theorem d_LW_law_246 : decode b_LW_law 246 = .ok (.invokevirtual 85, 3) := by decide +kernel
theorem d_LW_law_249 : decode b_LW_law 249 = .ok (.iload 5, 2) := by decide +kernel
theorem d_LW_law_251 : decode b_LW_law 251 = .ok (.if_icmp .eq 5, 3) := by decide +kernel
theorem d_LW_law_254 : decode b_LW_law 254 = .ok (.iconst 0, 1) := by decide +kernel
theorem d_LW_law_255 : decode b_LW_law 255 = .ok (.ireturn, 1) := by decide +kernel
theorem d_LW_law_256 : decode b_LW_law 256 = .ok (.iload 5, 2) := by decide +kernel
theorem d_LW_law_258 : decode b_LW_law 258 = .ok (.ifCond .ne 15, 3) := by decide +kernel
theorem d_LW_law_261 : decode b_LW_law 261 = .ok (.aload_n 3, 1) := by decide +kernel
theorem d_LW_law_262 : decode b_LW_law 262 = .ok (.iconst 0, 1) := by decide +kernel
theorem d_LW_law_263 : decode b_LW_law 263 = .ok (.laload, 1) := by decide +kernel
theorem d_LW_law_264 : decode b_LW_law 264 = .ok (.iload 6, 2) := by decide +kernel
theorem d_LW_law_266 : decode b_LW_law 266 = .ok (.i2l, 1) := by decide +kernel
theorem d_LW_law_267 : decode b_LW_law 267 = .ok (.lcmp, 1) := by decide +kernel
theorem d_LW_law_268 : decode b_LW_law 268 = .ok (.ifCond .eq 5, 3) := by decide +kernel
theorem d_LW_law_271 : decode b_LW_law 271 = .ok (.iconst 0, 1) := by decide +kernel
theorem d_LW_law_272 : decode b_LW_law 272 = .ok (.ireturn, 1) := by decide +kernel
theorem d_LW_law_273 : decode b_LW_law 273 = .ok (.goto 1019, 3) := by decide +kernel
theorem d_LW_law_276 : decode b_LW_law 276 = .ok (.aload_n 1, 1) := by decide +kernel
theorem d_LW_law_277 : decode b_LW_law 277 = .ok (.aload_n 0, 1) := by decide +kernel
theorem d_LW_law_278 : decode b_LW_law 278 = .ok (.iload 4, 2) := by decide +kernel
theorem d_LW_law_280 : decode b_LW_law 280 = .ok (.iconst 1, 1) := by decide +kernel
theorem d_LW_law_281 : decode b_LW_law 281 = .ok (.iadd, 1) := by decide +kernel
theorem d_LW_law_282 : decode b_LW_law 282 = .ok (.iaload, 1) := by decide +kernel
theorem d_LW_law_283 : decode b_LW_law 283 = .ok (.i2l, 1) := by decide +kernel
theorem d_LW_law_284 : decode b_LW_law 284 = .ok (.bipush 32, 2) := by decide +kernel
theorem d_LW_law_286 : decode b_LW_law 286 = .ok (.lshl, 1) := by decide +kernel
theorem d_LW_law_287 : decode b_LW_law 287 = .ok (.aload_n 0, 1) := by decide +kernel
theorem d_LW_law_288 : decode b_LW_law 288 = .ok (.iload 4, 2) := by decide +kernel
theorem d_LW_law_290 : decode b_LW_law 290 = .ok (.iconst 2, 1) := by decide +kernel
theorem d_LW_law_291 : decode b_LW_law 291 = .ok (.iadd, 1) := by decide +kernel
theorem d_LW_law_292 : decode b_LW_law 292 = .ok (.iaload, 1) := by decide +kernel
theorem d_LW_law_293 : decode b_LW_law 293 = .ok (.i2l, 1) := by decide +kernel
theorem d_LW_law_294 : decode b_LW_law 294 = .ok (.ldc2_w 79, 3) := by decide +kernel
theorem d_LW_law_297 : decode b_LW_law 297 = .ok (.land, 1) := by decide +kernel
theorem d_LW_law_298 : decode b_LW_law 298 = .ok (.lor, 1) := by decide +kernel
theorem d_LW_law_299 : decode b_LW_law 299 = .ok (.aload_n 3, 1) := by decide +kernel
theorem d_LW_law_300 : decode b_LW_law 300 = .ok (.invokestatic 88, 3) := by decide +kernel
theorem d_LW_law_303 : decode b_LW_law 303 = .ok (.istore 5, 2) := by decide +kernel
theorem d_LW_law_305 : decode b_LW_law 305 = .ok (.aload_n 2, 1) := by decide +kernel
theorem d_LW_law_306 : decode b_LW_law 306 = .ok (.aload_n 0, 1) := by decide +kernel
theorem d_LW_law_307 : decode b_LW_law 307 = .ok (.iload 4, 2) := by decide +kernel
theorem d_LW_law_309 : decode b_LW_law 309 = .ok (.iconst 1, 1) := by decide +kernel
theorem d_LW_law_310 : decode b_LW_law 310 = .ok (.iadd, 1) := by decide +kernel
theorem d_LW_law_311 : decode b_LW_law 311 = .ok (.iaload, 1) := by decide +kernel
theorem d_LW_law_312 : decode b_LW_law 312 = .ok (.i2l, 1) := by decide +kernel
theorem d_LW_law_313 : decode b_LW_law 313 = .ok (.bipush 32, 2) := by decide +kernel
theorem d_LW_law_315 : decode b_LW_law 315 = .ok (.lshl, 1) := by decide +kernel
theorem d_LW_law_316 : decode b_LW_law 316 = .ok (.aload_n 0, 1) := by decide +kernel
theorem d_LW_law_317 : decode b_LW_law 317 = .ok (.iload 4, 2) := by decide +kernel
theorem d_LW_law_319 : decode b_LW_law 319 = .ok (.iconst 2, 1) := by decide +kernel
theorem d_LW_law_320 : decode b_LW_law 320 = .ok (.iadd, 1) := by decide +kernel
theorem d_LW_law_321 : decode b_LW_law 321 = .ok (.iaload, 1) := by decide +kernel
theorem d_LW_law_322 : decode b_LW_law 322 = .ok (.i2l, 1) := by decide +kernel
theorem d_LW_law_323 : decode b_LW_law 323 = .ok (.ldc2_w 79, 3) := by decide +kernel
theorem d_LW_law_326 : decode b_LW_law 326 = .ok (.land, 1) := by decide +kernel
theorem d_LW_law_327 : decode b_LW_law 327 = .ok (.lor, 1) := by decide +kernel
theorem d_LW_law_328 : decode b_LW_law 328 = .ok (.invokevirtual 91, 3) := by decide +kernel
theorem d_LW_law_331 : decode b_LW_law 331 = .ok (.istore 6, 2) := by decide +kernel
theorem d_LW_law_333 : decode b_LW_law 333 = .ok (.aload_n 2, 1) := by decide +kernel
theorem d_LW_law_334 : decode b_LW_law 334 = .ok (.invokevirtual 85, 3) := by decide +kernel
theorem d_LW_law_337 : decode b_LW_law 337 = .ok (.iload 5, 2) := by decide +kernel
theorem d_LW_law_339 : decode b_LW_law 339 = .ok (.if_icmp .eq 5, 3) := by decide +kernel
theorem d_LW_law_342 : decode b_LW_law 342 = .ok (.iconst 0, 1) := by decide +kernel
theorem d_LW_law_343 : decode b_LW_law 343 = .ok (.ireturn, 1) := by decide +kernel
theorem d_LW_law_344 : decode b_LW_law 344 = .ok (.iload 5, 2) := by decide +kernel
theorem d_LW_law_346 : decode b_LW_law 346 = .ok (.ifCond .ne 15, 3) := by decide +kernel
theorem d_LW_law_349 : decode b_LW_law 349 = .ok (.aload_n 3, 1) := by decide +kernel
theorem d_LW_law_350 : decode b_LW_law 350 = .ok (.iconst 0, 1) := by decide +kernel
theorem d_LW_law_351 : decode b_LW_law 351 = .ok (.laload, 1) := by decide +kernel
theorem d_LW_law_352 : decode b_LW_law 352 = .ok (.iload 6, 2) := by decide +kernel
theorem d_LW_law_354 : decode b_LW_law 354 = .ok (.i2l, 1) := by decide +kernel
theorem d_LW_law_355 : decode b_LW_law 355 = .ok (.lcmp, 1) := by decide +kernel
theorem d_LW_law_356 : decode b_LW_law 356 = .ok (.ifCond .eq 5, 3) := by decide +kernel
theorem d_LW_law_359 : decode b_LW_law 359 = .ok (.iconst 0, 1) := by decide +kernel
theorem d_LW_law_360 : decode b_LW_law 360 = .ok (.ireturn, 1) := by decide +kernel
theorem d_LW_law_361 : decode b_LW_law 361 = .ok (.goto 931, 3) := by decide +kernel
theorem d_LW_law_364 : decode b_LW_law 364 = .ok (.aload_n 1, 1) := by decide +kernel
theorem d_LW_law_365 : decode b_LW_law 365 = .ok (.aload_n 3, 1) := by decide +kernel
theorem d_LW_law_366 : decode b_LW_law 366 = .ok (.invokestatic 92, 3) := by decide +kernel
theorem d_LW_law_369 : decode b_LW_law 369 = .ok (.istore 5, 2) := by decide +kernel
theorem d_LW_law_371 : decode b_LW_law 371 = .ok (.aload_n 2, 1) := by decide +kernel
theorem d_LW_law_372 : decode b_LW_law 372 = .ok (.invokevirtual 95, 3) := by decide +kernel
theorem d_LW_law_375 : decode b_LW_law 375 = .ok (.istore 6, 2) := by decide +kernel
theorem d_LW_law_377 : decode b_LW_law 377 = .ok (.aload_n 2, 1) := by decide +kernel
theorem d_LW_law_378 : decode b_LW_law 378 = .ok (.invokevirtual 85, 3) := by decide +kernel
theorem d_LW_law_381 : decode b_LW_law 381 = .ok (.iload 5, 2) := by decide +kernel
theorem d_LW_law_383 : decode b_LW_law 383 = .ok (.if_icmp .eq 5, 3) := by decide +kernel
theorem d_LW_law_386 : decode b_LW_law 386 = .ok (.iconst 0, 1) := by decide +kernel
theorem d_LW_law_387 : decode b_LW_law 387 = .ok (.ireturn, 1) := by decide +kernel
theorem d_LW_law_388 : decode b_LW_law 388 = .ok (.iload 5, 2) := by decide +kernel
theorem d_LW_law_390 : decode b_LW_law 390 = .ok (.ifCond .ne 15, 3) := by decide +kernel
theorem d_LW_law_393 : decode b_LW_law 393 = .ok (.aload_n 3, 1) := by decide +kernel
theorem d_LW_law_394 : decode b_LW_law 394 = .ok (.iconst 0, 1) := by decide +kernel
theorem d_LW_law_395 : decode b_LW_law 395 = .ok (.laload, 1) := by decide +kernel
theorem d_LW_law_396 : decode b_LW_law 396 = .ok (.iload 6, 2) := by decide +kernel
theorem d_LW_law_398 : decode b_LW_law 398 = .ok (.i2l, 1) := by decide +kernel
theorem d_LW_law_399 : decode b_LW_law 399 = .ok (.lcmp, 1) := by decide +kernel
theorem d_LW_law_400 : decode b_LW_law 400 = .ok (.ifCond .eq 5, 3) := by decide +kernel
theorem d_LW_law_403 : decode b_LW_law 403 = .ok (.iconst 0, 1) := by decide +kernel
theorem d_LW_law_404 : decode b_LW_law 404 = .ok (.ireturn, 1) := by decide +kernel
theorem d_LW_law_405 : decode b_LW_law 405 = .ok (.goto 887, 3) := by decide +kernel
theorem d_LW_law_408 : decode b_LW_law 408 = .ok (.aload_n 1, 1) := by decide +kernel
theorem d_LW_law_409 : decode b_LW_law 409 = .ok (.aload_n 0, 1) := by decide +kernel
theorem d_LW_law_410 : decode b_LW_law 410 = .ok (.iload 4, 2) := by decide +kernel
theorem d_LW_law_412 : decode b_LW_law 412 = .ok (.iconst 1, 1) := by decide +kernel
theorem d_LW_law_413 : decode b_LW_law 413 = .ok (.iadd, 1) := by decide +kernel
theorem d_LW_law_414 : decode b_LW_law 414 = .ok (.iaload, 1) := by decide +kernel
theorem d_LW_law_415 : decode b_LW_law 415 = .ok (.aload_n 3, 1) := by decide +kernel
theorem d_LW_law_416 : decode b_LW_law 416 = .ok (.invokestatic 96, 3) := by decide +kernel
theorem d_LW_law_419 : decode b_LW_law 419 = .ok (.istore 5, 2) := by decide +kernel
theorem d_LW_law_421 : decode b_LW_law 421 = .ok (.aload_n 2, 1) := by decide +kernel
theorem d_LW_law_422 : decode b_LW_law 422 = .ok (.aload_n 0, 1) := by decide +kernel
theorem d_LW_law_423 : decode b_LW_law 423 = .ok (.iload 4, 2) := by decide +kernel
theorem d_LW_law_425 : decode b_LW_law 425 = .ok (.iconst 1, 1) := by decide +kernel
theorem d_LW_law_426 : decode b_LW_law 426 = .ok (.iadd, 1) := by decide +kernel
theorem d_LW_law_427 : decode b_LW_law 427 = .ok (.iaload, 1) := by decide +kernel
theorem d_LW_law_428 : decode b_LW_law 428 = .ok (.invokevirtual 99, 3) := by decide +kernel
theorem d_LW_law_431 : decode b_LW_law 431 = .ok (.istore 6, 2) := by decide +kernel
theorem d_LW_law_433 : decode b_LW_law 433 = .ok (.aload_n 2, 1) := by decide +kernel
theorem d_LW_law_434 : decode b_LW_law 434 = .ok (.invokevirtual 85, 3) := by decide +kernel
theorem d_LW_law_437 : decode b_LW_law 437 = .ok (.iload 5, 2) := by decide +kernel
theorem d_LW_law_439 : decode b_LW_law 439 = .ok (.if_icmp .eq 5, 3) := by decide +kernel
theorem d_LW_law_442 : decode b_LW_law 442 = .ok (.iconst 0, 1) := by decide +kernel
theorem d_LW_law_443 : decode b_LW_law 443 = .ok (.ireturn, 1) := by decide +kernel
theorem d_LW_law_444 : decode b_LW_law 444 = .ok (.iload 5, 2) := by decide +kernel
theorem d_LW_law_446 : decode b_LW_law 446 = .ok (.ifCond .ne 15, 3) := by decide +kernel
theorem d_LW_law_449 : decode b_LW_law 449 = .ok (.aload_n 3, 1) := by decide +kernel
theorem d_LW_law_450 : decode b_LW_law 450 = .ok (.iconst 0, 1) := by decide +kernel
theorem d_LW_law_451 : decode b_LW_law 451 = .ok (.laload, 1) := by decide +kernel
theorem d_LW_law_452 : decode b_LW_law 452 = .ok (.iload 6, 2) := by decide +kernel
theorem d_LW_law_454 : decode b_LW_law 454 = .ok (.i2l, 1) := by decide +kernel
theorem d_LW_law_455 : decode b_LW_law 455 = .ok (.lcmp, 1) := by decide +kernel
theorem d_LW_law_456 : decode b_LW_law 456 = .ok (.ifCond .eq 5, 3) := by decide +kernel
theorem d_LW_law_459 : decode b_LW_law 459 = .ok (.iconst 0, 1) := by decide +kernel
theorem d_LW_law_460 : decode b_LW_law 460 = .ok (.ireturn, 1) := by decide +kernel
theorem d_LW_law_461 : decode b_LW_law 461 = .ok (.goto 831, 3) := by decide +kernel
theorem d_LW_law_464 : decode b_LW_law 464 = .ok (.aload_n 1, 1) := by decide +kernel
theorem d_LW_law_465 : decode b_LW_law 465 = .ok (.aload_n 0, 1) := by decide +kernel
theorem d_LW_law_466 : decode b_LW_law 466 = .ok (.iload 4, 2) := by decide +kernel
theorem d_LW_law_468 : decode b_LW_law 468 = .ok (.iconst 1, 1) := by decide +kernel
theorem d_LW_law_469 : decode b_LW_law 469 = .ok (.iadd, 1) := by decide +kernel
theorem d_LW_law_470 : decode b_LW_law 470 = .ok (.iaload, 1) := by decide +kernel
theorem d_LW_law_471 : decode b_LW_law 471 = .ok (.i2l, 1) := by decide +kernel
theorem d_LW_law_472 : decode b_LW_law 472 = .ok (.bipush 32, 2) := by decide +kernel
theorem d_LW_law_474 : decode b_LW_law 474 = .ok (.lshl, 1) := by decide +kernel
theorem d_LW_law_475 : decode b_LW_law 475 = .ok (.aload_n 0, 1) := by decide +kernel
theorem d_LW_law_476 : decode b_LW_law 476 = .ok (.iload 4, 2) := by decide +kernel
theorem d_LW_law_478 : decode b_LW_law 478 = .ok (.iconst 2, 1) := by decide +kernel
theorem d_LW_law_479 : decode b_LW_law 479 = .ok (.iadd, 1) := by decide +kernel
theorem d_LW_law_480 : decode b_LW_law 480 = .ok (.iaload, 1) := by decide +kernel
theorem d_LW_law_481 : decode b_LW_law 481 = .ok (.i2l, 1) := by decide +kernel
theorem d_LW_law_482 : decode b_LW_law 482 = .ok (.ldc2_w 79, 3) := by decide +kernel
theorem d_LW_law_485 : decode b_LW_law 485 = .ok (.land, 1) := by decide +kernel
theorem d_LW_law_486 : decode b_LW_law 486 = .ok (.lor, 1) := by decide +kernel
theorem d_LW_law_487 : decode b_LW_law 487 = .ok (.aload_n 3, 1) := by decide +kernel
theorem d_LW_law_488 : decode b_LW_law 488 = .ok (.invokestatic 100, 3) := by decide +kernel
theorem d_LW_law_491 : decode b_LW_law 491 = .ok (.istore 5, 2) := by decide +kernel
theorem d_LW_law_493 : decode b_LW_law 493 = .ok (.aload_n 2, 1) := by decide +kernel
theorem d_LW_law_494 : decode b_LW_law 494 = .ok (.aload_n 0, 1) := by decide +kernel
theorem d_LW_law_495 : decode b_LW_law 495 = .ok (.iload 4, 2) := by decide +kernel
theorem d_LW_law_497 : decode b_LW_law 497 = .ok (.iconst 1, 1) := by decide +kernel
theorem d_LW_law_498 : decode b_LW_law 498 = .ok (.iadd, 1) := by decide +kernel
theorem d_LW_law_499 : decode b_LW_law 499 = .ok (.iaload, 1) := by decide +kernel
theorem d_LW_law_500 : decode b_LW_law 500 = .ok (.i2l, 1) := by decide +kernel
theorem d_LW_law_501 : decode b_LW_law 501 = .ok (.bipush 32, 2) := by decide +kernel
theorem d_LW_law_503 : decode b_LW_law 503 = .ok (.lshl, 1) := by decide +kernel
theorem d_LW_law_504 : decode b_LW_law 504 = .ok (.aload_n 0, 1) := by decide +kernel
theorem d_LW_law_505 : decode b_LW_law 505 = .ok (.iload 4, 2) := by decide +kernel
theorem d_LW_law_507 : decode b_LW_law 507 = .ok (.iconst 2, 1) := by decide +kernel
theorem d_LW_law_508 : decode b_LW_law 508 = .ok (.iadd, 1) := by decide +kernel
theorem d_LW_law_509 : decode b_LW_law 509 = .ok (.iaload, 1) := by decide +kernel
theorem d_LW_law_510 : decode b_LW_law 510 = .ok (.i2l, 1) := by decide +kernel
theorem d_LW_law_511 : decode b_LW_law 511 = .ok (.ldc2_w 79, 3) := by decide +kernel
theorem d_LW_law_514 : decode b_LW_law 514 = .ok (.land, 1) := by decide +kernel
theorem d_LW_law_515 : decode b_LW_law 515 = .ok (.lor, 1) := by decide +kernel
theorem d_LW_law_516 : decode b_LW_law 516 = .ok (.invokevirtual 102, 3) := by decide +kernel
theorem d_LW_law_519 : decode b_LW_law 519 = .ok (.lstore 6, 2) := by decide +kernel
theorem d_LW_law_521 : decode b_LW_law 521 = .ok (.aload_n 2, 1) := by decide +kernel
theorem d_LW_law_522 : decode b_LW_law 522 = .ok (.invokevirtual 85, 3) := by decide +kernel
theorem d_LW_law_525 : decode b_LW_law 525 = .ok (.iload 5, 2) := by decide +kernel
theorem d_LW_law_527 : decode b_LW_law 527 = .ok (.if_icmp .eq 5, 3) := by decide +kernel
theorem d_LW_law_530 : decode b_LW_law 530 = .ok (.iconst 0, 1) := by decide +kernel
theorem d_LW_law_531 : decode b_LW_law 531 = .ok (.ireturn, 1) := by decide +kernel
theorem d_LW_law_532 : decode b_LW_law 532 = .ok (.iload 5, 2) := by decide +kernel
theorem d_LW_law_534 : decode b_LW_law 534 = .ok (.ifCond .ne 14, 3) := by decide +kernel
theorem d_LW_law_537 : decode b_LW_law 537 = .ok (.aload_n 3, 1) := by decide +kernel
theorem d_LW_law_538 : decode b_LW_law 538 = .ok (.iconst 0, 1) := by decide +kernel
theorem d_LW_law_539 : decode b_LW_law 539 = .ok (.laload, 1) := by decide +kernel
theorem d_LW_law_540 : decode b_LW_law 540 = .ok (.lload 6, 2) := by decide +kernel
theorem d_LW_law_542 : decode b_LW_law 542 = .ok (.lcmp, 1) := by decide +kernel
theorem d_LW_law_543 : decode b_LW_law 543 = .ok (.ifCond .eq 5, 3) := by decide +kernel
theorem d_LW_law_546 : decode b_LW_law 546 = .ok (.iconst 0, 1) := by decide +kernel
theorem d_LW_law_547 : decode b_LW_law 547 = .ok (.ireturn, 1) := by decide +kernel
theorem d_LW_law_548 : decode b_LW_law 548 = .ok (.goto 744, 3) := by decide +kernel
theorem d_LW_law_551 : decode b_LW_law 551 = .ok (.aload_n 1, 1) := by decide +kernel
theorem d_LW_law_552 : decode b_LW_law 552 = .ok (.aload_n 0, 1) := by decide +kernel
theorem d_LW_law_553 : decode b_LW_law 553 = .ok (.iload 4, 2) := by decide +kernel
theorem d_LW_law_555 : decode b_LW_law 555 = .ok (.iconst 1, 1) := by decide +kernel
theorem d_LW_law_556 : decode b_LW_law 556 = .ok (.iadd, 1) := by decide +kernel
theorem d_LW_law_557 : decode b_LW_law 557 = .ok (.iaload, 1) := by decide +kernel
theorem d_LW_law_558 : decode b_LW_law 558 = .ok (.i2l, 1) := by decide +kernel
theorem d_LW_law_559 : decode b_LW_law 559 = .ok (.bipush 32, 2) := by decide +kernel
theorem d_LW_law_561 : decode b_LW_law 561 = .ok (.lshl, 1) := by decide +kernel
theorem d_LW_law_562 : decode b_LW_law 562 = .ok (.aload_n 0, 1) := by decide +kernel
theorem d_LW_law_563 : decode b_LW_law 563 = .ok (.iload 4, 2) := by decide +kernel
theorem d_LW_law_565 : decode b_LW_law 565 = .ok (.iconst 2, 1) := by decide +kernel
theorem d_LW_law_566 : decode b_LW_law 566 = .ok (.iadd, 1) := by decide +kernel
theorem d_LW_law_567 : decode b_LW_law 567 = .ok (.iaload, 1) := by decide +kernel
theorem d_LW_law_568 : decode b_LW_law 568 = .ok (.i2l, 1) := by decide +kernel
theorem d_LW_law_569 : decode b_LW_law 569 = .ok (.ldc2_w 79, 3) := by decide +kernel
theorem d_LW_law_572 : decode b_LW_law 572 = .ok (.land, 1) := by decide +kernel
theorem d_LW_law_573 : decode b_LW_law 573 = .ok (.lor, 1) := by decide +kernel
theorem d_LW_law_574 : decode b_LW_law 574 = .ok (.aload_n 3, 1) := by decide +kernel
theorem d_LW_law_575 : decode b_LW_law 575 = .ok (.invokestatic 103, 3) := by decide +kernel
theorem d_LW_law_578 : decode b_LW_law 578 = .ok (.istore 5, 2) := by decide +kernel
theorem d_LW_law_580 : decode b_LW_law 580 = .ok (.aload_n 2, 1) := by decide +kernel
theorem d_LW_law_581 : decode b_LW_law 581 = .ok (.aload_n 0, 1) := by decide +kernel
theorem d_LW_law_582 : decode b_LW_law 582 = .ok (.iload 4, 2) := by decide +kernel
theorem d_LW_law_584 : decode b_LW_law 584 = .ok (.iconst 1, 1) := by decide +kernel
theorem d_LW_law_585 : decode b_LW_law 585 = .ok (.iadd, 1) := by decide +kernel
theorem d_LW_law_586 : decode b_LW_law 586 = .ok (.iaload, 1) := by decide +kernel
theorem d_LW_law_587 : decode b_LW_law 587 = .ok (.i2l, 1) := by decide +kernel
theorem d_LW_law_588 : decode b_LW_law 588 = .ok (.bipush 32, 2) := by decide +kernel
theorem d_LW_law_590 : decode b_LW_law 590 = .ok (.lshl, 1) := by decide +kernel
theorem d_LW_law_591 : decode b_LW_law 591 = .ok (.aload_n 0, 1) := by decide +kernel
theorem d_LW_law_592 : decode b_LW_law 592 = .ok (.iload 4, 2) := by decide +kernel
theorem d_LW_law_594 : decode b_LW_law 594 = .ok (.iconst 2, 1) := by decide +kernel
theorem d_LW_law_595 : decode b_LW_law 595 = .ok (.iadd, 1) := by decide +kernel
theorem d_LW_law_596 : decode b_LW_law 596 = .ok (.iaload, 1) := by decide +kernel
theorem d_LW_law_597 : decode b_LW_law 597 = .ok (.i2l, 1) := by decide +kernel
theorem d_LW_law_598 : decode b_LW_law 598 = .ok (.ldc2_w 79, 3) := by decide +kernel
theorem d_LW_law_601 : decode b_LW_law 601 = .ok (.land, 1) := by decide +kernel
theorem d_LW_law_602 : decode b_LW_law 602 = .ok (.lor, 1) := by decide +kernel
theorem d_LW_law_603 : decode b_LW_law 603 = .ok (.invokevirtual 105, 3) := by decide +kernel
theorem d_LW_law_606 : decode b_LW_law 606 = .ok (.istore 6, 2) := by decide +kernel
theorem d_LW_law_608 : decode b_LW_law 608 = .ok (.aload_n 2, 1) := by decide +kernel
theorem d_LW_law_609 : decode b_LW_law 609 = .ok (.invokevirtual 85, 3) := by decide +kernel
theorem d_LW_law_612 : decode b_LW_law 612 = .ok (.iload 5, 2) := by decide +kernel
theorem d_LW_law_614 : decode b_LW_law 614 = .ok (.if_icmp .eq 5, 3) := by decide +kernel
theorem d_LW_law_617 : decode b_LW_law 617 = .ok (.iconst 0, 1) := by decide +kernel
theorem d_LW_law_618 : decode b_LW_law 618 = .ok (.ireturn, 1) := by decide +kernel
theorem d_LW_law_619 : decode b_LW_law 619 = .ok (.iload 5, 2) := by decide +kernel
theorem d_LW_law_621 : decode b_LW_law 621 = .ok (.ifCond .ne 15, 3) := by decide +kernel
theorem d_LW_law_624 : decode b_LW_law 624 = .ok (.aload_n 3, 1) := by decide +kernel
theorem d_LW_law_625 : decode b_LW_law 625 = .ok (.iconst 0, 1) := by decide +kernel
theorem d_LW_law_626 : decode b_LW_law 626 = .ok (.laload, 1) := by decide +kernel
theorem d_LW_law_627 : decode b_LW_law 627 = .ok (.iload 6, 2) := by decide +kernel
theorem d_LW_law_629 : decode b_LW_law 629 = .ok (.i2l, 1) := by decide +kernel
theorem d_LW_law_630 : decode b_LW_law 630 = .ok (.lcmp, 1) := by decide +kernel
theorem d_LW_law_631 : decode b_LW_law 631 = .ok (.ifCond .eq 5, 3) := by decide +kernel
theorem d_LW_law_634 : decode b_LW_law 634 = .ok (.iconst 0, 1) := by decide +kernel
theorem d_LW_law_635 : decode b_LW_law 635 = .ok (.ireturn, 1) := by decide +kernel
theorem d_LW_law_636 : decode b_LW_law 636 = .ok (.goto 656, 3) := by decide +kernel
theorem d_LW_law_639 : decode b_LW_law 639 = .ok (.aload_n 1, 1) := by decide +kernel
theorem d_LW_law_640 : decode b_LW_law 640 = .ok (.aload_n 0, 1) := by decide +kernel
theorem d_LW_law_641 : decode b_LW_law 641 = .ok (.iload 4, 2) := by decide +kernel
theorem d_LW_law_643 : decode b_LW_law 643 = .ok (.iconst 1, 1) := by decide +kernel
theorem d_LW_law_644 : decode b_LW_law 644 = .ok (.iadd, 1) := by decide +kernel
theorem d_LW_law_645 : decode b_LW_law 645 = .ok (.iaload, 1) := by decide +kernel
theorem d_LW_law_646 : decode b_LW_law 646 = .ok (.i2l, 1) := by decide +kernel
theorem d_LW_law_647 : decode b_LW_law 647 = .ok (.bipush 32, 2) := by decide +kernel
theorem d_LW_law_649 : decode b_LW_law 649 = .ok (.lshl, 1) := by decide +kernel
theorem d_LW_law_650 : decode b_LW_law 650 = .ok (.aload_n 0, 1) := by decide +kernel
theorem d_LW_law_651 : decode b_LW_law 651 = .ok (.iload 4, 2) := by decide +kernel
theorem d_LW_law_653 : decode b_LW_law 653 = .ok (.iconst 2, 1) := by decide +kernel
theorem d_LW_law_654 : decode b_LW_law 654 = .ok (.iadd, 1) := by decide +kernel
theorem d_LW_law_655 : decode b_LW_law 655 = .ok (.iaload, 1) := by decide +kernel
theorem d_LW_law_656 : decode b_LW_law 656 = .ok (.i2l, 1) := by decide +kernel
theorem d_LW_law_657 : decode b_LW_law 657 = .ok (.ldc2_w 79, 3) := by decide +kernel
theorem d_LW_law_660 : decode b_LW_law 660 = .ok (.land, 1) := by decide +kernel
theorem d_LW_law_661 : decode b_LW_law 661 = .ok (.lor, 1) := by decide +kernel
theorem d_LW_law_662 : decode b_LW_law 662 = .ok (.aload_n 3, 1) := by decide +kernel
theorem d_LW_law_663 : decode b_LW_law 663 = .ok (.invokestatic 106, 3) := by decide +kernel
theorem d_LW_law_666 : decode b_LW_law 666 = .ok (.istore 5, 2) := by decide +kernel
theorem d_LW_law_668 : decode b_LW_law 668 = .ok (.aload_n 2, 1) := by decide +kernel
theorem d_LW_law_669 : decode b_LW_law 669 = .ok (.aload_n 0, 1) := by decide +kernel
theorem d_LW_law_670 : decode b_LW_law 670 = .ok (.iload 4, 2) := by decide +kernel
theorem d_LW_law_672 : decode b_LW_law 672 = .ok (.iconst 1, 1) := by decide +kernel
theorem d_LW_law_673 : decode b_LW_law 673 = .ok (.iadd, 1) := by decide +kernel
theorem d_LW_law_674 : decode b_LW_law 674 = .ok (.iaload, 1) := by decide +kernel
theorem d_LW_law_675 : decode b_LW_law 675 = .ok (.i2l, 1) := by decide +kernel
theorem d_LW_law_676 : decode b_LW_law 676 = .ok (.bipush 32, 2) := by decide +kernel
theorem d_LW_law_678 : decode b_LW_law 678 = .ok (.lshl, 1) := by decide +kernel
theorem d_LW_law_679 : decode b_LW_law 679 = .ok (.aload_n 0, 1) := by decide +kernel
theorem d_LW_law_680 : decode b_LW_law 680 = .ok (.iload 4, 2) := by decide +kernel
theorem d_LW_law_682 : decode b_LW_law 682 = .ok (.iconst 2, 1) := by decide +kernel
theorem d_LW_law_683 : decode b_LW_law 683 = .ok (.iadd, 1) := by decide +kernel
theorem d_LW_law_684 : decode b_LW_law 684 = .ok (.iaload, 1) := by decide +kernel
theorem d_LW_law_685 : decode b_LW_law 685 = .ok (.i2l, 1) := by decide +kernel
theorem d_LW_law_686 : decode b_LW_law 686 = .ok (.ldc2_w 79, 3) := by decide +kernel
theorem d_LW_law_689 : decode b_LW_law 689 = .ok (.land, 1) := by decide +kernel
theorem d_LW_law_690 : decode b_LW_law 690 = .ok (.lor, 1) := by decide +kernel
theorem d_LW_law_691 : decode b_LW_law 691 = .ok (.invokevirtual 108, 3) := by decide +kernel
theorem d_LW_law_694 : decode b_LW_law 694 = .ok (.lstore 6, 2) := by decide +kernel
theorem d_LW_law_696 : decode b_LW_law 696 = .ok (.aload_n 2, 1) := by decide +kernel
theorem d_LW_law_697 : decode b_LW_law 697 = .ok (.invokevirtual 85, 3) := by decide +kernel
theorem d_LW_law_700 : decode b_LW_law 700 = .ok (.iload 5, 2) := by decide +kernel
theorem d_LW_law_702 : decode b_LW_law 702 = .ok (.if_icmp .eq 5, 3) := by decide +kernel
theorem d_LW_law_705 : decode b_LW_law 705 = .ok (.iconst 0, 1) := by decide +kernel
theorem d_LW_law_706 : decode b_LW_law 706 = .ok (.ireturn, 1) := by decide +kernel
theorem d_LW_law_707 : decode b_LW_law 707 = .ok (.iload 5, 2) := by decide +kernel
theorem d_LW_law_709 : decode b_LW_law 709 = .ok (.ifCond .ne 14, 3) := by decide +kernel
theorem d_LW_law_712 : decode b_LW_law 712 = .ok (.aload_n 3, 1) := by decide +kernel
theorem d_LW_law_713 : decode b_LW_law 713 = .ok (.iconst 0, 1) := by decide +kernel
theorem d_LW_law_714 : decode b_LW_law 714 = .ok (.laload, 1) := by decide +kernel
theorem d_LW_law_715 : decode b_LW_law 715 = .ok (.lload 6, 2) := by decide +kernel
theorem d_LW_law_717 : decode b_LW_law 717 = .ok (.lcmp, 1) := by decide +kernel
theorem d_LW_law_718 : decode b_LW_law 718 = .ok (.ifCond .eq 5, 3) := by decide +kernel
theorem d_LW_law_721 : decode b_LW_law 721 = .ok (.iconst 0, 1) := by decide +kernel
theorem d_LW_law_722 : decode b_LW_law 722 = .ok (.ireturn, 1) := by decide +kernel
theorem d_LW_law_723 : decode b_LW_law 723 = .ok (.goto 569, 3) := by decide +kernel
theorem d_LW_law_726 : decode b_LW_law 726 = .ok (.aload_n 1, 1) := by decide +kernel
theorem d_LW_law_727 : decode b_LW_law 727 = .ok (.aload_n 0, 1) := by decide +kernel
theorem d_LW_law_728 : decode b_LW_law 728 = .ok (.iload 4, 2) := by decide +kernel
theorem d_LW_law_730 : decode b_LW_law 730 = .ok (.iconst 1, 1) := by decide +kernel
theorem d_LW_law_731 : decode b_LW_law 731 = .ok (.iadd, 1) := by decide +kernel
theorem d_LW_law_732 : decode b_LW_law 732 = .ok (.iaload, 1) := by decide +kernel
theorem d_LW_law_733 : decode b_LW_law 733 = .ok (.aload_n 0, 1) := by decide +kernel
theorem d_LW_law_734 : decode b_LW_law 734 = .ok (.iload 4, 2) := by decide +kernel
theorem d_LW_law_736 : decode b_LW_law 736 = .ok (.iconst 2, 1) := by decide +kernel
theorem d_LW_law_737 : decode b_LW_law 737 = .ok (.iadd, 1) := by decide +kernel
theorem d_LW_law_738 : decode b_LW_law 738 = .ok (.iaload, 1) := by decide +kernel
theorem d_LW_law_739 : decode b_LW_law 739 = .ok (.i2l, 1) := by decide +kernel
theorem d_LW_law_740 : decode b_LW_law 740 = .ok (.bipush 32, 2) := by decide +kernel
theorem d_LW_law_742 : decode b_LW_law 742 = .ok (.lshl, 1) := by decide +kernel
theorem d_LW_law_743 : decode b_LW_law 743 = .ok (.aload_n 0, 1) := by decide +kernel
theorem d_LW_law_744 : decode b_LW_law 744 = .ok (.iload 4, 2) := by decide +kernel
theorem d_LW_law_746 : decode b_LW_law 746 = .ok (.iconst 3, 1) := by decide +kernel
theorem d_LW_law_747 : decode b_LW_law 747 = .ok (.iadd, 1) := by decide +kernel
theorem d_LW_law_748 : decode b_LW_law 748 = .ok (.iaload, 1) := by decide +kernel
theorem d_LW_law_749 : decode b_LW_law 749 = .ok (.i2l, 1) := by decide +kernel
theorem d_LW_law_750 : decode b_LW_law 750 = .ok (.ldc2_w 79, 3) := by decide +kernel
theorem d_LW_law_753 : decode b_LW_law 753 = .ok (.land, 1) := by decide +kernel
theorem d_LW_law_754 : decode b_LW_law 754 = .ok (.lor, 1) := by decide +kernel
theorem d_LW_law_755 : decode b_LW_law 755 = .ok (.aload_n 3, 1) := by decide +kernel
theorem d_LW_law_756 : decode b_LW_law 756 = .ok (.invokestatic 109, 3) := by decide +kernel
theorem d_LW_law_759 : decode b_LW_law 759 = .ok (.istore 5, 2) := by decide +kernel
theorem d_LW_law_761 : decode b_LW_law 761 = .ok (.aload_n 2, 1) := by decide +kernel
theorem d_LW_law_762 : decode b_LW_law 762 = .ok (.aload_n 0, 1) := by decide +kernel
theorem d_LW_law_763 : decode b_LW_law 763 = .ok (.iload 4, 2) := by decide +kernel
theorem d_LW_law_765 : decode b_LW_law 765 = .ok (.iconst 1, 1) := by decide +kernel
theorem d_LW_law_766 : decode b_LW_law 766 = .ok (.iadd, 1) := by decide +kernel
theorem d_LW_law_767 : decode b_LW_law 767 = .ok (.iaload, 1) := by decide +kernel
theorem d_LW_law_768 : decode b_LW_law 768 = .ok (.aload_n 0, 1) := by decide +kernel
theorem d_LW_law_769 : decode b_LW_law 769 = .ok (.iload 4, 2) := by decide +kernel
theorem d_LW_law_771 : decode b_LW_law 771 = .ok (.iconst 2, 1) := by decide +kernel
theorem d_LW_law_772 : decode b_LW_law 772 = .ok (.iadd, 1) := by decide +kernel
theorem d_LW_law_773 : decode b_LW_law 773 = .ok (.iaload, 1) := by decide +kernel
theorem d_LW_law_774 : decode b_LW_law 774 = .ok (.i2l, 1) := by decide +kernel
theorem d_LW_law_775 : decode b_LW_law 775 = .ok (.bipush 32, 2) := by decide +kernel
theorem d_LW_law_777 : decode b_LW_law 777 = .ok (.lshl, 1) := by decide +kernel
theorem d_LW_law_778 : decode b_LW_law 778 = .ok (.aload_n 0, 1) := by decide +kernel
theorem d_LW_law_779 : decode b_LW_law 779 = .ok (.iload 4, 2) := by decide +kernel
theorem d_LW_law_781 : decode b_LW_law 781 = .ok (.iconst 3, 1) := by decide +kernel
theorem d_LW_law_782 : decode b_LW_law 782 = .ok (.iadd, 1) := by decide +kernel
theorem d_LW_law_783 : decode b_LW_law 783 = .ok (.iaload, 1) := by decide +kernel
theorem d_LW_law_784 : decode b_LW_law 784 = .ok (.i2l, 1) := by decide +kernel
theorem d_LW_law_785 : decode b_LW_law 785 = .ok (.ldc2_w 79, 3) := by decide +kernel
theorem d_LW_law_788 : decode b_LW_law 788 = .ok (.land, 1) := by decide +kernel
theorem d_LW_law_789 : decode b_LW_law 789 = .ok (.lor, 1) := by decide +kernel
theorem d_LW_law_790 : decode b_LW_law 790 = .ok (.invokevirtual 112, 3) := by decide +kernel
theorem d_LW_law_793 : decode b_LW_law 793 = .ok (.istore 6, 2) := by decide +kernel
theorem d_LW_law_795 : decode b_LW_law 795 = .ok (.aload_n 2, 1) := by decide +kernel
theorem d_LW_law_796 : decode b_LW_law 796 = .ok (.invokevirtual 85, 3) := by decide +kernel
theorem d_LW_law_799 : decode b_LW_law 799 = .ok (.iload 5, 2) := by decide +kernel
theorem d_LW_law_801 : decode b_LW_law 801 = .ok (.if_icmp .eq 5, 3) := by decide +kernel
theorem d_LW_law_804 : decode b_LW_law 804 = .ok (.iconst 0, 1) := by decide +kernel
theorem d_LW_law_805 : decode b_LW_law 805 = .ok (.ireturn, 1) := by decide +kernel
theorem d_LW_law_806 : decode b_LW_law 806 = .ok (.iload 5, 2) := by decide +kernel
theorem d_LW_law_808 : decode b_LW_law 808 = .ok (.ifCond .ne 22, 3) := by decide +kernel
theorem d_LW_law_811 : decode b_LW_law 811 = .ok (.aload_n 3, 1) := by decide +kernel
theorem d_LW_law_812 : decode b_LW_law 812 = .ok (.iconst 0, 1) := by decide +kernel
theorem d_LW_law_813 : decode b_LW_law 813 = .ok (.laload, 1) := by decide +kernel
theorem d_LW_law_814 : decode b_LW_law 814 = .ok (.iload 6, 2) := by decide +kernel
theorem d_LW_law_816 : decode b_LW_law 816 = .ok (.ifCond .eq 7, 3) := by decide +kernel
theorem d_LW_law_819 : decode b_LW_law 819 = .ok (.lconst 1, 1) := by decide +kernel
theorem d_LW_law_820 : decode b_LW_law 820 = .ok (.goto 4, 3) := by decide +kernel
theorem d_LW_law_823 : decode b_LW_law 823 = .ok (.lconst 0, 1) := by decide +kernel
theorem d_LW_law_824 : decode b_LW_law 824 = .ok (.lcmp, 1) := by decide +kernel
theorem d_LW_law_825 : decode b_LW_law 825 = .ok (.ifCond .eq 5, 3) := by decide +kernel
theorem d_LW_law_828 : decode b_LW_law 828 = .ok (.iconst 0, 1) := by decide +kernel
theorem d_LW_law_829 : decode b_LW_law 829 = .ok (.ireturn, 1) := by decide +kernel
theorem d_LW_law_830 : decode b_LW_law 830 = .ok (.goto 462, 3) := by decide +kernel
theorem d_LW_law_833 : decode b_LW_law 833 = .ok (.aload_n 1, 1) := by decide +kernel
theorem d_LW_law_834 : decode b_LW_law 834 = .ok (.aload_n 0, 1) := by decide +kernel
theorem d_LW_law_835 : decode b_LW_law 835 = .ok (.iload 4, 2) := by decide +kernel
theorem d_LW_law_837 : decode b_LW_law 837 = .ok (.iconst 1, 1) := by decide +kernel
theorem d_LW_law_838 : decode b_LW_law 838 = .ok (.iadd, 1) := by decide +kernel
theorem d_LW_law_839 : decode b_LW_law 839 = .ok (.iaload, 1) := by decide +kernel
theorem d_LW_law_840 : decode b_LW_law 840 = .ok (.aload_n 0, 1) := by decide +kernel
theorem d_LW_law_841 : decode b_LW_law 841 = .ok (.iload 4, 2) := by decide +kernel
theorem d_LW_law_843 : decode b_LW_law 843 = .ok (.iconst 2, 1) := by decide +kernel
theorem d_LW_law_844 : decode b_LW_law 844 = .ok (.iadd, 1) := by decide +kernel
theorem d_LW_law_845 : decode b_LW_law 845 = .ok (.iaload, 1) := by decide +kernel
theorem d_LW_law_846 : decode b_LW_law 846 = .ok (.aload_n 3, 1) := by decide +kernel
theorem d_LW_law_847 : decode b_LW_law 847 = .ok (.invokestatic 113, 3) := by decide +kernel
theorem d_LW_law_850 : decode b_LW_law 850 = .ok (.istore 5, 2) := by decide +kernel
theorem d_LW_law_852 : decode b_LW_law 852 = .ok (.aload_n 2, 1) := by decide +kernel
theorem d_LW_law_853 : decode b_LW_law 853 = .ok (.aload_n 0, 1) := by decide +kernel
theorem d_LW_law_854 : decode b_LW_law 854 = .ok (.iload 4, 2) := by decide +kernel
theorem d_LW_law_856 : decode b_LW_law 856 = .ok (.iconst 1, 1) := by decide +kernel
theorem d_LW_law_857 : decode b_LW_law 857 = .ok (.iadd, 1) := by decide +kernel
theorem d_LW_law_858 : decode b_LW_law 858 = .ok (.iaload, 1) := by decide +kernel
theorem d_LW_law_859 : decode b_LW_law 859 = .ok (.aload_n 0, 1) := by decide +kernel
theorem d_LW_law_860 : decode b_LW_law 860 = .ok (.iload 4, 2) := by decide +kernel
theorem d_LW_law_862 : decode b_LW_law 862 = .ok (.iconst 2, 1) := by decide +kernel
theorem d_LW_law_863 : decode b_LW_law 863 = .ok (.iadd, 1) := by decide +kernel
theorem d_LW_law_864 : decode b_LW_law 864 = .ok (.iaload, 1) := by decide +kernel
theorem d_LW_law_865 : decode b_LW_law 865 = .ok (.invokevirtual 116, 3) := by decide +kernel
theorem d_LW_law_868 : decode b_LW_law 868 = .ok (.istore 6, 2) := by decide +kernel
theorem d_LW_law_870 : decode b_LW_law 870 = .ok (.aload_n 2, 1) := by decide +kernel
theorem d_LW_law_871 : decode b_LW_law 871 = .ok (.invokevirtual 85, 3) := by decide +kernel
theorem d_LW_law_874 : decode b_LW_law 874 = .ok (.iload 5, 2) := by decide +kernel
theorem d_LW_law_876 : decode b_LW_law 876 = .ok (.if_icmp .eq 5, 3) := by decide +kernel
theorem d_LW_law_879 : decode b_LW_law 879 = .ok (.iconst 0, 1) := by decide +kernel
theorem d_LW_law_880 : decode b_LW_law 880 = .ok (.ireturn, 1) := by decide +kernel
theorem d_LW_law_881 : decode b_LW_law 881 = .ok (.iload 5, 2) := by decide +kernel
theorem d_LW_law_883 : decode b_LW_law 883 = .ok (.ifCond .ne 15, 3) := by decide +kernel
theorem d_LW_law_886 : decode b_LW_law 886 = .ok (.aload_n 3, 1) := by decide +kernel
theorem d_LW_law_887 : decode b_LW_law 887 = .ok (.iconst 0, 1) := by decide +kernel
theorem d_LW_law_888 : decode b_LW_law 888 = .ok (.laload, 1) := by decide +kernel
theorem d_LW_law_889 : decode b_LW_law 889 = .ok (.iload 6, 2) := by decide +kernel
theorem d_LW_law_891 : decode b_LW_law 891 = .ok (.i2l, 1) := by decide +kernel
theorem d_LW_law_892 : decode b_LW_law 892 = .ok (.lcmp, 1) := by decide +kernel
theorem d_LW_law_893 : decode b_LW_law 893 = .ok (.ifCond .eq 5, 3) := by decide +kernel
theorem d_LW_law_896 : decode b_LW_law 896 = .ok (.iconst 0, 1) := by decide +kernel
theorem d_LW_law_897 : decode b_LW_law 897 = .ok (.ireturn, 1) := by decide +kernel
theorem d_LW_law_898 : decode b_LW_law 898 = .ok (.goto 394, 3) := by decide +kernel
theorem d_LW_law_901 : decode b_LW_law 901 = .ok (.aload_n 1, 1) := by decide +kernel
theorem d_LW_law_902 : decode b_LW_law 902 = .ok (.aload_n 0, 1) := by decide +kernel
theorem d_LW_law_903 : decode b_LW_law 903 = .ok (.iload 4, 2) := by decide +kernel
theorem d_LW_law_905 : decode b_LW_law 905 = .ok (.iconst 1, 1) := by decide +kernel
theorem d_LW_law_906 : decode b_LW_law 906 = .ok (.iadd, 1) := by decide +kernel
theorem d_LW_law_907 : decode b_LW_law 907 = .ok (.iaload, 1) := by decide +kernel
theorem d_LW_law_908 : decode b_LW_law 908 = .ok (.aload_n 0, 1) := by decide +kernel
theorem d_LW_law_909 : decode b_LW_law 909 = .ok (.iload 4, 2) := by decide +kernel
theorem d_LW_law_911 : decode b_LW_law 911 = .ok (.iconst 2, 1) := by decide +kernel
theorem d_LW_law_912 : decode b_LW_law 912 = .ok (.iadd, 1) := by decide +kernel
theorem d_LW_law_913 : decode b_LW_law 913 = .ok (.iaload, 1) := by decide +kernel
theorem d_LW_law_914 : decode b_LW_law 914 = .ok (.aload_n 3, 1) := by decide +kernel
theorem d_LW_law_915 : decode b_LW_law 915 = .ok (.invokestatic 117, 3) := by decide +kernel
theorem d_LW_law_918 : decode b_LW_law 918 = .ok (.istore 5, 2) := by decide +kernel
theorem d_LW_law_920 : decode b_LW_law 920 = .ok (.aload_n 2, 1) := by decide +kernel
theorem d_LW_law_921 : decode b_LW_law 921 = .ok (.aload_n 0, 1) := by decide +kernel
theorem d_LW_law_922 : decode b_LW_law 922 = .ok (.iload 4, 2) := by decide +kernel
theorem d_LW_law_924 : decode b_LW_law 924 = .ok (.iconst 1, 1) := by decide +kernel
theorem d_LW_law_925 : decode b_LW_law 925 = .ok (.iadd, 1) := by decide +kernel
theorem d_LW_law_926 : decode b_LW_law 926 = .ok (.iaload, 1) := by decide +kernel
theorem d_LW_law_927 : decode b_LW_law 927 = .ok (.aload_n 0, 1) := by decide +kernel
theorem d_LW_law_928 : decode b_LW_law 928 = .ok (.iload 4, 2) := by decide +kernel
theorem d_LW_law_930 : decode b_LW_law 930 = .ok (.iconst 2, 1) := by decide +kernel
theorem d_LW_law_931 : decode b_LW_law 931 = .ok (.iadd, 1) := by decide +kernel
theorem d_LW_law_932 : decode b_LW_law 932 = .ok (.iaload, 1) := by decide +kernel
theorem d_LW_law_933 : decode b_LW_law 933 = .ok (.invokevirtual 119, 3) := by decide +kernel
theorem d_LW_law_936 : decode b_LW_law 936 = .ok (.istore 6, 2) := by decide +kernel
theorem d_LW_law_938 : decode b_LW_law 938 = .ok (.aload_n 2, 1) := by decide +kernel
theorem d_LW_law_939 : decode b_LW_law 939 = .ok (.invokevirtual 85, 3) := by decide +kernel
theorem d_LW_law_942 : decode b_LW_law 942 = .ok (.iload 5, 2) := by decide +kernel
theorem d_LW_law_944 : decode b_LW_law 944 = .ok (.if_icmp .eq 5, 3) := by decide +kernel
theorem d_LW_law_947 : decode b_LW_law 947 = .ok (.iconst 0, 1) := by decide +kernel
theorem d_LW_law_948 : decode b_LW_law 948 = .ok (.ireturn, 1) := by decide +kernel
theorem d_LW_law_949 : decode b_LW_law 949 = .ok (.iload 5, 2) := by decide +kernel
theorem d_LW_law_951 : decode b_LW_law 951 = .ok (.ifCond .ne 15, 3) := by decide +kernel
theorem d_LW_law_954 : decode b_LW_law 954 = .ok (.aload_n 3, 1) := by decide +kernel
theorem d_LW_law_955 : decode b_LW_law 955 = .ok (.iconst 0, 1) := by decide +kernel
theorem d_LW_law_956 : decode b_LW_law 956 = .ok (.laload, 1) := by decide +kernel
theorem d_LW_law_957 : decode b_LW_law 957 = .ok (.iload 6, 2) := by decide +kernel
theorem d_LW_law_959 : decode b_LW_law 959 = .ok (.i2l, 1) := by decide +kernel
theorem d_LW_law_960 : decode b_LW_law 960 = .ok (.lcmp, 1) := by decide +kernel
theorem d_LW_law_961 : decode b_LW_law 961 = .ok (.ifCond .eq 5, 3) := by decide +kernel
theorem d_LW_law_964 : decode b_LW_law 964 = .ok (.iconst 0, 1) := by decide +kernel
theorem d_LW_law_965 : decode b_LW_law 965 = .ok (.ireturn, 1) := by decide +kernel
theorem d_LW_law_966 : decode b_LW_law 966 = .ok (.goto 326, 3) := by decide +kernel
theorem d_LW_law_969 : decode b_LW_law 969 = .ok (.aload_n 1, 1) := by decide +kernel
theorem d_LW_law_970 : decode b_LW_law 970 = .ok (.aload_n 0, 1) := by decide +kernel
theorem d_LW_law_971 : decode b_LW_law 971 = .ok (.iload 4, 2) := by decide +kernel
theorem d_LW_law_973 : decode b_LW_law 973 = .ok (.iconst 1, 1) := by decide +kernel
theorem d_LW_law_974 : decode b_LW_law 974 = .ok (.iadd, 1) := by decide +kernel
theorem d_LW_law_975 : decode b_LW_law 975 = .ok (.iaload, 1) := by decide +kernel
theorem d_LW_law_976 : decode b_LW_law 976 = .ok (.aload_n 0, 1) := by decide +kernel
theorem d_LW_law_977 : decode b_LW_law 977 = .ok (.iload 4, 2) := by decide +kernel
theorem d_LW_law_979 : decode b_LW_law 979 = .ok (.iconst 2, 1) := by decide +kernel
theorem d_LW_law_980 : decode b_LW_law 980 = .ok (.iadd, 1) := by decide +kernel
theorem d_LW_law_981 : decode b_LW_law 981 = .ok (.iaload, 1) := by decide +kernel
theorem d_LW_law_982 : decode b_LW_law 982 = .ok (.aload_n 0, 1) := by decide +kernel
theorem d_LW_law_983 : decode b_LW_law 983 = .ok (.iload 4, 2) := by decide +kernel
theorem d_LW_law_985 : decode b_LW_law 985 = .ok (.iconst 3, 1) := by decide +kernel
theorem d_LW_law_986 : decode b_LW_law 986 = .ok (.iadd, 1) := by decide +kernel
theorem d_LW_law_987 : decode b_LW_law 987 = .ok (.iaload, 1) := by decide +kernel
theorem d_LW_law_988 : decode b_LW_law 988 = .ok (.aload_n 3, 1) := by decide +kernel
theorem d_LW_law_989 : decode b_LW_law 989 = .ok (.invokestatic 120, 3) := by decide +kernel
theorem d_LW_law_992 : decode b_LW_law 992 = .ok (.istore 5, 2) := by decide +kernel
theorem d_LW_law_994 : decode b_LW_law 994 = .ok (.aload_n 2, 1) := by decide +kernel
theorem d_LW_law_995 : decode b_LW_law 995 = .ok (.aload_n 0, 1) := by decide +kernel
theorem d_LW_law_996 : decode b_LW_law 996 = .ok (.iload 4, 2) := by decide +kernel
theorem d_LW_law_998 : decode b_LW_law 998 = .ok (.iconst 1, 1) := by decide +kernel
theorem d_LW_law_999 : decode b_LW_law 999 = .ok (.iadd, 1) := by decide +kernel
theorem d_LW_law_1000 : decode b_LW_law 1000 = .ok (.iaload, 1) := by decide +kernel
theorem d_LW_law_1001 : decode b_LW_law 1001 = .ok (.aload_n 0, 1) := by decide +kernel
theorem d_LW_law_1002 : decode b_LW_law 1002 = .ok (.iload 4, 2) := by decide +kernel
theorem d_LW_law_1004 : decode b_LW_law 1004 = .ok (.iconst 2, 1) := by decide +kernel
theorem d_LW_law_1005 : decode b_LW_law 1005 = .ok (.iadd, 1) := by decide +kernel
theorem d_LW_law_1006 : decode b_LW_law 1006 = .ok (.iaload, 1) := by decide +kernel
theorem d_LW_law_1007 : decode b_LW_law 1007 = .ok (.aload_n 0, 1) := by decide +kernel
theorem d_LW_law_1008 : decode b_LW_law 1008 = .ok (.iload 4, 2) := by decide +kernel
theorem d_LW_law_1010 : decode b_LW_law 1010 = .ok (.iconst 3, 1) := by decide +kernel
theorem d_LW_law_1011 : decode b_LW_law 1011 = .ok (.iadd, 1) := by decide +kernel
theorem d_LW_law_1012 : decode b_LW_law 1012 = .ok (.iaload, 1) := by decide +kernel
theorem d_LW_law_1013 : decode b_LW_law 1013 = .ok (.invokevirtual 123, 3) := by decide +kernel
theorem d_LW_law_1016 : decode b_LW_law 1016 = .ok (.istore 6, 2) := by decide +kernel
theorem d_LW_law_1018 : decode b_LW_law 1018 = .ok (.aload_n 2, 1) := by decide +kernel
theorem d_LW_law_1019 : decode b_LW_law 1019 = .ok (.invokevirtual 85, 3) := by decide +kernel
theorem d_LW_law_1022 : decode b_LW_law 1022 = .ok (.iload 5, 2) := by decide +kernel
theorem d_LW_law_1024 : decode b_LW_law 1024 = .ok (.if_icmp .eq 5, 3) := by decide +kernel
theorem d_LW_law_1027 : decode b_LW_law 1027 = .ok (.iconst 0, 1) := by decide +kernel
theorem d_LW_law_1028 : decode b_LW_law 1028 = .ok (.ireturn, 1) := by decide +kernel
theorem d_LW_law_1029 : decode b_LW_law 1029 = .ok (.iload 5, 2) := by decide +kernel
theorem d_LW_law_1031 : decode b_LW_law 1031 = .ok (.ifCond .ne 15, 3) := by decide +kernel
theorem d_LW_law_1034 : decode b_LW_law 1034 = .ok (.aload_n 3, 1) := by decide +kernel
theorem d_LW_law_1035 : decode b_LW_law 1035 = .ok (.iconst 0, 1) := by decide +kernel
theorem d_LW_law_1036 : decode b_LW_law 1036 = .ok (.laload, 1) := by decide +kernel
theorem d_LW_law_1037 : decode b_LW_law 1037 = .ok (.iload 6, 2) := by decide +kernel
theorem d_LW_law_1039 : decode b_LW_law 1039 = .ok (.i2l, 1) := by decide +kernel
theorem d_LW_law_1040 : decode b_LW_law 1040 = .ok (.lcmp, 1) := by decide +kernel
theorem d_LW_law_1041 : decode b_LW_law 1041 = .ok (.ifCond .eq 5, 3) := by decide +kernel
theorem d_LW_law_1044 : decode b_LW_law 1044 = .ok (.iconst 0, 1) := by decide +kernel
theorem d_LW_law_1045 : decode b_LW_law 1045 = .ok (.ireturn, 1) := by decide +kernel
theorem d_LW_law_1046 : decode b_LW_law 1046 = .ok (.goto 246, 3) := by decide +kernel
theorem d_LW_law_1049 : decode b_LW_law 1049 = .ok (.aload_n 1, 1) := by decide +kernel
theorem d_LW_law_1050 : decode b_LW_law 1050 = .ok (.aload_n 0, 1) := by decide +kernel
theorem d_LW_law_1051 : decode b_LW_law 1051 = .ok (.iload 4, 2) := by decide +kernel
theorem d_LW_law_1053 : decode b_LW_law 1053 = .ok (.iconst 1, 1) := by decide +kernel
theorem d_LW_law_1054 : decode b_LW_law 1054 = .ok (.iadd, 1) := by decide +kernel
theorem d_LW_law_1055 : decode b_LW_law 1055 = .ok (.iaload, 1) := by decide +kernel
theorem d_LW_law_1056 : decode b_LW_law 1056 = .ok (.aload_n 3, 1) := by decide +kernel
theorem d_LW_law_1057 : decode b_LW_law 1057 = .ok (.invokestatic 124, 3) := by decide +kernel
theorem d_LW_law_1060 : decode b_LW_law 1060 = .ok (.istore 5, 2) := by decide +kernel
theorem d_LW_law_1062 : decode b_LW_law 1062 = .ok (.aload_n 2, 1) := by decide +kernel
theorem d_LW_law_1063 : decode b_LW_law 1063 = .ok (.aload_n 0, 1) := by decide +kernel
theorem d_LW_law_1064 : decode b_LW_law 1064 = .ok (.iload 4, 2) := by decide +kernel
theorem d_LW_law_1066 : decode b_LW_law 1066 = .ok (.iconst 1, 1) := by decide +kernel
theorem d_LW_law_1067 : decode b_LW_law 1067 = .ok (.iadd, 1) := by decide +kernel
theorem d_LW_law_1068 : decode b_LW_law 1068 = .ok (.iaload, 1) := by decide +kernel
theorem d_LW_law_1069 : decode b_LW_law 1069 = .ok (.invokevirtual 126, 3) := by decide +kernel
theorem d_LW_law_1072 : decode b_LW_law 1072 = .ok (.istore 6, 2) := by decide +kernel
theorem d_LW_law_1074 : decode b_LW_law 1074 = .ok (.aload_n 2, 1) := by decide +kernel
theorem d_LW_law_1075 : decode b_LW_law 1075 = .ok (.invokevirtual 85, 3) := by decide +kernel
theorem d_LW_law_1078 : decode b_LW_law 1078 = .ok (.iload 5, 2) := by decide +kernel
theorem d_LW_law_1080 : decode b_LW_law 1080 = .ok (.if_icmp .eq 5, 3) := by decide +kernel
theorem d_LW_law_1083 : decode b_LW_law 1083 = .ok (.iconst 0, 1) := by decide +kernel
theorem d_LW_law_1084 : decode b_LW_law 1084 = .ok (.ireturn, 1) := by decide +kernel
theorem d_LW_law_1085 : decode b_LW_law 1085 = .ok (.iload 5, 2) := by decide +kernel
theorem d_LW_law_1087 : decode b_LW_law 1087 = .ok (.ifCond .ne 15, 3) := by decide +kernel
theorem d_LW_law_1090 : decode b_LW_law 1090 = .ok (.aload_n 3, 1) := by decide +kernel
theorem d_LW_law_1091 : decode b_LW_law 1091 = .ok (.iconst 0, 1) := by decide +kernel
theorem d_LW_law_1092 : decode b_LW_law 1092 = .ok (.laload, 1) := by decide +kernel
theorem d_LW_law_1093 : decode b_LW_law 1093 = .ok (.iload 6, 2) := by decide +kernel
theorem d_LW_law_1095 : decode b_LW_law 1095 = .ok (.i2l, 1) := by decide +kernel
theorem d_LW_law_1096 : decode b_LW_law 1096 = .ok (.lcmp, 1) := by decide +kernel
theorem d_LW_law_1097 : decode b_LW_law 1097 = .ok (.ifCond .eq 5, 3) := by decide +kernel
theorem d_LW_law_1100 : decode b_LW_law 1100 = .ok (.iconst 0, 1) := by decide +kernel
theorem d_LW_law_1101 : decode b_LW_law 1101 = .ok (.ireturn, 1) := by decide +kernel
theorem d_LW_law_1102 : decode b_LW_law 1102 = .ok (.goto 190, 3) := by decide +kernel
theorem d_LW_law_1105 : decode b_LW_law 1105 = .ok (.aload_n 1, 1) := by decide +kernel
theorem d_LW_law_1106 : decode b_LW_law 1106 = .ok (.aload_n 0, 1) := by decide +kernel
theorem d_LW_law_1107 : decode b_LW_law 1107 = .ok (.iload 4, 2) := by decide +kernel
theorem d_LW_law_1109 : decode b_LW_law 1109 = .ok (.iconst 1, 1) := by decide +kernel
theorem d_LW_law_1110 : decode b_LW_law 1110 = .ok (.iadd, 1) := by decide +kernel
theorem d_LW_law_1111 : decode b_LW_law 1111 = .ok (.iaload, 1) := by decide +kernel
theorem d_LW_law_1112 : decode b_LW_law 1112 = .ok (.aload_n 3, 1) := by decide +kernel
theorem d_LW_law_1113 : decode b_LW_law 1113 = .ok (.invokestatic 127, 3) := by decide +kernel
theorem d_LW_law_1116 : decode b_LW_law 1116 = .ok (.istore 5, 2) := by decide +kernel
theorem d_LW_law_1118 : decode b_LW_law 1118 = .ok (.aload_n 2, 1) := by decide +kernel
theorem d_LW_law_1119 : decode b_LW_law 1119 = .ok (.aload_n 0, 1) := by decide +kernel
theorem d_LW_law_1120 : decode b_LW_law 1120 = .ok (.iload 4, 2) := by decide +kernel
theorem d_LW_law_1122 : decode b_LW_law 1122 = .ok (.iconst 1, 1) := by decide +kernel
theorem d_LW_law_1123 : decode b_LW_law 1123 = .ok (.iadd, 1) := by decide +kernel
theorem d_LW_law_1124 : decode b_LW_law 1124 = .ok (.iaload, 1) := by decide +kernel
theorem d_LW_law_1125 : decode b_LW_law 1125 = .ok (.invokevirtual 129, 3) := by decide +kernel
theorem d_LW_law_1128 : decode b_LW_law 1128 = .ok (.istore 6, 2) := by decide +kernel
theorem d_LW_law_1130 : decode b_LW_law 1130 = .ok (.aload_n 2, 1) := by decide +kernel
theorem d_LW_law_1131 : decode b_LW_law 1131 = .ok (.invokevirtual 85, 3) := by decide +kernel
theorem d_LW_law_1134 : decode b_LW_law 1134 = .ok (.iload 5, 2) := by decide +kernel
theorem d_LW_law_1136 : decode b_LW_law 1136 = .ok (.if_icmp .eq 5, 3) := by decide +kernel
theorem d_LW_law_1139 : decode b_LW_law 1139 = .ok (.iconst 0, 1) := by decide +kernel
theorem d_LW_law_1140 : decode b_LW_law 1140 = .ok (.ireturn, 1) := by decide +kernel
theorem d_LW_law_1141 : decode b_LW_law 1141 = .ok (.iload 5, 2) := by decide +kernel
theorem d_LW_law_1143 : decode b_LW_law 1143 = .ok (.ifCond .ne 15, 3) := by decide +kernel
theorem d_LW_law_1146 : decode b_LW_law 1146 = .ok (.aload_n 3, 1) := by decide +kernel
theorem d_LW_law_1147 : decode b_LW_law 1147 = .ok (.iconst 0, 1) := by decide +kernel
theorem d_LW_law_1148 : decode b_LW_law 1148 = .ok (.laload, 1) := by decide +kernel
theorem d_LW_law_1149 : decode b_LW_law 1149 = .ok (.iload 6, 2) := by decide +kernel
theorem d_LW_law_1151 : decode b_LW_law 1151 = .ok (.i2l, 1) := by decide +kernel
theorem d_LW_law_1152 : decode b_LW_law 1152 = .ok (.lcmp, 1) := by decide +kernel
theorem d_LW_law_1153 : decode b_LW_law 1153 = .ok (.ifCond .eq 5, 3) := by decide +kernel
theorem d_LW_law_1156 : decode b_LW_law 1156 = .ok (.iconst 0, 1) := by decide +kernel
theorem d_LW_law_1157 : decode b_LW_law 1157 = .ok (.ireturn, 1) := by decide +kernel
theorem d_LW_law_1158 : decode b_LW_law 1158 = .ok (.goto 134, 3) := by decide +kernel
theorem d_LW_law_1161 : decode b_LW_law 1161 = .ok (.aload_n 1, 1) := by decide +kernel
theorem d_LW_law_1162 : decode b_LW_law 1162 = .ok (.aload_n 0, 1) := by decide +kernel
theorem d_LW_law_1163 : decode b_LW_law 1163 = .ok (.iload 4, 2) := by decide +kernel
theorem d_LW_law_1165 : decode b_LW_law 1165 = .ok (.iconst 1, 1) := by decide +kernel
theorem d_LW_law_1166 : decode b_LW_law 1166 = .ok (.iadd, 1) := by decide +kernel
theorem d_LW_law_1167 : decode b_LW_law 1167 = .ok (.iaload, 1) := by decide +kernel
theorem d_LW_law_1168 : decode b_LW_law 1168 = .ok (.aload_n 0, 1) := by decide +kernel
theorem d_LW_law_1169 : decode b_LW_law 1169 = .ok (.iload 4, 2) := by decide +kernel
theorem d_LW_law_1171 : decode b_LW_law 1171 = .ok (.iconst 2, 1) := by decide +kernel
theorem d_LW_law_1172 : decode b_LW_law 1172 = .ok (.iadd, 1) := by decide +kernel
theorem d_LW_law_1173 : decode b_LW_law 1173 = .ok (.iaload, 1) := by decide +kernel
theorem d_LW_law_1174 : decode b_LW_law 1174 = .ok (.aload_n 0, 1) := by decide +kernel
theorem d_LW_law_1175 : decode b_LW_law 1175 = .ok (.iload 4, 2) := by decide +kernel
theorem d_LW_law_1177 : decode b_LW_law 1177 = .ok (.iconst 3, 1) := by decide +kernel
theorem d_LW_law_1178 : decode b_LW_law 1178 = .ok (.iadd, 1) := by decide +kernel
theorem d_LW_law_1179 : decode b_LW_law 1179 = .ok (.iaload, 1) := by decide +kernel
theorem d_LW_law_1180 : decode b_LW_law 1180 = .ok (.aload_n 3, 1) := by decide +kernel
theorem d_LW_law_1181 : decode b_LW_law 1181 = .ok (.invokestatic 130, 3) := by decide +kernel
theorem d_LW_law_1184 : decode b_LW_law 1184 = .ok (.istore 5, 2) := by decide +kernel
theorem d_LW_law_1186 : decode b_LW_law 1186 = .ok (.aload_n 2, 1) := by decide +kernel
theorem d_LW_law_1187 : decode b_LW_law 1187 = .ok (.aload_n 0, 1) := by decide +kernel
theorem d_LW_law_1188 : decode b_LW_law 1188 = .ok (.iload 4, 2) := by decide +kernel
theorem d_LW_law_1190 : decode b_LW_law 1190 = .ok (.iconst 1, 1) := by decide +kernel
theorem d_LW_law_1191 : decode b_LW_law 1191 = .ok (.iadd, 1) := by decide +kernel
theorem d_LW_law_1192 : decode b_LW_law 1192 = .ok (.iaload, 1) := by decide +kernel
theorem d_LW_law_1193 : decode b_LW_law 1193 = .ok (.aload_n 0, 1) := by decide +kernel
theorem d_LW_law_1194 : decode b_LW_law 1194 = .ok (.iload 4, 2) := by decide +kernel
theorem d_LW_law_1196 : decode b_LW_law 1196 = .ok (.iconst 2, 1) := by decide +kernel
theorem d_LW_law_1197 : decode b_LW_law 1197 = .ok (.iadd, 1) := by decide +kernel
theorem d_LW_law_1198 : decode b_LW_law 1198 = .ok (.iaload, 1) := by decide +kernel
theorem d_LW_law_1199 : decode b_LW_law 1199 = .ok (.aload_n 0, 1) := by decide +kernel
theorem d_LW_law_1200 : decode b_LW_law 1200 = .ok (.iload 4, 2) := by decide +kernel
theorem d_LW_law_1202 : decode b_LW_law 1202 = .ok (.iconst 3, 1) := by decide +kernel
theorem d_LW_law_1203 : decode b_LW_law 1203 = .ok (.iadd, 1) := by decide +kernel
theorem d_LW_law_1204 : decode b_LW_law 1204 = .ok (.iaload, 1) := by decide +kernel
theorem d_LW_law_1205 : decode b_LW_law 1205 = .ok (.invokevirtual 132, 3) := by decide +kernel
theorem d_LW_law_1208 : decode b_LW_law 1208 = .ok (.istore 6, 2) := by decide +kernel
theorem d_LW_law_1210 : decode b_LW_law 1210 = .ok (.aload_n 2, 1) := by decide +kernel
theorem d_LW_law_1211 : decode b_LW_law 1211 = .ok (.invokevirtual 85, 3) := by decide +kernel
theorem d_LW_law_1214 : decode b_LW_law 1214 = .ok (.iload 5, 2) := by decide +kernel
theorem d_LW_law_1216 : decode b_LW_law 1216 = .ok (.if_icmp .eq 5, 3) := by decide +kernel
theorem d_LW_law_1219 : decode b_LW_law 1219 = .ok (.iconst 0, 1) := by decide +kernel
theorem d_LW_law_1220 : decode b_LW_law 1220 = .ok (.ireturn, 1) := by decide +kernel
theorem d_LW_law_1221 : decode b_LW_law 1221 = .ok (.iload 5, 2) := by decide +kernel
theorem d_LW_law_1223 : decode b_LW_law 1223 = .ok (.ifCond .ne 15, 3) := by decide +kernel
theorem d_LW_law_1226 : decode b_LW_law 1226 = .ok (.aload_n 3, 1) := by decide +kernel
theorem d_LW_law_1227 : decode b_LW_law 1227 = .ok (.iconst 0, 1) := by decide +kernel
theorem d_LW_law_1228 : decode b_LW_law 1228 = .ok (.laload, 1) := by decide +kernel
theorem d_LW_law_1229 : decode b_LW_law 1229 = .ok (.iload 6, 2) := by decide +kernel
theorem d_LW_law_1231 : decode b_LW_law 1231 = .ok (.i2l, 1) := by decide +kernel
theorem d_LW_law_1232 : decode b_LW_law 1232 = .ok (.lcmp, 1) := by decide +kernel
theorem d_LW_law_1233 : decode b_LW_law 1233 = .ok (.ifCond .eq 5, 3) := by decide +kernel
theorem d_LW_law_1236 : decode b_LW_law 1236 = .ok (.iconst 0, 1) := by decide +kernel
theorem d_LW_law_1237 : decode b_LW_law 1237 = .ok (.ireturn, 1) := by decide +kernel
theorem d_LW_law_1238 : decode b_LW_law 1238 = .ok (.goto 54, 3) := by decide +kernel
theorem d_LW_law_1241 : decode b_LW_law 1241 = .ok (.aload_n 1, 1) := by decide +kernel
theorem d_LW_law_1242 : decode b_LW_law 1242 = .ok (.invokevirtual 133, 3) := by decide +kernel
theorem d_LW_law_1245 : decode b_LW_law 1245 = .ok (.aload_n 2, 1) := by decide +kernel
theorem d_LW_law_1246 : decode b_LW_law 1246 = .ok (.invokevirtual 136, 3) := by decide +kernel
theorem d_LW_law_1249 : decode b_LW_law 1249 = .ok (.if_icmp .eq 43, 3) := by decide +kernel
theorem d_LW_law_1252 : decode b_LW_law 1252 = .ok (.iconst 0, 1) := by decide +kernel
theorem d_LW_law_1253 : decode b_LW_law 1253 = .ok (.ireturn, 1) := by decide +kernel
theorem d_LW_law_1254 : decode b_LW_law 1254 = .ok (.aload_n 1, 1) := by decide +kernel
theorem d_LW_law_1255 : decode b_LW_law 1255 = .ok (.invokevirtual 137, 3) := by decide +kernel
theorem d_LW_law_1258 : decode b_LW_law 1258 = .ok (.aload_n 2, 1) := by decide +kernel
theorem d_LW_law_1259 : decode b_LW_law 1259 = .ok (.invokevirtual 140, 3) := by decide +kernel
theorem d_LW_law_1262 : decode b_LW_law 1262 = .ok (.if_icmp .eq 30, 3) := by decide +kernel
theorem d_LW_law_1265 : decode b_LW_law 1265 = .ok (.iconst 0, 1) := by decide +kernel
theorem d_LW_law_1266 : decode b_LW_law 1266 = .ok (.ireturn, 1) := by decide +kernel
theorem d_LW_law_1267 : decode b_LW_law 1267 = .ok (.aload_n 1, 1) := by decide +kernel
theorem d_LW_law_1268 : decode b_LW_law 1268 = .ok (.aload_n 0, 1) := by decide +kernel
theorem d_LW_law_1269 : decode b_LW_law 1269 = .ok (.iload 4, 2) := by decide +kernel
theorem d_LW_law_1271 : decode b_LW_law 1271 = .ok (.iconst 1, 1) := by decide +kernel
theorem d_LW_law_1272 : decode b_LW_law 1272 = .ok (.iadd, 1) := by decide +kernel
theorem d_LW_law_1273 : decode b_LW_law 1273 = .ok (.iaload, 1) := by decide +kernel
theorem d_LW_law_1274 : decode b_LW_law 1274 = .ok (.invokevirtual 141, 3) := by decide +kernel
theorem d_LW_law_1277 : decode b_LW_law 1277 = .ok (.aload_n 2, 1) := by decide +kernel
theorem d_LW_law_1278 : decode b_LW_law 1278 = .ok (.aload_n 0, 1) := by decide +kernel
theorem d_LW_law_1279 : decode b_LW_law 1279 = .ok (.iload 4, 2) := by decide +kernel
theorem d_LW_law_1281 : decode b_LW_law 1281 = .ok (.iconst 1, 1) := by decide +kernel
theorem d_LW_law_1282 : decode b_LW_law 1282 = .ok (.iadd, 1) := by decide +kernel
theorem d_LW_law_1283 : decode b_LW_law 1283 = .ok (.iaload, 1) := by decide +kernel
theorem d_LW_law_1284 : decode b_LW_law 1284 = .ok (.invokevirtual 144, 3) := by decide +kernel
theorem d_LW_law_1287 : decode b_LW_law 1287 = .ok (.if_icmp .eq 5, 3) := by decide +kernel
theorem d_LW_law_1290 : decode b_LW_law 1290 = .ok (.iconst 0, 1) := by decide +kernel
theorem d_LW_law_1291 : decode b_LW_law 1291 = .ok (.ireturn, 1) := by decide +kernel
theorem d_LW_law_1292 : decode b_LW_law 1292 = .ok (.iinc 4 6, 3) := by decide +kernel
theorem d_LW_law_1295 : decode b_LW_law 1295 = .ok (.goto (-1262), 3) := by decide +kernel
theorem d_LW_law_1298 : decode b_LW_law 1298 = .ok (.iconst 1, 1) := by decide +kernel
theorem d_LW_law_1299 : decode b_LW_law 1299 = .ok (.ireturn, 1) := by decide +kernel
