abbrev b_In_bitCount : ByteArray := prog_12_method_49_code
def y_In_bitCount : MethodName := ⟨"java/lang/Integer", "bitCount", "(I)I"⟩
theorem d_In_bitCount_0 : decode b_In_bitCount 0 = .ok (.iload_n 0, 1) := by decide +kernel
theorem d_In_bitCount_1 : decode b_In_bitCount 1 = .ok (.iload_n 0, 1) := by decide +kernel
theorem d_In_bitCount_2 : decode b_In_bitCount 2 = .ok (.iconst 1, 1) := by decide +kernel
theorem d_In_bitCount_3 : decode b_In_bitCount 3 = .ok (.iushr, 1) := by decide +kernel
theorem d_In_bitCount_4 : decode b_In_bitCount 4 = .ok (.ldc_w 265, 3) := by decide +kernel
theorem d_In_bitCount_7 : decode b_In_bitCount 7 = .ok (.iand, 1) := by decide +kernel
theorem d_In_bitCount_8 : decode b_In_bitCount 8 = .ok (.isub, 1) := by decide +kernel
theorem d_In_bitCount_9 : decode b_In_bitCount 9 = .ok (.istore_n 0, 1) := by decide +kernel
theorem d_In_bitCount_10 : decode b_In_bitCount 10 = .ok (.iload_n 0, 1) := by decide +kernel
theorem d_In_bitCount_11 : decode b_In_bitCount 11 = .ok (.ldc_w 266, 3) := by decide +kernel
theorem d_In_bitCount_14 : decode b_In_bitCount 14 = .ok (.iand, 1) := by decide +kernel
theorem d_In_bitCount_15 : decode b_In_bitCount 15 = .ok (.iload_n 0, 1) := by decide +kernel
theorem d_In_bitCount_16 : decode b_In_bitCount 16 = .ok (.iconst 2, 1) := by decide +kernel
theorem d_In_bitCount_17 : decode b_In_bitCount 17 = .ok (.iushr, 1) := by decide +kernel
theorem d_In_bitCount_18 : decode b_In_bitCount 18 = .ok (.ldc_w 266, 3) := by decide +kernel
theorem d_In_bitCount_21 : decode b_In_bitCount 21 = .ok (.iand, 1) := by decide +kernel
theorem d_In_bitCount_22 : decode b_In_bitCount 22 = .ok (.iadd, 1) := by decide +kernel
theorem d_In_bitCount_23 : decode b_In_bitCount 23 = .ok (.istore_n 0, 1) := by decide +kernel
theorem d_In_bitCount_24 : decode b_In_bitCount 24 = .ok (.iload_n 0, 1) := by decide +kernel
theorem d_In_bitCount_25 : decode b_In_bitCount 25 = .ok (.iload_n 0, 1) := by decide +kernel
theorem d_In_bitCount_26 : decode b_In_bitCount 26 = .ok (.iconst 4, 1) := by decide +kernel
theorem d_In_bitCount_27 : decode b_In_bitCount 27 = .ok (.iushr, 1) := by decide +kernel
theorem d_In_bitCount_28 : decode b_In_bitCount 28 = .ok (.iadd, 1) := by decide +kernel
theorem d_In_bitCount_29 : decode b_In_bitCount 29 = .ok (.ldc_w 267, 3) := by decide +kernel
theorem d_In_bitCount_32 : decode b_In_bitCount 32 = .ok (.iand, 1) := by decide +kernel
theorem d_In_bitCount_33 : decode b_In_bitCount 33 = .ok (.istore_n 0, 1) := by decide +kernel
theorem d_In_bitCount_34 : decode b_In_bitCount 34 = .ok (.iload_n 0, 1) := by decide +kernel
theorem d_In_bitCount_35 : decode b_In_bitCount 35 = .ok (.iload_n 0, 1) := by decide +kernel
theorem d_In_bitCount_36 : decode b_In_bitCount 36 = .ok (.bipush 8, 2) := by decide +kernel
theorem d_In_bitCount_38 : decode b_In_bitCount 38 = .ok (.iushr, 1) := by decide +kernel
theorem d_In_bitCount_39 : decode b_In_bitCount 39 = .ok (.iadd, 1) := by decide +kernel
theorem d_In_bitCount_40 : decode b_In_bitCount 40 = .ok (.istore_n 0, 1) := by decide +kernel
theorem d_In_bitCount_41 : decode b_In_bitCount 41 = .ok (.iload_n 0, 1) := by decide +kernel
theorem d_In_bitCount_42 : decode b_In_bitCount 42 = .ok (.iload_n 0, 1) := by decide +kernel
theorem d_In_bitCount_43 : decode b_In_bitCount 43 = .ok (.bipush 16, 2) := by decide +kernel
theorem d_In_bitCount_45 : decode b_In_bitCount 45 = .ok (.iushr, 1) := by decide +kernel
theorem d_In_bitCount_46 : decode b_In_bitCount 46 = .ok (.iadd, 1) := by decide +kernel
theorem d_In_bitCount_47 : decode b_In_bitCount 47 = .ok (.istore_n 0, 1) := by decide +kernel
theorem d_In_bitCount_48 : decode b_In_bitCount 48 = .ok (.iload_n 0, 1) := by decide +kernel
theorem d_In_bitCount_49 : decode b_In_bitCount 49 = .ok (.bipush 63, 2) := by decide +kernel
theorem d_In_bitCount_51 : decode b_In_bitCount 51 = .ok (.iand, 1) := by decide +kernel
theorem d_In_bitCount_52 : decode b_In_bitCount 52 = .ok (.ireturn, 1) := by decide +kernel
abbrev b_Pr_isIn : ByteArray := prog_3_method_2_code
def y_Pr_isIn : MethodName := ⟨"QuestionDesk$Pairs", "isIn", "(II)Z"⟩
theorem d_Pr_isIn_0 : decode b_Pr_isIn 0 = .ok (.iload_n 0, 1) := by decide +kernel
theorem d_Pr_isIn_1 : decode b_Pr_isIn 1 = .ok (.iload_n 1, 1) := by decide +kernel
theorem d_Pr_isIn_2 : decode b_Pr_isIn 2 = .ok (.iconst 1, 1) := by decide +kernel
theorem d_Pr_isIn_3 : decode b_Pr_isIn 3 = .ok (.iadd, 1) := by decide +kernel
theorem d_Pr_isIn_4 : decode b_Pr_isIn 4 = .ok (.ishr, 1) := by decide +kernel
theorem d_Pr_isIn_5 : decode b_Pr_isIn 5 = .ok (.iconst 1, 1) := by decide +kernel
theorem d_Pr_isIn_6 : decode b_Pr_isIn 6 = .ok (.iand, 1) := by decide +kernel
theorem d_Pr_isIn_7 : decode b_Pr_isIn 7 = .ok (.ifCond .eq 7, 3) := by decide +kernel
theorem d_Pr_isIn_10 : decode b_Pr_isIn 10 = .ok (.iconst 1, 1) := by decide +kernel
theorem d_Pr_isIn_11 : decode b_Pr_isIn 11 = .ok (.goto 4, 3) := by decide +kernel
theorem d_Pr_isIn_14 : decode b_Pr_isIn 14 = .ok (.iconst 0, 1) := by decide +kernel
theorem d_Pr_isIn_15 : decode b_Pr_isIn 15 = .ok (.ireturn, 1) := by decide +kernel
abbrev b_Pr_row : ByteArray := prog_3_method_3_code
def y_Pr_row : MethodName := ⟨"QuestionDesk$Pairs", "row", "(II)I"⟩
theorem d_Pr_row_0 : decode b_Pr_row 0 = .ok (.aload_n 0, 1) := by decide +kernel
theorem d_Pr_row_1 : decode b_Pr_row 1 = .ok (.getfield 11, 3) := by decide +kernel
theorem d_Pr_row_4 : decode b_Pr_row 4 = .ok (.iload_n 1, 1) := by decide +kernel
theorem d_Pr_row_5 : decode b_Pr_row 5 = .ok (.bipush 11, 2) := by decide +kernel
theorem d_Pr_row_7 : decode b_Pr_row 7 = .ok (.imul, 1) := by decide +kernel
theorem d_Pr_row_8 : decode b_Pr_row 8 = .ok (.iload_n 2, 1) := by decide +kernel
theorem d_Pr_row_9 : decode b_Pr_row 9 = .ok (.iadd, 1) := by decide +kernel
theorem d_Pr_row_10 : decode b_Pr_row 10 = .ok (.iconst 1, 1) := by decide +kernel
theorem d_Pr_row_11 : decode b_Pr_row 11 = .ok (.iadd, 1) := by decide +kernel
theorem d_Pr_row_12 : decode b_Pr_row 12 = .ok (.iaload, 1) := by decide +kernel
theorem d_Pr_row_13 : decode b_Pr_row 13 = .ok (.ireturn, 1) := by decide +kernel
abbrev b_Pr_rowOfAny : ByteArray := prog_3_method_4_code
def y_Pr_rowOfAny : MethodName := ⟨"QuestionDesk$Pairs", "rowOfAny", "(I)I"⟩
theorem d_Pr_rowOfAny_0 : decode b_Pr_rowOfAny 0 = .ok (.iconst 0, 1) := by decide +kernel
theorem d_Pr_rowOfAny_1 : decode b_Pr_rowOfAny 1 = .ok (.istore_n 2, 1) := by decide +kernel
theorem d_Pr_rowOfAny_2 : decode b_Pr_rowOfAny 2 = .ok (.iconst 0, 1) := by decide +kernel
theorem d_Pr_rowOfAny_3 : decode b_Pr_rowOfAny 3 = .ok (.istore_n 3, 1) := by decide +kernel
theorem d_Pr_rowOfAny_4 : decode b_Pr_rowOfAny 4 = .ok (.iload_n 3, 1) := by decide +kernel
theorem d_Pr_rowOfAny_5 : decode b_Pr_rowOfAny 5 = .ok (.bipush 10, 2) := by decide +kernel
theorem d_Pr_rowOfAny_7 : decode b_Pr_rowOfAny 7 = .ok (.if_icmp .ge 18, 3) := by decide +kernel
theorem d_Pr_rowOfAny_10 : decode b_Pr_rowOfAny 10 = .ok (.iload_n 2, 1) := by decide +kernel
theorem d_Pr_rowOfAny_11 : decode b_Pr_rowOfAny 11 = .ok (.aload_n 0, 1) := by decide +kernel
theorem d_Pr_rowOfAny_12 : decode b_Pr_rowOfAny 12 = .ok (.iload_n 1, 1) := by decide +kernel
theorem d_Pr_rowOfAny_13 : decode b_Pr_rowOfAny 13 = .ok (.iload_n 3, 1) := by decide +kernel
theorem d_Pr_rowOfAny_14 : decode b_Pr_rowOfAny 14 = .ok (.invokevirtual 15, 3) := by decide +kernel
theorem d_Pr_rowOfAny_17 : decode b_Pr_rowOfAny 17 = .ok (.ior, 1) := by decide +kernel
theorem d_Pr_rowOfAny_18 : decode b_Pr_rowOfAny 18 = .ok (.istore_n 2, 1) := by decide +kernel
theorem d_Pr_rowOfAny_19 : decode b_Pr_rowOfAny 19 = .ok (.iinc 3 1, 3) := by decide +kernel
theorem d_Pr_rowOfAny_22 : decode b_Pr_rowOfAny 22 = .ok (.goto (-18), 3) := by decide +kernel
theorem d_Pr_rowOfAny_25 : decode b_Pr_rowOfAny 25 = .ok (.iload_n 2, 1) := by decide +kernel
theorem d_Pr_rowOfAny_26 : decode b_Pr_rowOfAny 26 = .ok (.ireturn, 1) := by decide +kernel
abbrev b_Pr_has : ByteArray := prog_3_method_5_code
def y_Pr_has : MethodName := ⟨"QuestionDesk$Pairs", "has", "(III)Z"⟩
theorem d_Pr_has_0 : decode b_Pr_has 0 = .ok (.aload_n 0, 1) := by decide +kernel
theorem d_Pr_has_1 : decode b_Pr_has 1 = .ok (.iload_n 1, 1) := by decide +kernel
theorem d_Pr_has_2 : decode b_Pr_has 2 = .ok (.iload_n 2, 1) := by decide +kernel
theorem d_Pr_has_3 : decode b_Pr_has 3 = .ok (.invokevirtual 15, 3) := by decide +kernel
theorem d_Pr_has_6 : decode b_Pr_has 6 = .ok (.iload_n 3, 1) := by decide +kernel
theorem d_Pr_has_7 : decode b_Pr_has 7 = .ok (.invokestatic 19, 3) := by decide +kernel
theorem d_Pr_has_10 : decode b_Pr_has 10 = .ok (.ireturn, 1) := by decide +kernel
abbrev b_Pr_put : ByteArray := prog_3_method_6_code
def y_Pr_put : MethodName := ⟨"QuestionDesk$Pairs", "put", "(III)Z"⟩
theorem d_Pr_put_0 : decode b_Pr_put 0 = .ok (.iload_n 1, 1) := by decide +kernel
theorem d_Pr_put_1 : decode b_Pr_put 1 = .ok (.bipush 11, 2) := by decide +kernel
theorem d_Pr_put_3 : decode b_Pr_put 3 = .ok (.imul, 1) := by decide +kernel
theorem d_Pr_put_4 : decode b_Pr_put 4 = .ok (.iload_n 2, 1) := by decide +kernel
theorem d_Pr_put_5 : decode b_Pr_put 5 = .ok (.iadd, 1) := by decide +kernel
theorem d_Pr_put_6 : decode b_Pr_put 6 = .ok (.iconst 1, 1) := by decide +kernel
theorem d_Pr_put_7 : decode b_Pr_put 7 = .ok (.iadd, 1) := by decide +kernel
theorem d_Pr_put_8 : decode b_Pr_put 8 = .ok (.istore 4, 2) := by decide +kernel
theorem d_Pr_put_10 : decode b_Pr_put 10 = .ok (.aload_n 0, 1) := by decide +kernel
theorem d_Pr_put_11 : decode b_Pr_put 11 = .ok (.getfield 11, 3) := by decide +kernel
theorem d_Pr_put_14 : decode b_Pr_put 14 = .ok (.iload 4, 2) := by decide +kernel
theorem d_Pr_put_16 : decode b_Pr_put 16 = .ok (.iaload, 1) := by decide +kernel
theorem d_Pr_put_17 : decode b_Pr_put 17 = .ok (.istore 5, 2) := by decide +kernel
theorem d_Pr_put_19 : decode b_Pr_put 19 = .ok (.aload_n 0, 1) := by decide +kernel
theorem d_Pr_put_20 : decode b_Pr_put 20 = .ok (.getfield 11, 3) := by decide +kernel
theorem d_Pr_put_23 : decode b_Pr_put 23 = .ok (.iload 4, 2) := by decide +kernel
theorem d_Pr_put_25 : decode b_Pr_put 25 = .ok (.iload 5, 2) := by decide +kernel
theorem d_Pr_put_27 : decode b_Pr_put 27 = .ok (.iconst 1, 1) := by decide +kernel
theorem d_Pr_put_28 : decode b_Pr_put 28 = .ok (.iload_n 3, 1) := by decide +kernel
theorem d_Pr_put_29 : decode b_Pr_put 29 = .ok (.iconst 1, 1) := by decide +kernel
theorem d_Pr_put_30 : decode b_Pr_put 30 = .ok (.iadd, 1) := by decide +kernel
theorem d_Pr_put_31 : decode b_Pr_put 31 = .ok (.ishl, 1) := by decide +kernel
theorem d_Pr_put_32 : decode b_Pr_put 32 = .ok (.ior, 1) := by decide +kernel
theorem d_Pr_put_33 : decode b_Pr_put 33 = .ok (.iastore, 1) := by decide +kernel
theorem d_Pr_put_34 : decode b_Pr_put 34 = .ok (.aload_n 0, 1) := by decide +kernel
theorem d_Pr_put_35 : decode b_Pr_put 35 = .ok (.getfield 11, 3) := by decide +kernel
theorem d_Pr_put_38 : decode b_Pr_put 38 = .ok (.iload 4, 2) := by decide +kernel
theorem d_Pr_put_40 : decode b_Pr_put 40 = .ok (.iaload, 1) := by decide +kernel
theorem d_Pr_put_41 : decode b_Pr_put 41 = .ok (.iload 5, 2) := by decide +kernel
theorem d_Pr_put_43 : decode b_Pr_put 43 = .ok (.if_icmp .eq 7, 3) := by decide +kernel
theorem d_Pr_put_46 : decode b_Pr_put 46 = .ok (.iconst 1, 1) := by decide +kernel
theorem d_Pr_put_47 : decode b_Pr_put 47 = .ok (.goto 4, 3) := by decide +kernel
theorem d_Pr_put_50 : decode b_Pr_put 50 = .ok (.iconst 0, 1) := by decide +kernel
theorem d_Pr_put_51 : decode b_Pr_put 51 = .ok (.ireturn, 1) := by decide +kernel
abbrev b_Pr_remove : ByteArray := prog_3_method_7_code
def y_Pr_remove : MethodName := ⟨"QuestionDesk$Pairs", "remove", "(III)Z"⟩
theorem d_Pr_remove_0 : decode b_Pr_remove 0 = .ok (.iload_n 1, 1) := by decide +kernel
theorem d_Pr_remove_1 : decode b_Pr_remove 1 = .ok (.bipush 11, 2) := by decide +kernel
theorem d_Pr_remove_3 : decode b_Pr_remove 3 = .ok (.imul, 1) := by decide +kernel
theorem d_Pr_remove_4 : decode b_Pr_remove 4 = .ok (.iload_n 2, 1) := by decide +kernel
theorem d_Pr_remove_5 : decode b_Pr_remove 5 = .ok (.iadd, 1) := by decide +kernel
theorem d_Pr_remove_6 : decode b_Pr_remove 6 = .ok (.iconst 1, 1) := by decide +kernel
theorem d_Pr_remove_7 : decode b_Pr_remove 7 = .ok (.iadd, 1) := by decide +kernel
theorem d_Pr_remove_8 : decode b_Pr_remove 8 = .ok (.istore 4, 2) := by decide +kernel
theorem d_Pr_remove_10 : decode b_Pr_remove 10 = .ok (.aload_n 0, 1) := by decide +kernel
theorem d_Pr_remove_11 : decode b_Pr_remove 11 = .ok (.getfield 11, 3) := by decide +kernel
theorem d_Pr_remove_14 : decode b_Pr_remove 14 = .ok (.iload 4, 2) := by decide +kernel
theorem d_Pr_remove_16 : decode b_Pr_remove 16 = .ok (.iaload, 1) := by decide +kernel
theorem d_Pr_remove_17 : decode b_Pr_remove 17 = .ok (.istore 5, 2) := by decide +kernel
theorem d_Pr_remove_19 : decode b_Pr_remove 19 = .ok (.aload_n 0, 1) := by decide +kernel
theorem d_Pr_remove_20 : decode b_Pr_remove 20 = .ok (.getfield 11, 3) := by decide +kernel
theorem d_Pr_remove_23 : decode b_Pr_remove 23 = .ok (.iload 4, 2) := by decide +kernel
theorem d_Pr_remove_25 : decode b_Pr_remove 25 = .ok (.iload 5, 2) := by decide +kernel
theorem d_Pr_remove_27 : decode b_Pr_remove 27 = .ok (.iconst 1, 1) := by decide +kernel
theorem d_Pr_remove_28 : decode b_Pr_remove 28 = .ok (.iload_n 3, 1) := by decide +kernel
theorem d_Pr_remove_29 : decode b_Pr_remove 29 = .ok (.iconst 1, 1) := by decide +kernel
theorem d_Pr_remove_30 : decode b_Pr_remove 30 = .ok (.iadd, 1) := by decide +kernel
theorem d_Pr_remove_31 : decode b_Pr_remove 31 = .ok (.ishl, 1) := by decide +kernel
theorem d_Pr_remove_32 : decode b_Pr_remove 32 = .ok (.iconst (-1), 1) := by decide +kernel
theorem d_Pr_remove_33 : decode b_Pr_remove 33 = .ok (.ixor, 1) := by decide +kernel
theorem d_Pr_remove_34 : decode b_Pr_remove 34 = .ok (.iand, 1) := by decide +kernel
theorem d_Pr_remove_35 : decode b_Pr_remove 35 = .ok (.iastore, 1) := by decide +kernel
theorem d_Pr_remove_36 : decode b_Pr_remove 36 = .ok (.aload_n 0, 1) := by decide +kernel
theorem d_Pr_remove_37 : decode b_Pr_remove 37 = .ok (.getfield 11, 3) := by decide +kernel
theorem d_Pr_remove_40 : decode b_Pr_remove 40 = .ok (.iload 4, 2) := by decide +kernel
theorem d_Pr_remove_42 : decode b_Pr_remove 42 = .ok (.iaload, 1) := by decide +kernel
theorem d_Pr_remove_43 : decode b_Pr_remove 43 = .ok (.iload 5, 2) := by decide +kernel
theorem d_Pr_remove_45 : decode b_Pr_remove 45 = .ok (.if_icmp .eq 7, 3) := by decide +kernel
theorem d_Pr_remove_48 : decode b_Pr_remove 48 = .ok (.iconst 1, 1) := by decide +kernel
theorem d_Pr_remove_49 : decode b_Pr_remove 49 = .ok (.goto 4, 3) := by decide +kernel
theorem d_Pr_remove_52 : decode b_Pr_remove 52 = .ok (.iconst 0, 1) := by decide +kernel
theorem d_Pr_remove_53 : decode b_Pr_remove 53 = .ok (.ireturn, 1) := by decide +kernel
abbrev b_Pr_size : ByteArray := prog_3_method_8_code
def y_Pr_size : MethodName := ⟨"QuestionDesk$Pairs", "size", "(I)I"⟩
theorem d_Pr_size_0 : decode b_Pr_size 0 = .ok (.iconst 0, 1) := by decide +kernel
theorem d_Pr_size_1 : decode b_Pr_size 1 = .ok (.istore_n 2, 1) := by decide +kernel
theorem d_Pr_size_2 : decode b_Pr_size 2 = .ok (.iconst (-1), 1) := by decide +kernel
theorem d_Pr_size_3 : decode b_Pr_size 3 = .ok (.istore_n 3, 1) := by decide +kernel
theorem d_Pr_size_4 : decode b_Pr_size 4 = .ok (.iload_n 3, 1) := by decide +kernel
theorem d_Pr_size_5 : decode b_Pr_size 5 = .ok (.bipush 10, 2) := by decide +kernel
theorem d_Pr_size_7 : decode b_Pr_size 7 = .ok (.if_icmp .ge 21, 3) := by decide +kernel
theorem d_Pr_size_10 : decode b_Pr_size 10 = .ok (.iload_n 2, 1) := by decide +kernel
theorem d_Pr_size_11 : decode b_Pr_size 11 = .ok (.aload_n 0, 1) := by decide +kernel
theorem d_Pr_size_12 : decode b_Pr_size 12 = .ok (.iload_n 1, 1) := by decide +kernel
theorem d_Pr_size_13 : decode b_Pr_size 13 = .ok (.iload_n 3, 1) := by decide +kernel
theorem d_Pr_size_14 : decode b_Pr_size 14 = .ok (.invokevirtual 15, 3) := by decide +kernel
theorem d_Pr_size_17 : decode b_Pr_size 17 = .ok (.invokestatic 23, 3) := by decide +kernel
theorem d_Pr_size_20 : decode b_Pr_size 20 = .ok (.iadd, 1) := by decide +kernel
theorem d_Pr_size_21 : decode b_Pr_size 21 = .ok (.istore_n 2, 1) := by decide +kernel
theorem d_Pr_size_22 : decode b_Pr_size 22 = .ok (.iinc 3 1, 3) := by decide +kernel
theorem d_Pr_size_25 : decode b_Pr_size 25 = .ok (.goto (-21), 3) := by decide +kernel
theorem d_Pr_size_28 : decode b_Pr_size 28 = .ok (.iload_n 2, 1) := by decide +kernel
theorem d_Pr_size_29 : decode b_Pr_size 29 = .ok (.ireturn, 1) := by decide +kernel
abbrev b_Pr_startQuestion : ByteArray := prog_3_method_9_code
def y_Pr_startQuestion : MethodName := ⟨"QuestionDesk$Pairs", "startQuestion", "()V"⟩
theorem d_Pr_startQuestion_0 : decode b_Pr_startQuestion 0 = .ok (.iconst 0, 1) := by decide +kernel
theorem d_Pr_startQuestion_1 : decode b_Pr_startQuestion 1 = .ok (.istore_n 1, 1) := by decide +kernel
theorem d_Pr_startQuestion_2 : decode b_Pr_startQuestion 2 = .ok (.iload_n 1, 1) := by decide +kernel
theorem d_Pr_startQuestion_3 : decode b_Pr_startQuestion 3 = .ok (.bipush 110, 2) := by decide +kernel
theorem d_Pr_startQuestion_5 : decode b_Pr_startQuestion 5 = .ok (.if_icmp .ge 37, 3) := by decide +kernel
theorem d_Pr_startQuestion_8 : decode b_Pr_startQuestion 8 = .ok (.aload_n 0, 1) := by decide +kernel
theorem d_Pr_startQuestion_9 : decode b_Pr_startQuestion 9 = .ok (.getfield 11, 3) := by decide +kernel
theorem d_Pr_startQuestion_12 : decode b_Pr_startQuestion 12 = .ok (.iconst 0, 1) := by decide +kernel
theorem d_Pr_startQuestion_13 : decode b_Pr_startQuestion 13 = .ok (.iload_n 1, 1) := by decide +kernel
theorem d_Pr_startQuestion_14 : decode b_Pr_startQuestion 14 = .ok (.iadd, 1) := by decide +kernel
theorem d_Pr_startQuestion_15 : decode b_Pr_startQuestion 15 = .ok (.aload_n 0, 1) := by decide +kernel
theorem d_Pr_startQuestion_16 : decode b_Pr_startQuestion 16 = .ok (.getfield 11, 3) := by decide +kernel
theorem d_Pr_startQuestion_19 : decode b_Pr_startQuestion 19 = .ok (.sipush 220, 3) := by decide +kernel
theorem d_Pr_startQuestion_22 : decode b_Pr_startQuestion 22 = .ok (.iload_n 1, 1) := by decide +kernel
theorem d_Pr_startQuestion_23 : decode b_Pr_startQuestion 23 = .ok (.iadd, 1) := by decide +kernel
theorem d_Pr_startQuestion_24 : decode b_Pr_startQuestion 24 = .ok (.iaload, 1) := by decide +kernel
theorem d_Pr_startQuestion_25 : decode b_Pr_startQuestion 25 = .ok (.iastore, 1) := by decide +kernel
theorem d_Pr_startQuestion_26 : decode b_Pr_startQuestion 26 = .ok (.aload_n 0, 1) := by decide +kernel
theorem d_Pr_startQuestion_27 : decode b_Pr_startQuestion 27 = .ok (.getfield 11, 3) := by decide +kernel
theorem d_Pr_startQuestion_30 : decode b_Pr_startQuestion 30 = .ok (.bipush 110, 2) := by decide +kernel
theorem d_Pr_startQuestion_32 : decode b_Pr_startQuestion 32 = .ok (.iload_n 1, 1) := by decide +kernel
theorem d_Pr_startQuestion_33 : decode b_Pr_startQuestion 33 = .ok (.iadd, 1) := by decide +kernel
theorem d_Pr_startQuestion_34 : decode b_Pr_startQuestion 34 = .ok (.iconst 0, 1) := by decide +kernel
theorem d_Pr_startQuestion_35 : decode b_Pr_startQuestion 35 = .ok (.iastore, 1) := by decide +kernel
theorem d_Pr_startQuestion_36 : decode b_Pr_startQuestion 36 = .ok (.iinc 1 1, 3) := by decide +kernel
theorem d_Pr_startQuestion_39 : decode b_Pr_startQuestion 39 = .ok (.goto (-37), 3) := by decide +kernel
theorem d_Pr_startQuestion_42 : decode b_Pr_startQuestion 42 = .ok (.iconst 0, 1) := by decide +kernel
theorem d_Pr_startQuestion_43 : decode b_Pr_startQuestion 43 = .ok (.istore_n 1, 1) := by decide +kernel
theorem d_Pr_startQuestion_44 : decode b_Pr_startQuestion 44 = .ok (.iload_n 1, 1) := by decide +kernel
theorem d_Pr_startQuestion_45 : decode b_Pr_startQuestion 45 = .ok (.bipush 11, 2) := by decide +kernel
theorem d_Pr_startQuestion_47 : decode b_Pr_startQuestion 47 = .ok (.if_icmp .ge 20, 3) := by decide +kernel
theorem d_Pr_startQuestion_50 : decode b_Pr_startQuestion 50 = .ok (.aload_n 0, 1) := by decide +kernel
theorem d_Pr_startQuestion_51 : decode b_Pr_startQuestion 51 = .ok (.getfield 11, 3) := by decide +kernel
theorem d_Pr_startQuestion_54 : decode b_Pr_startQuestion 54 = .ok (.sipush 330, 3) := by decide +kernel
theorem d_Pr_startQuestion_57 : decode b_Pr_startQuestion 57 = .ok (.iload_n 1, 1) := by decide +kernel
theorem d_Pr_startQuestion_58 : decode b_Pr_startQuestion 58 = .ok (.iadd, 1) := by decide +kernel
theorem d_Pr_startQuestion_59 : decode b_Pr_startQuestion 59 = .ok (.iconst 0, 1) := by decide +kernel
theorem d_Pr_startQuestion_60 : decode b_Pr_startQuestion 60 = .ok (.iastore, 1) := by decide +kernel
theorem d_Pr_startQuestion_61 : decode b_Pr_startQuestion 61 = .ok (.iinc 1 1, 3) := by decide +kernel
theorem d_Pr_startQuestion_64 : decode b_Pr_startQuestion 64 = .ok (.goto (-20), 3) := by decide +kernel
theorem d_Pr_startQuestion_67 : decode b_Pr_startQuestion 67 = .ok (.return_, 1) := by decide +kernel
theorem xw_195 : (Jvm.Cond.constant "java/lang/Integer" (265 : Nat) (1431655765 : Int32)) ∈ xg := xg_t (i := 195) (by decide +kernel) (by decide +kernel)
theorem xw_196 : (Jvm.Cond.constant "java/lang/Integer" (266 : Nat) (858993459 : Int32)) ∈ xg := xg_t (i := 196) (by decide +kernel) (by decide +kernel)
theorem xw_197 : (Jvm.Cond.constant "java/lang/Integer" (267 : Nat) (252645135 : Int32)) ∈ xg := xg_t (i := 197) (by decide +kernel) (by decide +kernel)
def wp_In_bitCount (post : Int32 → Prop)  (i : Int32) : Prop :=
∀ x_1 : Int32, x_1 = i - (((Int32.toUInt32 i >>> (Int32.toUInt32 1 &&& Int32.toUInt32 31)).toInt32) &&& 1431655765) →
∀ x_2 : Int32, x_2 = (x_1 &&& 858993459) + (((Int32.toUInt32 x_1 >>> (Int32.toUInt32 2 &&& Int32.toUInt32 31)).toInt32) &&& 858993459) →
∀ x_3 : Int32, x_3 = (x_2 + ((Int32.toUInt32 x_2 >>> (Int32.toUInt32 4 &&& Int32.toUInt32 31)).toInt32)) &&& 252645135 →
∀ x_4 : Int32, x_4 = x_3 + ((Int32.toUInt32 x_3 >>> (Int32.toUInt32 8 &&& Int32.toUInt32 31)).toInt32) →
∀ x_5 : Int32, x_5 = x_4 + ((Int32.toUInt32 x_4 >>> (Int32.toUInt32 16 &&& Int32.toUInt32 31)).toInt32) →
post (x_5 &&& 63)
abbrev rm_In_bitCount : Room := { frames := 0, cells := 0, slots := 0, locals := 0 }
set_option maxHeartbeats 4000000 in
set_option maxRecDepth 100000 in
theorem c_In_bitCount {l : Launch} {D : va_G} {ad : Nat → Nat} (CE : Nat → Option va_E) {cI cZ cJ cO : ClassId}    {post : Int32 → Prop} {i : Int32} (h : wp_In_bitCount post i) : ∀ sz, Met l y_In_bitCount (Cond.code y_In_bitCount b_In_bitCount 1 (some .int) :: xg) rm_In_bitCount (xm_Pc D xcl (xT cI cZ cJ cO) ad CE sz [.int i]) (va_Qi (fun (r : Int32) (_ : Unit) => post r) (xm_B D xcl (xT cI cZ cJ cO) (xm_A ad CE sz) (fun _ => ad) (fun _ : Unit => CE)) (xm_A ad CE sz)) 0 0 (xm_A ad CE sz) := by
  refine xm_ofW (cc := b_In_bitCount) (maxL := 1) (ret := (some .int)) (by decide) rfl (Nat.le_of_ble_eq_true rfl) ?_
  intro p e s m args below meth c ls QQ hQQ hx hb hml hr hown hlk hnm hts hl hw
  have hl : lv_has ls 1 [(0, .int i)] := hl
  unfold wp_In_bitCount at h
  refine lv_iload_n hx hb d_In_bitCount_0 rfl (lv_at hl 0 rfl) ?_
  refine lv_iload_n hx hb d_In_bitCount_1 rfl (lv_at hl 0 rfl) ?_
  refine lv_iconst (v := 1) hx hb d_In_bitCount_2 (by decide) ?_
  refine lv_iushr hx hb d_In_bitCount_3 rfl ?_
  refine lv_ldcw (v := 1431655765) hx hb hown (hts _ (List.mem_cons_of_mem _ xw_195)) d_In_bitCount_4 ?_
  refine lv_iand hx hb d_In_bitCount_7 ?_
  refine lv_isub hx hb d_In_bitCount_8 ?_
  refine lv_topi (fun x_1 ex_1 => ?_)
  have h := h x_1 ex_1
  refine lv_istore_n (lv' := [(0, .int x_1)]) hx hb d_In_bitCount_9 rfl hl (by decide) rfl (fun ls hl => ?_)
  refine lv_iload_n hx hb d_In_bitCount_10 rfl (lv_at hl 0 rfl) ?_
  refine lv_ldcw (v := 858993459) hx hb hown (hts _ (List.mem_cons_of_mem _ xw_196)) d_In_bitCount_11 ?_
  refine lv_iand hx hb d_In_bitCount_14 ?_
  refine lv_iload_n hx hb d_In_bitCount_15 rfl (lv_at hl 0 rfl) ?_
  refine lv_iconst (v := 2) hx hb d_In_bitCount_16 (by decide) ?_
  refine lv_iushr hx hb d_In_bitCount_17 rfl ?_
  refine lv_ldcw (v := 858993459) hx hb hown (hts _ (List.mem_cons_of_mem _ xw_196)) d_In_bitCount_18 ?_
  refine lv_iand hx hb d_In_bitCount_21 ?_
  refine lv_iadd hx hb d_In_bitCount_22 ?_
  refine lv_topi (fun x_2 ex_2 => ?_)
  have h := h x_2 ex_2
  refine lv_istore_n (lv' := [(0, .int x_2)]) hx hb d_In_bitCount_23 rfl hl (by decide) rfl (fun ls hl => ?_)
  refine lv_iload_n hx hb d_In_bitCount_24 rfl (lv_at hl 0 rfl) ?_
  refine lv_iload_n hx hb d_In_bitCount_25 rfl (lv_at hl 0 rfl) ?_
  refine lv_iconst (v := 4) hx hb d_In_bitCount_26 (by decide) ?_
  refine lv_iushr hx hb d_In_bitCount_27 rfl ?_
  refine lv_iadd hx hb d_In_bitCount_28 ?_
  refine lv_ldcw (v := 252645135) hx hb hown (hts _ (List.mem_cons_of_mem _ xw_197)) d_In_bitCount_29 ?_
  refine lv_iand hx hb d_In_bitCount_32 ?_
  refine lv_topi (fun x_3 ex_3 => ?_)
  have h := h x_3 ex_3
  refine lv_istore_n (lv' := [(0, .int x_3)]) hx hb d_In_bitCount_33 rfl hl (by decide) rfl (fun ls hl => ?_)
  refine lv_iload_n hx hb d_In_bitCount_34 rfl (lv_at hl 0 rfl) ?_
  refine lv_iload_n hx hb d_In_bitCount_35 rfl (lv_at hl 0 rfl) ?_
  refine lv_bipush (v := 8) hx hb d_In_bitCount_36 (by decide) ?_
  refine lv_iushr hx hb d_In_bitCount_38 rfl ?_
  refine lv_iadd hx hb d_In_bitCount_39 ?_
  refine lv_topi (fun x_4 ex_4 => ?_)
  have h := h x_4 ex_4
  refine lv_istore_n (lv' := [(0, .int x_4)]) hx hb d_In_bitCount_40 rfl hl (by decide) rfl (fun ls hl => ?_)
  refine lv_iload_n hx hb d_In_bitCount_41 rfl (lv_at hl 0 rfl) ?_
  refine lv_iload_n hx hb d_In_bitCount_42 rfl (lv_at hl 0 rfl) ?_
  refine lv_bipush (v := 16) hx hb d_In_bitCount_43 (by decide) ?_
  refine lv_iushr hx hb d_In_bitCount_45 rfl ?_
  refine lv_iadd hx hb d_In_bitCount_46 ?_
  refine lv_topi (fun x_5 ex_5 => ?_)
  have h := h x_5 ex_5
  refine lv_istore_n (lv' := [(0, .int x_5)]) hx hb d_In_bitCount_47 rfl hl (by decide) rfl (fun ls hl => ?_)
  refine lv_iload_n hx hb d_In_bitCount_48 rfl (lv_at hl 0 rfl) ?_
  refine lv_bipush (v := 63) hx hb d_In_bitCount_49 (by decide) ?_
  refine lv_iand hx hb d_In_bitCount_51 ?_
  subst hQQ
  exact xm_iret hx hb hr hlk hw () rfl rfl h d_In_bitCount_52
def wp_Pr_isIn (post : Int32 → Prop)  (row : Int32) (y : Int32) : Prop :=
xj (fun (v_1 : Int32) =>
(narrow .boolean (.int v_1) = .int v_1 ∧ post v_1)) (fun (J_2 : Int32 → Prop) =>
((((row >>> ((y + 1) &&& 31)) &&& 1) = 0 →
J_2 0) ∧ (¬ ((row >>> ((y + 1) &&& 31)) &&& 1) = 0 →
J_2 1)))
abbrev rm_Pr_isIn : Room := { frames := 0, cells := 0, slots := 0, locals := 0 }
set_option maxHeartbeats 4000000 in
set_option maxRecDepth 100000 in
theorem c_Pr_isIn {l : Launch} {D : va_G} {ad : Nat → Nat} (CE : Nat → Option va_E) {cI cZ cJ cO : ClassId}    {post : Int32 → Prop} {row : Int32} {y : Int32} (h : wp_Pr_isIn post row y) : ∀ sz, Met l y_Pr_isIn (Cond.code y_Pr_isIn b_Pr_isIn 2 (some .boolean) :: xg) rm_Pr_isIn (xm_Pc D xcl (xT cI cZ cJ cO) ad CE sz [.int row, .int y]) (va_Qi (fun (r : Int32) (_ : Unit) => post r) (xm_B D xcl (xT cI cZ cJ cO) (xm_A ad CE sz) (fun _ => ad) (fun _ : Unit => CE)) (xm_A ad CE sz)) 0 0 (xm_A ad CE sz) := by
  refine xm_ofW (cc := b_Pr_isIn) (maxL := 2) (ret := (some .boolean)) (by decide) rfl (Nat.le_of_ble_eq_true rfl) ?_
  intro p e s m args below meth c ls QQ hQQ hx hb hml hr hown hlk hnm hts hl hw
  have hl : lv_has ls 2 [(0, .int row), (1, .int y)] := hl
  unfold wp_Pr_isIn at h
  refine lv_iload_n hx hb d_Pr_isIn_0 rfl (lv_at hl 0 rfl) ?_
  refine lv_iload_n hx hb d_Pr_isIn_1 rfl (lv_at hl 1 rfl) ?_
  refine lv_iconst (v := 1) hx hb d_Pr_isIn_2 (by decide) ?_
  refine lv_iadd hx hb d_Pr_isIn_3 ?_
  refine lv_ishr hx hb d_Pr_isIn_4 ?_
  refine lv_iconst (v := 1) hx hb d_Pr_isIn_5 (by decide) ?_
  refine lv_iand hx hb d_Pr_isIn_6 ?_
  refine xj_use h (fun (v_1 : Int32) => ∀ (H : Heap) (locs : List Loc) (ls : Array Slot), xm_W D xcl (xT cI cZ cJ cO) (xm_A ad CE s.heap.size) ad CE s s.heap H locs → lv_has ls 2 [] → W p l e rm_Pr_isIn s m args below meth c H locs 0 0 QQ (F0 m 15 ls [.int v_1])) (fun v_1 h H locs ls hw hl => ?_) (fun J_2 hJ_2 h => ?_)
  · subst hQQ
    exact xm_zret hx hb hr hlk h.1 hw () rfl rfl h.2 d_Pr_isIn_15
  · refine lv_if_eq (tgt := 14) hx hb d_Pr_isIn_7 (by decide) (fun hc => ?_) (fun hc => ?_)
    · have h := h.1 hc
      refine lv_iconst (v := 0) hx hb d_Pr_isIn_14 (by decide) ?_
      exact hJ_2 0 h _ _ _ hw (lv_sub hl [] rfl)
    · have h := h.2 hc
      refine lv_iconst (v := 1) hx hb d_Pr_isIn_10 (by decide) ?_
      refine lv_goto (tgt := 15) hx hb d_Pr_isIn_11 (by decide) ?_
      exact hJ_2 1 h _ _ _ hw (lv_sub hl [] rfl)
theorem xw_63 : (Jvm.Cond.fieldLink "QuestionDesk$Pairs" (11 : Nat) "QuestionDesk$Pairs" "rows" "[I") ∈ xg := xg_t (i := 63) (by decide +kernel) (by decide +kernel)
theorem i_Pr : ∀ w ∈ u_ws R_Pr F_Pr 1, w ∈ xg := by decide +kernel
def wp_Pr_row (post : Int32 → Prop)  (f : Nat → Int32) (k : Int32) (x : Int32) : Prop :=
vp_in (((k * 11) + x) + 1) 341 ∧
post (f (Int32.toNatClampNeg (((k * 11) + x) + 1)))
abbrev rm_Pr_row : Room := { frames := 0, cells := 0, slots := 0, locals := 0 }
set_option maxHeartbeats 4000000 in
set_option maxRecDepth 100000 in
theorem c_Pr_row {l : Launch} {D : va_G} {ad : Nat → Nat} (CE : Nat → Option va_E) {cI cZ cJ cO : ClassId} {iP : Nat} {iR : Nat} {f : Nat → Int32} (k_P : CE iP = some (.inr (1, [.ref (ad iR)]))) (k_R : CE iR = some (.inl (cI, 341, .inl f))) {post : Int32 → Prop} {k : Int32} {x : Int32} (h : wp_Pr_row post f k x) : ∀ sz, Met l y_Pr_row (Cond.code y_Pr_row b_Pr_row 3 (some .int) :: xg) rm_Pr_row (xm_Pc D xcl (xT cI cZ cJ cO) ad CE sz [.ref (ad iP), .int k, .int x]) (va_Qi (fun (r : Int32) (_ : Unit) => post r) (xm_B D xcl (xT cI cZ cJ cO) (xm_A ad CE sz) (fun _ => ad) (fun _ : Unit => CE)) (xm_A ad CE sz)) 0 0 (xm_A ad CE sz) := by
  refine xm_ofW (cc := b_Pr_row) (maxL := 3) (ret := (some .int)) (by decide) rfl (Nat.le_of_ble_eq_true rfl) ?_
  intro p e s m args below meth c ls QQ hQQ hx hb hml hr hown hlk hnm hts hl hw
  have hl : lv_has ls 3 [(0, .ref (ad iP)), (1, .int k), (2, .int x)] := hl
  unfold wp_Pr_row at h
  refine lv_aload_n hx hb d_Pr_row_0 rfl (lv_at hl 0 rfl) ?_
  refine xm_get (D := D) (v := .ref (ad iR)) (C := R_Pr) (T := F_Pr) (N := 1) hx hb hts (fun w h => List.mem_cons_of_mem _ (i_Pr w h)) hown hw k_P rfl 0 (by decide) (hts _ (List.mem_cons_of_mem _ xw_63)) (fun _ h9 => h9) rfl d_Pr_row_1 ?_
  refine lv_iload_n hx hb d_Pr_row_4 rfl (lv_at hl 1 rfl) ?_
  refine lv_bipush (v := 11) hx hb d_Pr_row_5 (by decide) ?_
  refine lv_imul hx hb d_Pr_row_7 ?_
  refine lv_iload_n hx hb d_Pr_row_8 rfl (lv_at hl 2 rfl) ?_
  refine lv_iadd hx hb d_Pr_row_9 ?_
  refine lv_iconst (v := 1) hx hb d_Pr_row_10 (by decide) ?_
  refine lv_iadd hx hb d_Pr_row_11 ?_
  obtain ⟨hin, h⟩ := h
  refine xm_iald hx hb hw 0 k_R rfl hin d_Pr_row_12 ?_
  subst hQQ
  exact xm_iret hx hb hr hlk hw () rfl rfl h d_Pr_row_13
theorem xw_180 : (Jvm.Cond.code ({ cls := "QuestionDesk$Pairs", name := "row", desc := "(II)I" } : Jvm.MethodName) prog_3_method_3_code (3 : Nat) (Option.some Jvm.ClassFile.FieldType.int)) ∈ xg := xg_t (i := 180) (by decide +kernel) (by decide +kernel)
theorem xw_5 : (Jvm.Cond.initialized "QuestionDesk$Pairs") ∈ xg := xg_t (i := 5) (by decide +kernel) (by decide +kernel)
theorem xw_177 : (Jvm.Cond.methodLink "QuestionDesk$Pairs" (15 : Nat) ({ cls := "QuestionDesk$Pairs", name := "row", desc := "(II)I" } : Jvm.MethodName)) ∈ xg := xg_t (i := 177) (by decide +kernel) (by decide +kernel)
theorem xw_178 : (Jvm.Cond.instanceMethod ({ cls := "QuestionDesk$Pairs", name := "row", desc := "(II)I" } : Jvm.MethodName)) ∈ xg := xg_t (i := 178) (by decide +kernel) (by decide +kernel)
theorem xw_179 : (Jvm.Cond.selects "QuestionDesk$Pairs" ({ cls := "QuestionDesk$Pairs", name := "row", desc := "(II)I" } : Jvm.MethodName) ({ cls := "QuestionDesk$Pairs", name := "row", desc := "(II)I" } : Jvm.MethodName)) ∈ xg := xg_t (i := 179) (by decide +kernel) (by decide +kernel)
def wp_Pr_rowOfAny (post : Int32 → Prop)  (f : Nat → Int32) (k : Int32) : Prop :=
xL (fun (K_2 : Int32 × Int32 → Prop) (v_1 : Int32 × Int32) =>
((10 ≤ v_1.1 →
post v_1.2) ∧ (¬ 10 ≤ v_1.1 →
wp_Pr_row (fun r_3 =>
∀ x_5 : Int32, x_5 = v_1.2 ||| r_3 →
∀ x_6 : Int32, x_6 = v_1.1 + 1 →
K_2 (x_6, x_5)) f k v_1.1))) (0, 0)
abbrev rm_Pr_rowOfAny : Room := { frames := 1, cells := 0, slots := 0, locals := 22 }
set_option maxHeartbeats 4000000 in
set_option maxRecDepth 100000 in
theorem c_Pr_rowOfAny {l : Launch} {D : va_G} {ad : Nat → Nat} (CE : Nat → Option va_E) {cI cZ cJ cO : ClassId} {iP : Nat} {iR : Nat} {f : Nat → Int32} (k_P : CE iP = some (.inr (1, [.ref (ad iR)]))) (k_R : CE iR = some (.inl (cI, 341, .inl f))) {post : Int32 → Prop} {k : Int32} (h : wp_Pr_rowOfAny post f k) : ∀ sz, Met l y_Pr_rowOfAny (Cond.code y_Pr_rowOfAny b_Pr_rowOfAny 4 (some .int) :: xg) rm_Pr_rowOfAny (xm_Pc D xcl (xT cI cZ cJ cO) ad CE sz [.ref (ad iP), .int k]) (va_Qi (fun (r : Int32) (_ : Unit) => post r) (xm_B D xcl (xT cI cZ cJ cO) (xm_A ad CE sz) (fun _ => ad) (fun _ : Unit => CE)) (xm_A ad CE sz)) 0 0 (xm_A ad CE sz) := by
  refine xm_ofW (cc := b_Pr_rowOfAny) (maxL := 4) (ret := (some .int)) (by decide) rfl (Nat.le_of_ble_eq_true rfl) ?_
  intro p e s m args below meth c ls QQ hQQ hx hb hml hr hown hlk hnm hts hl hw
  have hl : lv_has ls 4 [(0, .ref (ad iP)), (1, .int k)] := hl
  unfold wp_Pr_rowOfAny at h
  refine lv_iconst (v := 0) hx hb d_Pr_rowOfAny_0 (by decide) ?_
  refine lv_istore_n (lv' := [(2, .int 0), (0, .ref (ad iP)), (1, .int k)]) hx hb d_Pr_rowOfAny_1 rfl hl (by decide) rfl (fun ls hl => ?_)
  refine lv_iconst (v := 0) hx hb d_Pr_rowOfAny_2 (by decide) ?_
  refine lv_istore_n (lv' := [(3, .int 0), (2, .int 0), (0, .ref (ad iP)), (1, .int k)]) hx hb d_Pr_rowOfAny_3 rfl hl (by decide) rfl (fun ls hl => ?_)
  refine xL_use h (fun (v_1 : Int32 × Int32) => ∀ (H : Heap) (locs : List Loc) (ls : Array Slot), xm_W D xcl (xT cI cZ cJ cO) (xm_A ad CE s.heap.size) ad CE s s.heap H locs → lv_has ls 4 [(3, .int v_1.1), (2, .int v_1.2), (0, .ref (ad iP)), (1, .int k)] → W p l e rm_Pr_rowOfAny s m args below meth c H locs 0 0 QQ (F0 m 4 ls [])) (fun K_2 hK_2 v_1 h H locs ls hw hl => ?_) _ _ _ hw (lv_sub hl [0, 1, 2, 3] rfl)
  refine lv_iload_n hx hb d_Pr_rowOfAny_4 rfl (lv_at hl 0 rfl) ?_
  refine lv_bipush (v := 10) hx hb d_Pr_rowOfAny_5 (by decide) ?_
  refine lv_icmp_ge (tgt := 25) hx hb d_Pr_rowOfAny_7 (by decide) (fun hc => ?_) (fun hc => ?_)
  · have h := h.1 hc
    refine lv_iload_n hx hb d_Pr_rowOfAny_25 rfl (lv_at hl 1 rfl) ?_
    subst hQQ
    exact xm_iret hx hb hr hlk hw () rfl rfl h d_Pr_rowOfAny_26
  · have h := h.2 hc
    refine lv_iload_n hx hb d_Pr_rowOfAny_10 rfl (lv_at hl 1 rfl) ?_
    refine lv_aload_n hx hb d_Pr_rowOfAny_11 rfl (lv_at hl 2 rfl) ?_
    refine lv_iload_n hx hb d_Pr_rowOfAny_12 rfl (lv_at hl 3 rfl) ?_
    refine lv_iload_n hx hb d_Pr_rowOfAny_13 rfl (lv_at hl 0 rfl) ?_
    refine xm_calli (ua := fun _ => ad) (va_runV (As := [.int k, .int v_1.1]) (rest := [.int v_1.2]) ⟨hx, hb, hml, hown, hts⟩ (c_Pr_row (D := D) (ad := ad) (CE := (CE))  k_P k_R h _) (xg_cwV 2 hts xw_180 xw_177 xw_178 xw_179 xw_5 rfl rfl (by decide +kernel) ⟨Nat.le_of_ble_eq_true rfl, Nat.le_of_ble_eq_true rfl⟩) (xm_preV hw k_P rfl _) rfl rfl hl.1 rfl (lv_room (Nat.le_of_ble_eq_true rfl)) d_Pr_rowOfAny_14 ⟨Nat.le_of_ble_eq_true rfl, Nat.le_of_ble_eq_true rfl⟩) hw (fun r_3 _ H locs h hw => ?_)
    refine lv_ior hx hb d_Pr_rowOfAny_17 ?_
    refine lv_topi (fun x_5 ex_5 => ?_)
    have h := h x_5 ex_5
    refine lv_istore_n (lv' := [(2, .int x_5), (3, .int v_1.1), (0, .ref (ad iP)), (1, .int k)]) hx hb d_Pr_rowOfAny_18 rfl hl (by decide) rfl (fun ls hl => ?_)
    obtain ⟨x_6, ex_6⟩ : ∃ y : Int32, y = v_1.1 + 1 := ⟨_, rfl⟩
    have h := h x_6 ex_6
    refine lv_iinc (v := x_6) (lv' := [(3, .int x_6), (2, .int x_5), (0, .ref (ad iP)), (1, .int k)]) hx hb d_Pr_rowOfAny_19 hl (k := 1) rfl (by rw [ex_6]; rfl) (by decide) rfl (fun ls hl => ?_)
    refine lv_goto (tgt := 4) hx hb d_Pr_rowOfAny_22 (by decide) ?_
    exact hK_2 (x_6, x_5) h _ _ _ hw (lv_sub hl [0, 1, 2, 3] rfl)
theorem xw_183 : (Jvm.Cond.code ({ cls := "QuestionDesk$Pairs", name := "isIn", desc := "(II)Z" } : Jvm.MethodName) prog_3_method_2_code (2 : Nat) (Option.some Jvm.ClassFile.FieldType.boolean)) ∈ xg := xg_t (i := 183) (by decide +kernel) (by decide +kernel)
theorem xw_181 : (Jvm.Cond.methodLink "QuestionDesk$Pairs" (19 : Nat) ({ cls := "QuestionDesk$Pairs", name := "isIn", desc := "(II)Z" } : Jvm.MethodName)) ∈ xg := xg_t (i := 181) (by decide +kernel) (by decide +kernel)
theorem xw_182 : (Jvm.Cond.static ({ cls := "QuestionDesk$Pairs", name := "isIn", desc := "(II)Z" } : Jvm.MethodName)) ∈ xg := xg_t (i := 182) (by decide +kernel) (by decide +kernel)
def wp_Pr_has (post : Int32 → Prop)  (f : Nat → Int32) (k : Int32) (x : Int32) (y : Int32) : Prop :=
wp_Pr_row (fun r_1 =>
wp_Pr_isIn (fun r_3 =>
(narrow .boolean (.int r_3) = .int r_3 ∧ post r_3)) r_1 y) f k x
abbrev rm_Pr_has : Room := { frames := 1, cells := 0, slots := 0, locals := 22 }
set_option maxHeartbeats 4000000 in
set_option maxRecDepth 100000 in
theorem c_Pr_has {l : Launch} {D : va_G} {ad : Nat → Nat} (CE : Nat → Option va_E) {cI cZ cJ cO : ClassId} {iP : Nat} {iR : Nat} {f : Nat → Int32} (k_P : CE iP = some (.inr (1, [.ref (ad iR)]))) (k_R : CE iR = some (.inl (cI, 341, .inl f))) {post : Int32 → Prop} {k : Int32} {x : Int32} {y : Int32} (h : wp_Pr_has post f k x y) : ∀ sz, Met l y_Pr_has (Cond.code y_Pr_has b_Pr_has 4 (some .boolean) :: xg) rm_Pr_has (xm_Pc D xcl (xT cI cZ cJ cO) ad CE sz [.ref (ad iP), .int k, .int x, .int y]) (va_Qi (fun (r : Int32) (_ : Unit) => post r) (xm_B D xcl (xT cI cZ cJ cO) (xm_A ad CE sz) (fun _ => ad) (fun _ : Unit => CE)) (xm_A ad CE sz)) 0 0 (xm_A ad CE sz) := by
  refine xm_ofW (cc := b_Pr_has) (maxL := 4) (ret := (some .boolean)) (by decide) rfl (Nat.le_of_ble_eq_true rfl) ?_
  intro p e s m args below meth c ls QQ hQQ hx hb hml hr hown hlk hnm hts hl hw
  have hl : lv_has ls 4 [(0, .ref (ad iP)), (1, .int k), (2, .int x), (3, .int y)] := hl
  unfold wp_Pr_has at h
  refine lv_aload_n hx hb d_Pr_has_0 rfl (lv_at hl 0 rfl) ?_
  refine lv_iload_n hx hb d_Pr_has_1 rfl (lv_at hl 1 rfl) ?_
  refine lv_iload_n hx hb d_Pr_has_2 rfl (lv_at hl 2 rfl) ?_
  refine xm_calli (ua := fun _ => ad) (va_runV (As := [.int k, .int x]) (rest := []) ⟨hx, hb, hml, hown, hts⟩ (c_Pr_row (D := D) (ad := ad) (CE := (CE))  k_P k_R h _) (xg_cwV 2 hts xw_180 xw_177 xw_178 xw_179 xw_5 rfl rfl (by decide +kernel) ⟨Nat.le_of_ble_eq_true rfl, Nat.le_of_ble_eq_true rfl⟩) (xm_preV hw k_P rfl _) rfl rfl hl.1 rfl (lv_room (Nat.le_of_ble_eq_true rfl)) d_Pr_has_3 ⟨Nat.le_of_ble_eq_true rfl, Nat.le_of_ble_eq_true rfl⟩) hw (fun r_1 _ H locs h hw => ?_)
  refine lv_iload_n hx hb d_Pr_has_6 rfl (lv_at hl 3 rfl) ?_
  refine xm_calli (ua := fun _ => ad) (va_runS (As := [.int r_1, .int y]) (rest := []) ⟨hx, hb, hml, hown, hts⟩ (c_Pr_isIn (D := D) (ad := ad) (CE := (CE))   h _) (xg_cwS 2 hts xw_183 xw_181 xw_182 xw_5 rfl rfl (by decide +kernel) ⟨Nat.le_of_ble_eq_true rfl, Nat.le_of_ble_eq_true rfl⟩) (xm_pre hw _) rfl rfl hl.1 rfl (lv_room (Nat.le_of_ble_eq_true rfl)) d_Pr_has_7 ⟨Nat.le_of_ble_eq_true rfl, Nat.le_of_ble_eq_true rfl⟩) hw (fun r_3 _ H locs h hw => ?_)
  subst hQQ
  exact xm_zret hx hb hr hlk h.1 hw () rfl rfl h.2 d_Pr_has_10
def wp_Pr_put (post : Int32 → (Nat → Int32) → Prop)  (f : Nat → Int32) (k : Int32) (x : Int32) (y : Int32) : Prop :=
∀ x_1 : Int32, x_1 = ((k * 11) + x) + 1 →
vp_in x_1 341 ∧
∀ x_2 : Int32, x_2 = f (Int32.toNatClampNeg x_1) →
vp_in x_1 341 ∧
∀ f_3 : Nat → Int32, f_3 = upd f (Int32.toNatClampNeg x_1) (x_2 ||| (1 <<< ((y + 1) &&& 31))) →
vp_in x_1 341 ∧
xj (fun (v_4 : Int32) =>
(narrow .boolean (.int v_4) = .int v_4 ∧ post v_4 f_3)) (fun (J_5 : Int32 → Prop) =>
(((f_3 (Int32.toNatClampNeg x_1)) = x_2 →
J_5 0) ∧ (¬ (f_3 (Int32.toNatClampNeg x_1)) = x_2 →
J_5 1)))
abbrev rm_Pr_put : Room := { frames := 0, cells := 0, slots := 0, locals := 0 }
set_option maxHeartbeats 4000000 in
set_option maxRecDepth 100000 in
theorem c_Pr_put {l : Launch} {D : va_G} {ad : Nat → Nat} (CE : (Nat → Int32) → Nat → Option va_E) {cI cZ cJ cO : ClassId} {iP : Nat} {iR : Nat}  (k_P : ∀ (f : Nat → Int32), (CE f) iP = some (.inr (1, [.ref (ad iR)]))) (k_R : ∀ (f : Nat → Int32), (CE f) iR = some (.inl (cI, 341, .inl f))) (u_R : ∀ (f : Nat → Int32) (f' : Nat → Int32), va_up (CE f) iR (some (.inl (cI, 341, .inl f'))) = (CE f')) {post : Int32 → (Nat → Int32) → Prop} {f : Nat → Int32} {k : Int32} {x : Int32} {y : Int32} (h : wp_Pr_put post f k x y) : ∀ sz, Met l y_Pr_put (Cond.code y_Pr_put b_Pr_put 6 (some .boolean) :: xg) rm_Pr_put (xm_Pc D xcl (xT cI cZ cJ cO) ad (CE f) sz [.ref (ad iP), .int k, .int x, .int y]) (va_Qi (fun (r : Int32) (u : (Nat → Int32)) => post r u) (xm_B D xcl (xT cI cZ cJ cO) (xm_A ad (CE f) sz) (fun _ => ad) (fun u : (Nat → Int32) => CE u)) (xm_A ad (CE f) sz)) 0 0 (xm_A ad (CE f) sz) := by
  refine xm_ofW (cc := b_Pr_put) (maxL := 6) (ret := (some .boolean)) (by decide) rfl (Nat.le_of_ble_eq_true rfl) ?_
  intro p e s m args below meth c ls QQ hQQ hx hb hml hr hown hlk hnm hts hl hw
  have hl : lv_has ls 6 [(0, .ref (ad iP)), (1, .int k), (2, .int x), (3, .int y)] := hl
  unfold wp_Pr_put at h
  refine lv_iload_n hx hb d_Pr_put_0 rfl (lv_at hl 1 rfl) ?_
  refine lv_bipush (v := 11) hx hb d_Pr_put_1 (by decide) ?_
  refine lv_imul hx hb d_Pr_put_3 ?_
  refine lv_iload_n hx hb d_Pr_put_4 rfl (lv_at hl 2 rfl) ?_
  refine lv_iadd hx hb d_Pr_put_5 ?_
  refine lv_iconst (v := 1) hx hb d_Pr_put_6 (by decide) ?_
  refine lv_iadd hx hb d_Pr_put_7 ?_
  refine lv_topi (fun x_1 ex_1 => ?_)
  have h := h x_1 ex_1
  refine lv_istore (lv' := [(4, .int x_1), (0, .ref (ad iP)), (1, .int k), (2, .int x), (3, .int y)]) hx hb d_Pr_put_8 hl (by decide) rfl (fun ls hl => ?_)
  refine lv_aload_n hx hb d_Pr_put_10 rfl (lv_at hl 1 rfl) ?_
  refine xm_get (D := D) (v := .ref (ad iR)) (C := R_Pr) (T := F_Pr) (N := 1) hx hb hts (fun w h => List.mem_cons_of_mem _ (i_Pr w h)) hown hw (k_P f) rfl 0 (by decide) (hts _ (List.mem_cons_of_mem _ xw_63)) (fun _ h9 => h9) rfl d_Pr_put_11 ?_
  refine lv_iload hx hb d_Pr_put_14 (lv_at hl 0 rfl) ?_
  obtain ⟨hin, h⟩ := h
  refine xm_iald hx hb hw 0 (k_R f) rfl hin d_Pr_put_16 ?_
  refine lv_topi (fun x_2 ex_2 => ?_)
  have h := h x_2 ex_2
  refine lv_istore (lv' := [(5, .int x_2), (4, .int x_1), (0, .ref (ad iP)), (1, .int k), (2, .int x), (3, .int y)]) hx hb d_Pr_put_17 hl (by decide) rfl (fun ls hl => ?_)
  refine lv_aload_n hx hb d_Pr_put_19 rfl (lv_at hl 2 rfl) ?_
  refine xm_get (D := D) (v := .ref (ad iR)) (C := R_Pr) (T := F_Pr) (N := 1) hx hb hts (fun w h => List.mem_cons_of_mem _ (i_Pr w h)) hown hw (k_P f) rfl 0 (by decide) (hts _ (List.mem_cons_of_mem _ xw_63)) (fun _ h9 => h9) rfl d_Pr_put_20 ?_
  refine lv_iload hx hb d_Pr_put_23 (lv_at hl 1 rfl) ?_
  refine lv_iload hx hb d_Pr_put_25 (lv_at hl 0 rfl) ?_
  refine lv_iconst (v := 1) hx hb d_Pr_put_27 (by decide) ?_
  refine lv_iload_n hx hb d_Pr_put_28 rfl (lv_at hl 5 rfl) ?_
  refine lv_iconst (v := 1) hx hb d_Pr_put_29 (by decide) ?_
  refine lv_iadd hx hb d_Pr_put_30 ?_
  refine lv_ishl hx hb d_Pr_put_31 ?_
  refine lv_ior hx hb d_Pr_put_32 ?_
  obtain ⟨hin, h⟩ := h
  refine xm_iast hx hb hw 0 (k_R f) rfl hin d_Pr_put_33 (fun H locs hw => ?_)
  have hw : xm_W D xcl (xT cI cZ cJ cO) (xm_A ad (CE f) s.heap.size) ad (CE (upd f (Int32.toNatClampNeg x_1) (x_2 ||| (1 <<< ((y + 1) &&& 31))))) s s.heap H locs := xm_W.cast (u_R f (upd f (Int32.toNatClampNeg x_1) (x_2 ||| (1 <<< ((y + 1) &&& 31))))) hw
  obtain ⟨f_3, ef_3⟩ : ∃ z : Nat → Int32, z = upd f (Int32.toNatClampNeg x_1) (x_2 ||| (1 <<< ((y + 1) &&& 31))) := ⟨_, rfl⟩
  have h := h f_3 ef_3
  rw [← ef_3] at hw
  refine lv_aload_n hx hb d_Pr_put_34 rfl (lv_at hl 2 rfl) ?_
  refine xm_get (D := D) (v := .ref (ad iR)) (C := R_Pr) (T := F_Pr) (N := 1) hx hb hts (fun w h => List.mem_cons_of_mem _ (i_Pr w h)) hown hw (k_P f_3) rfl 0 (by decide) (hts _ (List.mem_cons_of_mem _ xw_63)) (fun _ h9 => h9) rfl d_Pr_put_35 ?_
  refine lv_iload hx hb d_Pr_put_38 (lv_at hl 1 rfl) ?_
  obtain ⟨hin, h⟩ := h
  refine xm_iald hx hb hw 0 (k_R f_3) rfl hin d_Pr_put_40 ?_
  refine lv_iload hx hb d_Pr_put_41 (lv_at hl 0 rfl) ?_
  refine xj_use h (fun (v_4 : Int32) => ∀ (H : Heap) (locs : List Loc) (ls : Array Slot), xm_W D xcl (xT cI cZ cJ cO) (xm_A ad (CE f) s.heap.size) ad (CE f_3) s s.heap H locs → lv_has ls 6 [] → W p l e rm_Pr_put s m args below meth c H locs 0 0 QQ (F0 m 51 ls [.int v_4])) (fun v_4 h H locs ls hw hl => ?_) (fun J_5 hJ_5 h => ?_)
  · subst hQQ
    exact xm_zret hx hb hr hlk h.1 hw (f_3) rfl rfl h.2 d_Pr_put_51
  · refine lv_icmp_eq (tgt := 50) hx hb d_Pr_put_43 (by decide) (fun hc => ?_) (fun hc => ?_)
    · have h := h.1 hc
      refine lv_iconst (v := 0) hx hb d_Pr_put_50 (by decide) ?_
      exact hJ_5 0 h _ _ _ hw (lv_sub hl [] rfl)
    · have h := h.2 hc
      refine lv_iconst (v := 1) hx hb d_Pr_put_46 (by decide) ?_
      refine lv_goto (tgt := 51) hx hb d_Pr_put_47 (by decide) ?_
      exact hJ_5 1 h _ _ _ hw (lv_sub hl [] rfl)
def wp_Pr_remove (post : Int32 → (Nat → Int32) → Prop)  (f : Nat → Int32) (k : Int32) (x : Int32) (y : Int32) : Prop :=
∀ x_1 : Int32, x_1 = ((k * 11) + x) + 1 →
vp_in x_1 341 ∧
∀ x_2 : Int32, x_2 = f (Int32.toNatClampNeg x_1) →
vp_in x_1 341 ∧
∀ f_3 : Nat → Int32, f_3 = upd f (Int32.toNatClampNeg x_1) (x_2 &&& ((1 <<< ((y + 1) &&& 31)) ^^^ (-1))) →
vp_in x_1 341 ∧
xj (fun (v_4 : Int32) =>
(narrow .boolean (.int v_4) = .int v_4 ∧ post v_4 f_3)) (fun (J_5 : Int32 → Prop) =>
(((f_3 (Int32.toNatClampNeg x_1)) = x_2 →
J_5 0) ∧ (¬ (f_3 (Int32.toNatClampNeg x_1)) = x_2 →
J_5 1)))
abbrev rm_Pr_remove : Room := { frames := 0, cells := 0, slots := 0, locals := 0 }
set_option maxHeartbeats 4000000 in
set_option maxRecDepth 100000 in
theorem c_Pr_remove {l : Launch} {D : va_G} {ad : Nat → Nat} (CE : (Nat → Int32) → Nat → Option va_E) {cI cZ cJ cO : ClassId} {iP : Nat} {iR : Nat}  (k_P : ∀ (f : Nat → Int32), (CE f) iP = some (.inr (1, [.ref (ad iR)]))) (k_R : ∀ (f : Nat → Int32), (CE f) iR = some (.inl (cI, 341, .inl f))) (u_R : ∀ (f : Nat → Int32) (f' : Nat → Int32), va_up (CE f) iR (some (.inl (cI, 341, .inl f'))) = (CE f')) {post : Int32 → (Nat → Int32) → Prop} {f : Nat → Int32} {k : Int32} {x : Int32} {y : Int32} (h : wp_Pr_remove post f k x y) : ∀ sz, Met l y_Pr_remove (Cond.code y_Pr_remove b_Pr_remove 6 (some .boolean) :: xg) rm_Pr_remove (xm_Pc D xcl (xT cI cZ cJ cO) ad (CE f) sz [.ref (ad iP), .int k, .int x, .int y]) (va_Qi (fun (r : Int32) (u : (Nat → Int32)) => post r u) (xm_B D xcl (xT cI cZ cJ cO) (xm_A ad (CE f) sz) (fun _ => ad) (fun u : (Nat → Int32) => CE u)) (xm_A ad (CE f) sz)) 0 0 (xm_A ad (CE f) sz) := by
  refine xm_ofW (cc := b_Pr_remove) (maxL := 6) (ret := (some .boolean)) (by decide) rfl (Nat.le_of_ble_eq_true rfl) ?_
  intro p e s m args below meth c ls QQ hQQ hx hb hml hr hown hlk hnm hts hl hw
  have hl : lv_has ls 6 [(0, .ref (ad iP)), (1, .int k), (2, .int x), (3, .int y)] := hl
  unfold wp_Pr_remove at h
  refine lv_iload_n hx hb d_Pr_remove_0 rfl (lv_at hl 1 rfl) ?_
  refine lv_bipush (v := 11) hx hb d_Pr_remove_1 (by decide) ?_
  refine lv_imul hx hb d_Pr_remove_3 ?_
  refine lv_iload_n hx hb d_Pr_remove_4 rfl (lv_at hl 2 rfl) ?_
  refine lv_iadd hx hb d_Pr_remove_5 ?_
  refine lv_iconst (v := 1) hx hb d_Pr_remove_6 (by decide) ?_
  refine lv_iadd hx hb d_Pr_remove_7 ?_
  refine lv_topi (fun x_1 ex_1 => ?_)
  have h := h x_1 ex_1
  refine lv_istore (lv' := [(4, .int x_1), (0, .ref (ad iP)), (1, .int k), (2, .int x), (3, .int y)]) hx hb d_Pr_remove_8 hl (by decide) rfl (fun ls hl => ?_)
  refine lv_aload_n hx hb d_Pr_remove_10 rfl (lv_at hl 1 rfl) ?_
  refine xm_get (D := D) (v := .ref (ad iR)) (C := R_Pr) (T := F_Pr) (N := 1) hx hb hts (fun w h => List.mem_cons_of_mem _ (i_Pr w h)) hown hw (k_P f) rfl 0 (by decide) (hts _ (List.mem_cons_of_mem _ xw_63)) (fun _ h9 => h9) rfl d_Pr_remove_11 ?_
  refine lv_iload hx hb d_Pr_remove_14 (lv_at hl 0 rfl) ?_
  obtain ⟨hin, h⟩ := h
  refine xm_iald hx hb hw 0 (k_R f) rfl hin d_Pr_remove_16 ?_
  refine lv_topi (fun x_2 ex_2 => ?_)
  have h := h x_2 ex_2
  refine lv_istore (lv' := [(5, .int x_2), (4, .int x_1), (0, .ref (ad iP)), (1, .int k), (2, .int x), (3, .int y)]) hx hb d_Pr_remove_17 hl (by decide) rfl (fun ls hl => ?_)
  refine lv_aload_n hx hb d_Pr_remove_19 rfl (lv_at hl 2 rfl) ?_
  refine xm_get (D := D) (v := .ref (ad iR)) (C := R_Pr) (T := F_Pr) (N := 1) hx hb hts (fun w h => List.mem_cons_of_mem _ (i_Pr w h)) hown hw (k_P f) rfl 0 (by decide) (hts _ (List.mem_cons_of_mem _ xw_63)) (fun _ h9 => h9) rfl d_Pr_remove_20 ?_
  refine lv_iload hx hb d_Pr_remove_23 (lv_at hl 1 rfl) ?_
  refine lv_iload hx hb d_Pr_remove_25 (lv_at hl 0 rfl) ?_
  refine lv_iconst (v := 1) hx hb d_Pr_remove_27 (by decide) ?_
  refine lv_iload_n hx hb d_Pr_remove_28 rfl (lv_at hl 5 rfl) ?_
  refine lv_iconst (v := 1) hx hb d_Pr_remove_29 (by decide) ?_
  refine lv_iadd hx hb d_Pr_remove_30 ?_
  refine lv_ishl hx hb d_Pr_remove_31 ?_
  refine lv_iconst (v := (-1)) hx hb d_Pr_remove_32 (by decide) ?_
  refine lv_ixor hx hb d_Pr_remove_33 ?_
  refine lv_iand hx hb d_Pr_remove_34 ?_
  obtain ⟨hin, h⟩ := h
  refine xm_iast hx hb hw 0 (k_R f) rfl hin d_Pr_remove_35 (fun H locs hw => ?_)
  have hw : xm_W D xcl (xT cI cZ cJ cO) (xm_A ad (CE f) s.heap.size) ad (CE (upd f (Int32.toNatClampNeg x_1) (x_2 &&& ((1 <<< ((y + 1) &&& 31)) ^^^ (-1))))) s s.heap H locs := xm_W.cast (u_R f (upd f (Int32.toNatClampNeg x_1) (x_2 &&& ((1 <<< ((y + 1) &&& 31)) ^^^ (-1))))) hw
  obtain ⟨f_3, ef_3⟩ : ∃ z : Nat → Int32, z = upd f (Int32.toNatClampNeg x_1) (x_2 &&& ((1 <<< ((y + 1) &&& 31)) ^^^ (-1))) := ⟨_, rfl⟩
  have h := h f_3 ef_3
  rw [← ef_3] at hw
  refine lv_aload_n hx hb d_Pr_remove_36 rfl (lv_at hl 2 rfl) ?_
  refine xm_get (D := D) (v := .ref (ad iR)) (C := R_Pr) (T := F_Pr) (N := 1) hx hb hts (fun w h => List.mem_cons_of_mem _ (i_Pr w h)) hown hw (k_P f_3) rfl 0 (by decide) (hts _ (List.mem_cons_of_mem _ xw_63)) (fun _ h9 => h9) rfl d_Pr_remove_37 ?_
  refine lv_iload hx hb d_Pr_remove_40 (lv_at hl 1 rfl) ?_
  obtain ⟨hin, h⟩ := h
  refine xm_iald hx hb hw 0 (k_R f_3) rfl hin d_Pr_remove_42 ?_
  refine lv_iload hx hb d_Pr_remove_43 (lv_at hl 0 rfl) ?_
  refine xj_use h (fun (v_4 : Int32) => ∀ (H : Heap) (locs : List Loc) (ls : Array Slot), xm_W D xcl (xT cI cZ cJ cO) (xm_A ad (CE f) s.heap.size) ad (CE f_3) s s.heap H locs → lv_has ls 6 [] → W p l e rm_Pr_remove s m args below meth c H locs 0 0 QQ (F0 m 53 ls [.int v_4])) (fun v_4 h H locs ls hw hl => ?_) (fun J_5 hJ_5 h => ?_)
  · subst hQQ
    exact xm_zret hx hb hr hlk h.1 hw (f_3) rfl rfl h.2 d_Pr_remove_53
  · refine lv_icmp_eq (tgt := 52) hx hb d_Pr_remove_45 (by decide) (fun hc => ?_) (fun hc => ?_)
    · have h := h.1 hc
      refine lv_iconst (v := 0) hx hb d_Pr_remove_52 (by decide) ?_
      exact hJ_5 0 h _ _ _ hw (lv_sub hl [] rfl)
    · have h := h.2 hc
      refine lv_iconst (v := 1) hx hb d_Pr_remove_48 (by decide) ?_
      refine lv_goto (tgt := 53) hx hb d_Pr_remove_49 (by decide) ?_
      exact hJ_5 1 h _ _ _ hw (lv_sub hl [] rfl)
theorem xw_194 : (Jvm.Cond.code ({ cls := "java/lang/Integer", name := "bitCount", desc := "(I)I" } : Jvm.MethodName) prog_12_method_49_code (1 : Nat) (Option.some Jvm.ClassFile.FieldType.int)) ∈ xg := xg_t (i := 194) (by decide +kernel) (by decide +kernel)
theorem xw_20 : (Jvm.Cond.initialized "java/lang/Integer") ∈ xg := xg_t (i := 20) (by decide +kernel) (by decide +kernel)
theorem xw_192 : (Jvm.Cond.methodLink "QuestionDesk$Pairs" (23 : Nat) ({ cls := "java/lang/Integer", name := "bitCount", desc := "(I)I" } : Jvm.MethodName)) ∈ xg := xg_t (i := 192) (by decide +kernel) (by decide +kernel)
theorem xw_193 : (Jvm.Cond.static ({ cls := "java/lang/Integer", name := "bitCount", desc := "(I)I" } : Jvm.MethodName)) ∈ xg := xg_t (i := 193) (by decide +kernel) (by decide +kernel)
def wp_Pr_size (post : Int32 → Prop)  (f : Nat → Int32) (k : Int32) : Prop :=
xL (fun (K_2 : Int32 × Int32 → Prop) (v_1 : Int32 × Int32) =>
((10 ≤ v_1.1 →
post v_1.2) ∧ (¬ 10 ≤ v_1.1 →
wp_Pr_row (fun r_3 =>
wp_In_bitCount (fun r_5 =>
∀ x_7 : Int32, x_7 = v_1.2 + r_5 →
∀ x_8 : Int32, x_8 = v_1.1 + 1 →
K_2 (x_8, x_7)) r_3) f k v_1.1))) ((-1), 0)
abbrev rm_Pr_size : Room := { frames := 1, cells := 0, slots := 0, locals := 22 }
set_option maxHeartbeats 4000000 in
set_option maxRecDepth 100000 in
theorem c_Pr_size {l : Launch} {D : va_G} {ad : Nat → Nat} (CE : Nat → Option va_E) {cI cZ cJ cO : ClassId} {iP : Nat} {iR : Nat} {f : Nat → Int32} (k_P : CE iP = some (.inr (1, [.ref (ad iR)]))) (k_R : CE iR = some (.inl (cI, 341, .inl f))) {post : Int32 → Prop} {k : Int32} (h : wp_Pr_size post f k) : ∀ sz, Met l y_Pr_size (Cond.code y_Pr_size b_Pr_size 4 (some .int) :: xg) rm_Pr_size (xm_Pc D xcl (xT cI cZ cJ cO) ad CE sz [.ref (ad iP), .int k]) (va_Qi (fun (r : Int32) (_ : Unit) => post r) (xm_B D xcl (xT cI cZ cJ cO) (xm_A ad CE sz) (fun _ => ad) (fun _ : Unit => CE)) (xm_A ad CE sz)) 0 0 (xm_A ad CE sz) := by
  refine xm_ofW (cc := b_Pr_size) (maxL := 4) (ret := (some .int)) (by decide) rfl (Nat.le_of_ble_eq_true rfl) ?_
  intro p e s m args below meth c ls QQ hQQ hx hb hml hr hown hlk hnm hts hl hw
  have hl : lv_has ls 4 [(0, .ref (ad iP)), (1, .int k)] := hl
  unfold wp_Pr_size at h
  refine lv_iconst (v := 0) hx hb d_Pr_size_0 (by decide) ?_
  refine lv_istore_n (lv' := [(2, .int 0), (0, .ref (ad iP)), (1, .int k)]) hx hb d_Pr_size_1 rfl hl (by decide) rfl (fun ls hl => ?_)
  refine lv_iconst (v := (-1)) hx hb d_Pr_size_2 (by decide) ?_
  refine lv_istore_n (lv' := [(3, .int (-1)), (2, .int 0), (0, .ref (ad iP)), (1, .int k)]) hx hb d_Pr_size_3 rfl hl (by decide) rfl (fun ls hl => ?_)
  refine xL_use h (fun (v_1 : Int32 × Int32) => ∀ (H : Heap) (locs : List Loc) (ls : Array Slot), xm_W D xcl (xT cI cZ cJ cO) (xm_A ad CE s.heap.size) ad CE s s.heap H locs → lv_has ls 4 [(3, .int v_1.1), (2, .int v_1.2), (0, .ref (ad iP)), (1, .int k)] → W p l e rm_Pr_size s m args below meth c H locs 0 0 QQ (F0 m 4 ls [])) (fun K_2 hK_2 v_1 h H locs ls hw hl => ?_) _ _ _ hw (lv_sub hl [0, 1, 2, 3] rfl)
  refine lv_iload_n hx hb d_Pr_size_4 rfl (lv_at hl 0 rfl) ?_
  refine lv_bipush (v := 10) hx hb d_Pr_size_5 (by decide) ?_
  refine lv_icmp_ge (tgt := 28) hx hb d_Pr_size_7 (by decide) (fun hc => ?_) (fun hc => ?_)
  · have h := h.1 hc
    refine lv_iload_n hx hb d_Pr_size_28 rfl (lv_at hl 1 rfl) ?_
    subst hQQ
    exact xm_iret hx hb hr hlk hw () rfl rfl h d_Pr_size_29
  · have h := h.2 hc
    refine lv_iload_n hx hb d_Pr_size_10 rfl (lv_at hl 1 rfl) ?_
    refine lv_aload_n hx hb d_Pr_size_11 rfl (lv_at hl 2 rfl) ?_
    refine lv_iload_n hx hb d_Pr_size_12 rfl (lv_at hl 3 rfl) ?_
    refine lv_iload_n hx hb d_Pr_size_13 rfl (lv_at hl 0 rfl) ?_
    refine xm_calli (ua := fun _ => ad) (va_runV (As := [.int k, .int v_1.1]) (rest := [.int v_1.2]) ⟨hx, hb, hml, hown, hts⟩ (c_Pr_row (D := D) (ad := ad) (CE := (CE))  k_P k_R h _) (xg_cwV 2 hts xw_180 xw_177 xw_178 xw_179 xw_5 rfl rfl (by decide +kernel) ⟨Nat.le_of_ble_eq_true rfl, Nat.le_of_ble_eq_true rfl⟩) (xm_preV hw k_P rfl _) rfl rfl hl.1 rfl (lv_room (Nat.le_of_ble_eq_true rfl)) d_Pr_size_14 ⟨Nat.le_of_ble_eq_true rfl, Nat.le_of_ble_eq_true rfl⟩) hw (fun r_3 _ H locs h hw => ?_)
    refine xm_calli (ua := fun _ => ad) (va_runS (As := [.int r_3]) (rest := [.int v_1.2]) ⟨hx, hb, hml, hown, hts⟩ (c_In_bitCount (D := D) (ad := ad) (CE := (CE))   h _) (xg_cwS 1 hts xw_194 xw_192 xw_193 xw_20 rfl rfl (by decide +kernel) ⟨Nat.le_of_ble_eq_true rfl, Nat.le_of_ble_eq_true rfl⟩) (xm_pre hw _) rfl rfl hl.1 rfl (lv_room (Nat.le_of_ble_eq_true rfl)) d_Pr_size_17 ⟨Nat.le_of_ble_eq_true rfl, Nat.le_of_ble_eq_true rfl⟩) hw (fun r_5 _ H locs h hw => ?_)
    refine lv_iadd hx hb d_Pr_size_20 ?_
    refine lv_topi (fun x_7 ex_7 => ?_)
    have h := h x_7 ex_7
    refine lv_istore_n (lv' := [(2, .int x_7), (3, .int v_1.1), (0, .ref (ad iP)), (1, .int k)]) hx hb d_Pr_size_21 rfl hl (by decide) rfl (fun ls hl => ?_)
    obtain ⟨x_8, ex_8⟩ : ∃ y : Int32, y = v_1.1 + 1 := ⟨_, rfl⟩
    have h := h x_8 ex_8
    refine lv_iinc (v := x_8) (lv' := [(3, .int x_8), (2, .int x_7), (0, .ref (ad iP)), (1, .int k)]) hx hb d_Pr_size_22 hl (k := 1) rfl (by rw [ex_8]; rfl) (by decide) rfl (fun ls hl => ?_)
    refine lv_goto (tgt := 4) hx hb d_Pr_size_25 (by decide) ?_
    exact hK_2 (x_8, x_7) h _ _ _ hw (lv_sub hl [0, 1, 2, 3] rfl)
def wp_Pr_startQuestion (post : (Nat → Int32) → Prop)  (f : Nat → Int32) : Prop :=
xL (fun (K_2 : Int32 × (Nat → Int32) → Prop) (v_1 : Int32 × (Nat → Int32)) =>
((110 ≤ v_1.1 →
xL (fun (K_4 : Int32 × (Nat → Int32) → Prop) (v_3 : Int32 × (Nat → Int32)) =>
((11 ≤ v_3.1 →
post v_3.2) ∧ (¬ 11 ≤ v_3.1 →
vp_in (330 + v_3.1) 341 ∧
∀ f_5 : Nat → Int32, f_5 = upd v_3.2 (Int32.toNatClampNeg (330 + v_3.1)) 0 →
∀ x_6 : Int32, x_6 = v_3.1 + 1 →
K_4 (x_6, f_5)))) (0, v_1.2)) ∧ (¬ 110 ≤ v_1.1 →
vp_in (220 + v_1.1) 341 ∧
vp_in (0 + v_1.1) 341 ∧
∀ f_7 : Nat → Int32, f_7 = upd v_1.2 (Int32.toNatClampNeg (0 + v_1.1)) (v_1.2 (Int32.toNatClampNeg (220 + v_1.1))) →
vp_in (110 + v_1.1) 341 ∧
∀ f_8 : Nat → Int32, f_8 = upd f_7 (Int32.toNatClampNeg (110 + v_1.1)) 0 →
∀ x_9 : Int32, x_9 = v_1.1 + 1 →
K_2 (x_9, f_8)))) (0, f)
abbrev rm_Pr_startQuestion : Room := { frames := 0, cells := 0, slots := 0, locals := 0 }
set_option maxHeartbeats 4000000 in
set_option maxRecDepth 100000 in
theorem c_Pr_startQuestion {l : Launch} {D : va_G} {ad : Nat → Nat} (CE : (Nat → Int32) → Nat → Option va_E) {cI cZ cJ cO : ClassId} {iP : Nat} {iR : Nat}  (k_P : ∀ (f : Nat → Int32), (CE f) iP = some (.inr (1, [.ref (ad iR)]))) (k_R : ∀ (f : Nat → Int32), (CE f) iR = some (.inl (cI, 341, .inl f))) (u_R : ∀ (f : Nat → Int32) (f' : Nat → Int32), va_up (CE f) iR (some (.inl (cI, 341, .inl f'))) = (CE f')) {post : (Nat → Int32) → Prop} {f : Nat → Int32} (h : wp_Pr_startQuestion post f) : ∀ sz, Met l y_Pr_startQuestion (Cond.code y_Pr_startQuestion b_Pr_startQuestion 2 none :: xg) rm_Pr_startQuestion (xm_Pc D xcl (xT cI cZ cJ cO) ad (CE f) sz [.ref (ad iP)]) (va_Qv (fun u : (Nat → Int32) => post u) (xm_B D xcl (xT cI cZ cJ cO) (xm_A ad (CE f) sz) (fun _ => ad) (fun u : (Nat → Int32) => CE u)) (xm_A ad (CE f) sz)) 0 0 (xm_A ad (CE f) sz) := by
  refine xm_ofW (cc := b_Pr_startQuestion) (maxL := 2) (ret := none) (by decide) rfl (Nat.le_of_ble_eq_true rfl) ?_
  intro p e s m args below meth c ls QQ hQQ hx hb hml hr hown hlk hnm hts hl hw
  have hl : lv_has ls 2 [(0, .ref (ad iP))] := hl
  unfold wp_Pr_startQuestion at h
  refine lv_iconst (v := 0) hx hb d_Pr_startQuestion_0 (by decide) ?_
  refine lv_istore_n (lv' := [(1, .int 0), (0, .ref (ad iP))]) hx hb d_Pr_startQuestion_1 rfl hl (by decide) rfl (fun ls hl => ?_)
  refine xL_use h (fun (v_1 : Int32 × (Nat → Int32)) => ∀ (H : Heap) (locs : List Loc) (ls : Array Slot), xm_W D xcl (xT cI cZ cJ cO) (xm_A ad (CE f) s.heap.size) ad (CE v_1.2) s s.heap H locs → lv_has ls 2 [(1, .int v_1.1), (0, .ref (ad iP))] → W p l e rm_Pr_startQuestion s m args below meth c H locs 0 0 QQ (F0 m 2 ls [])) (fun K_2 hK_2 v_1 h H locs ls hw hl => ?_) _ _ _ hw (lv_sub hl [0, 1] rfl)
  refine lv_iload_n hx hb d_Pr_startQuestion_2 rfl (lv_at hl 0 rfl) ?_
  refine lv_bipush (v := 110) hx hb d_Pr_startQuestion_3 (by decide) ?_
  refine lv_icmp_ge (tgt := 42) hx hb d_Pr_startQuestion_5 (by decide) (fun hc => ?_) (fun hc => ?_)
  · have h := h.1 hc
    refine lv_iconst (v := 0) hx hb d_Pr_startQuestion_42 (by decide) ?_
    refine lv_istore_n (lv' := [(1, .int 0), (0, .ref (ad iP))]) hx hb d_Pr_startQuestion_43 rfl hl (by decide) rfl (fun ls hl => ?_)
    refine xL_use h (fun (v_3 : Int32 × (Nat → Int32)) => ∀ (H : Heap) (locs : List Loc) (ls : Array Slot), xm_W D xcl (xT cI cZ cJ cO) (xm_A ad (CE f) s.heap.size) ad (CE v_3.2) s s.heap H locs → lv_has ls 2 [(1, .int v_3.1), (0, .ref (ad iP))] → W p l e rm_Pr_startQuestion s m args below meth c H locs 0 0 QQ (F0 m 44 ls [])) (fun K_4 hK_4 v_3 h H locs ls hw hl => ?_) _ _ _ hw (lv_sub hl [0, 1] rfl)
    refine lv_iload_n hx hb d_Pr_startQuestion_44 rfl (lv_at hl 0 rfl) ?_
    refine lv_bipush (v := 11) hx hb d_Pr_startQuestion_45 (by decide) ?_
    refine lv_icmp_ge (tgt := 67) hx hb d_Pr_startQuestion_47 (by decide) (fun hc => ?_) (fun hc => ?_)
    · have h := h.1 hc
      subst hQQ
      exact xm_vret hx hb hr hlk hw (v_3.2) rfl rfl h d_Pr_startQuestion_67
    · have h := h.2 hc
      refine lv_aload_n hx hb d_Pr_startQuestion_50 rfl (lv_at hl 1 rfl) ?_
      refine xm_get (D := D) (v := .ref (ad iR)) (C := R_Pr) (T := F_Pr) (N := 1) hx hb hts (fun w h => List.mem_cons_of_mem _ (i_Pr w h)) hown hw (k_P v_3.2) rfl 0 (by decide) (hts _ (List.mem_cons_of_mem _ xw_63)) (fun _ h9 => h9) rfl d_Pr_startQuestion_51 ?_
      refine lv_sipush (v := 330) hx hb d_Pr_startQuestion_54 (by decide) ?_
      refine lv_iload_n hx hb d_Pr_startQuestion_57 rfl (lv_at hl 0 rfl) ?_
      refine lv_iadd hx hb d_Pr_startQuestion_58 ?_
      refine lv_iconst (v := 0) hx hb d_Pr_startQuestion_59 (by decide) ?_
      obtain ⟨hin, h⟩ := h
      refine xm_iast hx hb hw 0 (k_R v_3.2) rfl hin d_Pr_startQuestion_60 (fun H locs hw => ?_)
      have hw : xm_W D xcl (xT cI cZ cJ cO) (xm_A ad (CE f) s.heap.size) ad (CE (upd v_3.2 (Int32.toNatClampNeg (330 + v_3.1)) 0)) s s.heap H locs := xm_W.cast (u_R v_3.2 (upd v_3.2 (Int32.toNatClampNeg (330 + v_3.1)) 0)) hw
      obtain ⟨f_5, ef_5⟩ : ∃ z : Nat → Int32, z = upd v_3.2 (Int32.toNatClampNeg (330 + v_3.1)) 0 := ⟨_, rfl⟩
      have h := h f_5 ef_5
      rw [← ef_5] at hw
      obtain ⟨x_6, ex_6⟩ : ∃ y : Int32, y = v_3.1 + 1 := ⟨_, rfl⟩
      have h := h x_6 ex_6
      refine lv_iinc (v := x_6) (lv' := [(1, .int x_6), (0, .ref (ad iP))]) hx hb d_Pr_startQuestion_61 hl (k := 0) rfl (by rw [ex_6]; rfl) (by decide) rfl (fun ls hl => ?_)
      refine lv_goto (tgt := 44) hx hb d_Pr_startQuestion_64 (by decide) ?_
      exact hK_4 (x_6, f_5) h _ _ _ hw (lv_sub hl [0, 1] rfl)
  · have h := h.2 hc
    refine lv_aload_n hx hb d_Pr_startQuestion_8 rfl (lv_at hl 1 rfl) ?_
    refine xm_get (D := D) (v := .ref (ad iR)) (C := R_Pr) (T := F_Pr) (N := 1) hx hb hts (fun w h => List.mem_cons_of_mem _ (i_Pr w h)) hown hw (k_P v_1.2) rfl 0 (by decide) (hts _ (List.mem_cons_of_mem _ xw_63)) (fun _ h9 => h9) rfl d_Pr_startQuestion_9 ?_
    refine lv_iconst (v := 0) hx hb d_Pr_startQuestion_12 (by decide) ?_
    refine lv_iload_n hx hb d_Pr_startQuestion_13 rfl (lv_at hl 0 rfl) ?_
    refine lv_iadd hx hb d_Pr_startQuestion_14 ?_
    refine lv_aload_n hx hb d_Pr_startQuestion_15 rfl (lv_at hl 1 rfl) ?_
    refine xm_get (D := D) (v := .ref (ad iR)) (C := R_Pr) (T := F_Pr) (N := 1) hx hb hts (fun w h => List.mem_cons_of_mem _ (i_Pr w h)) hown hw (k_P v_1.2) rfl 0 (by decide) (hts _ (List.mem_cons_of_mem _ xw_63)) (fun _ h9 => h9) rfl d_Pr_startQuestion_16 ?_
    refine lv_sipush (v := 220) hx hb d_Pr_startQuestion_19 (by decide) ?_
    refine lv_iload_n hx hb d_Pr_startQuestion_22 rfl (lv_at hl 0 rfl) ?_
    refine lv_iadd hx hb d_Pr_startQuestion_23 ?_
    obtain ⟨hin, h⟩ := h
    refine xm_iald hx hb hw 0 (k_R v_1.2) rfl hin d_Pr_startQuestion_24 ?_
    obtain ⟨hin, h⟩ := h
    refine xm_iast hx hb hw 0 (k_R v_1.2) rfl hin d_Pr_startQuestion_25 (fun H locs hw => ?_)
    have hw : xm_W D xcl (xT cI cZ cJ cO) (xm_A ad (CE f) s.heap.size) ad (CE (upd v_1.2 (Int32.toNatClampNeg (0 + v_1.1)) (v_1.2 (Int32.toNatClampNeg (220 + v_1.1))))) s s.heap H locs := xm_W.cast (u_R v_1.2 (upd v_1.2 (Int32.toNatClampNeg (0 + v_1.1)) (v_1.2 (Int32.toNatClampNeg (220 + v_1.1))))) hw
    obtain ⟨f_7, ef_7⟩ : ∃ z : Nat → Int32, z = upd v_1.2 (Int32.toNatClampNeg (0 + v_1.1)) (v_1.2 (Int32.toNatClampNeg (220 + v_1.1))) := ⟨_, rfl⟩
    have h := h f_7 ef_7
    rw [← ef_7] at hw
    refine lv_aload_n hx hb d_Pr_startQuestion_26 rfl (lv_at hl 1 rfl) ?_
    refine xm_get (D := D) (v := .ref (ad iR)) (C := R_Pr) (T := F_Pr) (N := 1) hx hb hts (fun w h => List.mem_cons_of_mem _ (i_Pr w h)) hown hw (k_P f_7) rfl 0 (by decide) (hts _ (List.mem_cons_of_mem _ xw_63)) (fun _ h9 => h9) rfl d_Pr_startQuestion_27 ?_
    refine lv_bipush (v := 110) hx hb d_Pr_startQuestion_30 (by decide) ?_
    refine lv_iload_n hx hb d_Pr_startQuestion_32 rfl (lv_at hl 0 rfl) ?_
    refine lv_iadd hx hb d_Pr_startQuestion_33 ?_
    refine lv_iconst (v := 0) hx hb d_Pr_startQuestion_34 (by decide) ?_
    obtain ⟨hin, h⟩ := h
    refine xm_iast hx hb hw 0 (k_R f_7) rfl hin d_Pr_startQuestion_35 (fun H locs hw => ?_)
    have hw : xm_W D xcl (xT cI cZ cJ cO) (xm_A ad (CE f) s.heap.size) ad (CE (upd f_7 (Int32.toNatClampNeg (110 + v_1.1)) 0)) s s.heap H locs := xm_W.cast (u_R f_7 (upd f_7 (Int32.toNatClampNeg (110 + v_1.1)) 0)) hw
    obtain ⟨f_8, ef_8⟩ : ∃ z : Nat → Int32, z = upd f_7 (Int32.toNatClampNeg (110 + v_1.1)) 0 := ⟨_, rfl⟩
    have h := h f_8 ef_8
    rw [← ef_8] at hw
    obtain ⟨x_9, ex_9⟩ : ∃ y : Int32, y = v_1.1 + 1 := ⟨_, rfl⟩
    have h := h x_9 ex_9
    refine lv_iinc (v := x_9) (lv' := [(1, .int x_9), (0, .ref (ad iP))]) hx hb d_Pr_startQuestion_36 hl (k := 0) rfl (by rw [ex_9]; rfl) (by decide) rfl (fun ls hl => ?_)
    refine lv_goto (tgt := 2) hx hb d_Pr_startQuestion_39 (by decide) ?_
    exact hK_2 (x_9, f_8) h _ _ _ hw (lv_sub hl [0, 1] rfl)
