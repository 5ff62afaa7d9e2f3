abbrev b_Qd_isVariable : ByteArray := prog_1_method_27_code
def y_Qd_isVariable : MethodName := ⟨"QuestionDesk", "isVariable", "(I)Z"⟩
theorem d_Qd_isVariable_0 : decode b_Qd_isVariable 0 = .ok (.iload_n 0, 1) := by decide +kernel
theorem d_Qd_isVariable_1 : decode b_Qd_isVariable 1 = .ok (.bipush 10, 2) := by decide +kernel
theorem d_Qd_isVariable_3 : decode b_Qd_isVariable 3 = .ok (.if_icmp .lt 13, 3) := by decide +kernel
theorem d_Qd_isVariable_6 : decode b_Qd_isVariable 6 = .ok (.iload_n 0, 1) := by decide +kernel
theorem d_Qd_isVariable_7 : decode b_Qd_isVariable 7 = .ok (.bipush 17, 2) := by decide +kernel
theorem d_Qd_isVariable_9 : decode b_Qd_isVariable 9 = .ok (.if_icmp .gt 7, 3) := by decide +kernel
theorem d_Qd_isVariable_12 : decode b_Qd_isVariable 12 = .ok (.iconst 1, 1) := by decide +kernel
theorem d_Qd_isVariable_13 : decode b_Qd_isVariable 13 = .ok (.goto 4, 3) := by decide +kernel
theorem d_Qd_isVariable_16 : decode b_Qd_isVariable 16 = .ok (.iconst 0, 1) := by decide +kernel
theorem d_Qd_isVariable_17 : decode b_Qd_isVariable 17 = .ok (.ireturn, 1) := by decide +kernel
abbrev b_Qd_variableBit : ByteArray := prog_1_method_26_code
def y_Qd_variableBit : MethodName := ⟨"QuestionDesk", "variableBit", "(I)I"⟩
theorem d_Qd_variableBit_0 : decode b_Qd_variableBit 0 = .ok (.iload_n 0, 1) := by decide +kernel
theorem d_Qd_variableBit_1 : decode b_Qd_variableBit 1 = .ok (.invokestatic 209, 3) := by decide +kernel
theorem d_Qd_variableBit_4 : decode b_Qd_variableBit 4 = .ok (.ifCond .eq 9, 3) := by decide +kernel
theorem d_Qd_variableBit_7 : decode b_Qd_variableBit 7 = .ok (.iconst 1, 1) := by decide +kernel
theorem d_Qd_variableBit_8 : decode b_Qd_variableBit 8 = .ok (.iload_n 0, 1) := by decide +kernel
theorem d_Qd_variableBit_9 : decode b_Qd_variableBit 9 = .ok (.ishl, 1) := by decide +kernel
theorem d_Qd_variableBit_10 : decode b_Qd_variableBit 10 = .ok (.goto 4, 3) := by decide +kernel
theorem d_Qd_variableBit_13 : decode b_Qd_variableBit 13 = .ok (.iconst 0, 1) := by decide +kernel
theorem d_Qd_variableBit_14 : decode b_Qd_variableBit 14 = .ok (.ireturn, 1) := by decide +kernel
abbrev b_Qd_boundOrFree : ByteArray := prog_1_method_25_code
def y_Qd_boundOrFree : MethodName := ⟨"QuestionDesk", "boundOrFree", "(II)I"⟩
theorem d_Qd_boundOrFree_0 : decode b_Qd_boundOrFree 0 = .ok (.iload_n 0, 1) := by decide +kernel
theorem d_Qd_boundOrFree_1 : decode b_Qd_boundOrFree 1 = .ok (.bipush 10, 2) := by decide +kernel
theorem d_Qd_boundOrFree_3 : decode b_Qd_boundOrFree 3 = .ok (.if_icmp .lt 12, 3) := by decide +kernel
theorem d_Qd_boundOrFree_6 : decode b_Qd_boundOrFree 6 = .ok (.iload_n 0, 1) := by decide +kernel
theorem d_Qd_boundOrFree_7 : decode b_Qd_boundOrFree 7 = .ok (.invokestatic 202, 3) := by decide +kernel
theorem d_Qd_boundOrFree_10 : decode b_Qd_boundOrFree 10 = .ok (.iload_n 1, 1) := by decide +kernel
theorem d_Qd_boundOrFree_11 : decode b_Qd_boundOrFree 11 = .ok (.iand, 1) := by decide +kernel
theorem d_Qd_boundOrFree_12 : decode b_Qd_boundOrFree 12 = .ok (.ifCond .eq 7, 3) := by decide +kernel
theorem d_Qd_boundOrFree_15 : decode b_Qd_boundOrFree 15 = .ok (.iload_n 0, 1) := by decide +kernel
theorem d_Qd_boundOrFree_16 : decode b_Qd_boundOrFree 16 = .ok (.goto 4, 3) := by decide +kernel
theorem d_Qd_boundOrFree_19 : decode b_Qd_boundOrFree 19 = .ok (.iconst (-1), 1) := by decide +kernel
theorem d_Qd_boundOrFree_20 : decode b_Qd_boundOrFree 20 = .ok (.ireturn, 1) := by decide +kernel
abbrev b_Ru_write : ByteArray := prog_4_method_5_code
def y_Ru_write : MethodName := ⟨"QuestionDesk$Rule", "write", "(IIII)V"⟩
theorem d_Ru_write_0 : decode b_Ru_write 0 = .ok (.aload_n 0, 1) := by decide +kernel
theorem d_Ru_write_1 : decode b_Ru_write 1 = .ok (.getfield 9, 3) := by decide +kernel
theorem d_Ru_write_4 : decode b_Ru_write 4 = .ok (.iload_n 1, 1) := by decide +kernel
theorem d_Ru_write_5 : decode b_Ru_write 5 = .ok (.iload_n 2, 1) := by decide +kernel
theorem d_Ru_write_6 : decode b_Ru_write 6 = .ok (.iastore, 1) := by decide +kernel
theorem d_Ru_write_7 : decode b_Ru_write 7 = .ok (.aload_n 0, 1) := by decide +kernel
theorem d_Ru_write_8 : decode b_Ru_write 8 = .ok (.getfield 15, 3) := by decide +kernel
theorem d_Ru_write_11 : decode b_Ru_write 11 = .ok (.iload_n 1, 1) := by decide +kernel
theorem d_Ru_write_12 : decode b_Ru_write 12 = .ok (.iload_n 3, 1) := by decide +kernel
theorem d_Ru_write_13 : decode b_Ru_write 13 = .ok (.iastore, 1) := by decide +kernel
theorem d_Ru_write_14 : decode b_Ru_write 14 = .ok (.aload_n 0, 1) := by decide +kernel
theorem d_Ru_write_15 : decode b_Ru_write 15 = .ok (.getfield 18, 3) := by decide +kernel
theorem d_Ru_write_18 : decode b_Ru_write 18 = .ok (.iload_n 1, 1) := by decide +kernel
theorem d_Ru_write_19 : decode b_Ru_write 19 = .ok (.iload 4, 2) := by decide +kernel
theorem d_Ru_write_21 : decode b_Ru_write 21 = .ok (.iastore, 1) := by decide +kernel
theorem d_Ru_write_22 : decode b_Ru_write 22 = .ok (.return_, 1) := by decide +kernel
abbrev b_Ru_begin : ByteArray := prog_4_method_2_code
def y_Ru_begin : MethodName := ⟨"QuestionDesk$Rule", "begin", "(III)V"⟩
theorem d_Ru_begin_0 : decode b_Ru_begin 0 = .ok (.aload_n 0, 1) := by decide +kernel
theorem d_Ru_begin_1 : decode b_Ru_begin 1 = .ok (.iconst 0, 1) := by decide +kernel
theorem d_Ru_begin_2 : decode b_Ru_begin 2 = .ok (.putfield 21, 3) := by decide +kernel
theorem d_Ru_begin_5 : decode b_Ru_begin 5 = .ok (.aload_n 0, 1) := by decide +kernel
theorem d_Ru_begin_6 : decode b_Ru_begin 6 = .ok (.iconst 0, 1) := by decide +kernel
theorem d_Ru_begin_7 : decode b_Ru_begin 7 = .ok (.iload_n 1, 1) := by decide +kernel
theorem d_Ru_begin_8 : decode b_Ru_begin 8 = .ok (.iload_n 2, 1) := by decide +kernel
theorem d_Ru_begin_9 : decode b_Ru_begin 9 = .ok (.iload_n 3, 1) := by decide +kernel
theorem d_Ru_begin_10 : decode b_Ru_begin 10 = .ok (.invokevirtual 25, 3) := by decide +kernel
theorem d_Ru_begin_13 : decode b_Ru_begin 13 = .ok (.return_, 1) := by decide +kernel
abbrev b_Ru_append : ByteArray := prog_4_method_3_code
def y_Ru_append : MethodName := ⟨"QuestionDesk$Rule", "append", "(III)V"⟩
theorem d_Ru_append_0 : decode b_Ru_append 0 = .ok (.aload_n 0, 1) := by decide +kernel
theorem d_Ru_append_1 : decode b_Ru_append 1 = .ok (.getfield 21, 3) := by decide +kernel
theorem d_Ru_append_4 : decode b_Ru_append 4 = .ok (.iconst 3, 1) := by decide +kernel
theorem d_Ru_append_5 : decode b_Ru_append 5 = .ok (.if_icmp .ge 24, 3) := by decide +kernel
theorem d_Ru_append_8 : decode b_Ru_append 8 = .ok (.aload_n 0, 1) := by decide +kernel
theorem d_Ru_append_9 : decode b_Ru_append 9 = .ok (.dup, 1) := by decide +kernel
theorem d_Ru_append_10 : decode b_Ru_append 10 = .ok (.getfield 21, 3) := by decide +kernel
theorem d_Ru_append_13 : decode b_Ru_append 13 = .ok (.iconst 1, 1) := by decide +kernel
theorem d_Ru_append_14 : decode b_Ru_append 14 = .ok (.iadd, 1) := by decide +kernel
theorem d_Ru_append_15 : decode b_Ru_append 15 = .ok (.putfield 21, 3) := by decide +kernel
theorem d_Ru_append_18 : decode b_Ru_append 18 = .ok (.aload_n 0, 1) := by decide +kernel
theorem d_Ru_append_19 : decode b_Ru_append 19 = .ok (.aload_n 0, 1) := by decide +kernel
theorem d_Ru_append_20 : decode b_Ru_append 20 = .ok (.getfield 21, 3) := by decide +kernel
theorem d_Ru_append_23 : decode b_Ru_append 23 = .ok (.iload_n 1, 1) := by decide +kernel
theorem d_Ru_append_24 : decode b_Ru_append 24 = .ok (.iload_n 2, 1) := by decide +kernel
theorem d_Ru_append_25 : decode b_Ru_append 25 = .ok (.iload_n 3, 1) := by decide +kernel
theorem d_Ru_append_26 : decode b_Ru_append 26 = .ok (.invokevirtual 25, 3) := by decide +kernel
theorem d_Ru_append_29 : decode b_Ru_append 29 = .ok (.return_, 1) := by decide +kernel
abbrev b_Ru_appendBefore : ByteArray := prog_4_method_4_code
def y_Ru_appendBefore : MethodName := ⟨"QuestionDesk$Rule", "appendBefore", "(LQuestionDesk$Rule;I)V"⟩
theorem d_Ru_appendBefore_0 : decode b_Ru_appendBefore 0 = .ok (.iconst 1, 1) := by decide +kernel
theorem d_Ru_appendBefore_1 : decode b_Ru_appendBefore 1 = .ok (.istore_n 3, 1) := by decide +kernel
theorem d_Ru_appendBefore_2 : decode b_Ru_appendBefore 2 = .ok (.iload_n 3, 1) := by decide +kernel
theorem d_Ru_appendBefore_3 : decode b_Ru_appendBefore 3 = .ok (.iload_n 2, 1) := by decide +kernel
theorem d_Ru_appendBefore_4 : decode b_Ru_appendBefore 4 = .ok (.if_icmp .ge 39, 3) := by decide +kernel
theorem d_Ru_appendBefore_7 : decode b_Ru_appendBefore 7 = .ok (.iload_n 3, 1) := by decide +kernel
theorem d_Ru_appendBefore_8 : decode b_Ru_appendBefore 8 = .ok (.aload_n 1, 1) := by decide +kernel
theorem d_Ru_appendBefore_9 : decode b_Ru_appendBefore 9 = .ok (.getfield 21, 3) := by decide +kernel
theorem d_Ru_appendBefore_12 : decode b_Ru_appendBefore 12 = .ok (.if_icmp .gt 31, 3) := by decide +kernel
theorem d_Ru_appendBefore_15 : decode b_Ru_appendBefore 15 = .ok (.aload_n 0, 1) := by decide +kernel
theorem d_Ru_appendBefore_16 : decode b_Ru_appendBefore 16 = .ok (.aload_n 1, 1) := by decide +kernel
theorem d_Ru_appendBefore_17 : decode b_Ru_appendBefore 17 = .ok (.getfield 9, 3) := by decide +kernel
theorem d_Ru_appendBefore_20 : decode b_Ru_appendBefore 20 = .ok (.iload_n 3, 1) := by decide +kernel
theorem d_Ru_appendBefore_21 : decode b_Ru_appendBefore 21 = .ok (.iaload, 1) := by decide +kernel
theorem d_Ru_appendBefore_22 : decode b_Ru_appendBefore 22 = .ok (.aload_n 1, 1) := by decide +kernel
theorem d_Ru_appendBefore_23 : decode b_Ru_appendBefore 23 = .ok (.getfield 15, 3) := by decide +kernel
theorem d_Ru_appendBefore_26 : decode b_Ru_appendBefore 26 = .ok (.iload_n 3, 1) := by decide +kernel
theorem d_Ru_appendBefore_27 : decode b_Ru_appendBefore 27 = .ok (.iaload, 1) := by decide +kernel
theorem d_Ru_appendBefore_28 : decode b_Ru_appendBefore 28 = .ok (.aload_n 1, 1) := by decide +kernel
theorem d_Ru_appendBefore_29 : decode b_Ru_appendBefore 29 = .ok (.getfield 18, 3) := by decide +kernel
theorem d_Ru_appendBefore_32 : decode b_Ru_appendBefore 32 = .ok (.iload_n 3, 1) := by decide +kernel
theorem d_Ru_appendBefore_33 : decode b_Ru_appendBefore 33 = .ok (.iaload, 1) := by decide +kernel
theorem d_Ru_appendBefore_34 : decode b_Ru_appendBefore 34 = .ok (.invokevirtual 29, 3) := by decide +kernel
theorem d_Ru_appendBefore_37 : decode b_Ru_appendBefore 37 = .ok (.iinc 3 1, 3) := by decide +kernel
theorem d_Ru_appendBefore_40 : decode b_Ru_appendBefore 40 = .ok (.goto (-38), 3) := by decide +kernel
theorem d_Ru_appendBefore_43 : decode b_Ru_appendBefore 43 = .ok (.return_, 1) := by decide +kernel
abbrev b_Ru_variablesOf : ByteArray := prog_4_method_7_code
def y_Ru_variablesOf : MethodName := ⟨"QuestionDesk$Rule", "variablesOf", "(I)I"⟩
theorem d_Ru_variablesOf_0 : decode b_Ru_variablesOf 0 = .ok (.aload_n 0, 1) := by decide +kernel
theorem d_Ru_variablesOf_1 : decode b_Ru_variablesOf 1 = .ok (.getfield 15, 3) := by decide +kernel
theorem d_Ru_variablesOf_4 : decode b_Ru_variablesOf 4 = .ok (.iload_n 1, 1) := by decide +kernel
theorem d_Ru_variablesOf_5 : decode b_Ru_variablesOf 5 = .ok (.iaload, 1) := by decide +kernel
theorem d_Ru_variablesOf_6 : decode b_Ru_variablesOf 6 = .ok (.invokestatic 37, 3) := by decide +kernel
theorem d_Ru_variablesOf_9 : decode b_Ru_variablesOf 9 = .ok (.aload_n 0, 1) := by decide +kernel
theorem d_Ru_variablesOf_10 : decode b_Ru_variablesOf 10 = .ok (.getfield 18, 3) := by decide +kernel
theorem d_Ru_variablesOf_13 : decode b_Ru_variablesOf 13 = .ok (.iload_n 1, 1) := by decide +kernel
theorem d_Ru_variablesOf_14 : decode b_Ru_variablesOf 14 = .ok (.iaload, 1) := by decide +kernel
theorem d_Ru_variablesOf_15 : decode b_Ru_variablesOf 15 = .ok (.invokestatic 37, 3) := by decide +kernel
theorem d_Ru_variablesOf_18 : decode b_Ru_variablesOf 18 = .ok (.ior, 1) := by decide +kernel
theorem d_Ru_variablesOf_19 : decode b_Ru_variablesOf 19 = .ok (.ireturn, 1) := by decide +kernel
abbrev b_Ru_isSafe : ByteArray := prog_4_method_6_code
def y_Ru_isSafe : MethodName := ⟨"QuestionDesk$Rule", "isSafe", "()Z"⟩
theorem d_Ru_isSafe_0 : decode b_Ru_isSafe 0 = .ok (.iconst 0, 1) := by decide +kernel
theorem d_Ru_isSafe_1 : decode b_Ru_isSafe 1 = .ok (.istore_n 1, 1) := by decide +kernel
theorem d_Ru_isSafe_2 : decode b_Ru_isSafe 2 = .ok (.iconst 1, 1) := by decide +kernel
theorem d_Ru_isSafe_3 : decode b_Ru_isSafe 3 = .ok (.istore_n 2, 1) := by decide +kernel
theorem d_Ru_isSafe_4 : decode b_Ru_isSafe 4 = .ok (.iload_n 2, 1) := by decide +kernel
theorem d_Ru_isSafe_5 : decode b_Ru_isSafe 5 = .ok (.aload_n 0, 1) := by decide +kernel
theorem d_Ru_isSafe_6 : decode b_Ru_isSafe 6 = .ok (.getfield 21, 3) := by decide +kernel
theorem d_Ru_isSafe_9 : decode b_Ru_isSafe 9 = .ok (.if_icmp .gt 17, 3) := by decide +kernel
theorem d_Ru_isSafe_12 : decode b_Ru_isSafe 12 = .ok (.iload_n 1, 1) := by decide +kernel
theorem d_Ru_isSafe_13 : decode b_Ru_isSafe 13 = .ok (.aload_n 0, 1) := by decide +kernel
theorem d_Ru_isSafe_14 : decode b_Ru_isSafe 14 = .ok (.iload_n 2, 1) := by decide +kernel
theorem d_Ru_isSafe_15 : decode b_Ru_isSafe 15 = .ok (.invokevirtual 33, 3) := by decide +kernel
theorem d_Ru_isSafe_18 : decode b_Ru_isSafe 18 = .ok (.ior, 1) := by decide +kernel
theorem d_Ru_isSafe_19 : decode b_Ru_isSafe 19 = .ok (.istore_n 1, 1) := by decide +kernel
theorem d_Ru_isSafe_20 : decode b_Ru_isSafe 20 = .ok (.iinc 2 1, 3) := by decide +kernel
theorem d_Ru_isSafe_23 : decode b_Ru_isSafe 23 = .ok (.goto (-19), 3) := by decide +kernel
theorem d_Ru_isSafe_26 : decode b_Ru_isSafe 26 = .ok (.aload_n 0, 1) := by decide +kernel
theorem d_Ru_isSafe_27 : decode b_Ru_isSafe 27 = .ok (.iconst 0, 1) := by decide +kernel
theorem d_Ru_isSafe_28 : decode b_Ru_isSafe 28 = .ok (.invokevirtual 33, 3) := by decide +kernel
theorem d_Ru_isSafe_31 : decode b_Ru_isSafe 31 = .ok (.iload_n 1, 1) := by decide +kernel
theorem d_Ru_isSafe_32 : decode b_Ru_isSafe 32 = .ok (.iconst (-1), 1) := by decide +kernel
theorem d_Ru_isSafe_33 : decode b_Ru_isSafe 33 = .ok (.ixor, 1) := by decide +kernel
theorem d_Ru_isSafe_34 : decode b_Ru_isSafe 34 = .ok (.iand, 1) := by decide +kernel
theorem d_Ru_isSafe_35 : decode b_Ru_isSafe 35 = .ok (.ifCond .ne 7, 3) := by decide +kernel
theorem d_Ru_isSafe_38 : decode b_Ru_isSafe 38 = .ok (.iconst 1, 1) := by decide +kernel
theorem d_Ru_isSafe_39 : decode b_Ru_isSafe 39 = .ok (.goto 4, 3) := by decide +kernel
theorem d_Ru_isSafe_42 : decode b_Ru_isSafe 42 = .ok (.iconst 0, 1) := by decide +kernel
theorem d_Ru_isSafe_43 : decode b_Ru_isSafe 43 = .ok (.ireturn, 1) := by decide +kernel
abbrev b_Ru_blankUnless : ByteArray := prog_4_method_9_code
def y_Ru_blankUnless : MethodName := ⟨"QuestionDesk$Rule", "blankUnless", "(II)I"⟩
theorem d_Ru_blankUnless_0 : decode b_Ru_blankUnless 0 = .ok (.iload_n 1, 1) := by decide +kernel
theorem d_Ru_blankUnless_1 : decode b_Ru_blankUnless 1 = .ok (.invokestatic 44, 3) := by decide +kernel
theorem d_Ru_blankUnless_4 : decode b_Ru_blankUnless 4 = .ok (.ifCond .eq 17, 3) := by decide +kernel
theorem d_Ru_blankUnless_7 : decode b_Ru_blankUnless 7 = .ok (.iload_n 1, 1) := by decide +kernel
theorem d_Ru_blankUnless_8 : decode b_Ru_blankUnless 8 = .ok (.invokestatic 37, 3) := by decide +kernel
theorem d_Ru_blankUnless_11 : decode b_Ru_blankUnless 11 = .ok (.iload_n 0, 1) := by decide +kernel
theorem d_Ru_blankUnless_12 : decode b_Ru_blankUnless 12 = .ok (.iand, 1) := by decide +kernel
theorem d_Ru_blankUnless_13 : decode b_Ru_blankUnless 13 = .ok (.ifCond .ne 8, 3) := by decide +kernel
theorem d_Ru_blankUnless_16 : decode b_Ru_blankUnless 16 = .ok (.bipush 18, 2) := by decide +kernel
theorem d_Ru_blankUnless_18 : decode b_Ru_blankUnless 18 = .ok (.goto 4, 3) := by decide +kernel
theorem d_Ru_blankUnless_21 : decode b_Ru_blankUnless 21 = .ok (.iload_n 1, 1) := by decide +kernel
theorem d_Ru_blankUnless_22 : decode b_Ru_blankUnless 22 = .ok (.ireturn, 1) := by decide +kernel
abbrev b_Ru_blankLoneVariables : ByteArray := prog_4_method_8_code
def y_Ru_blankLoneVariables : MethodName := ⟨"QuestionDesk$Rule", "blankLoneVariables", "()V"⟩
theorem d_Ru_blankLoneVariables_0 : decode b_Ru_blankLoneVariables 0 = .ok (.iconst 0, 1) := by decide +kernel
theorem d_Ru_blankLoneVariables_1 : decode b_Ru_blankLoneVariables 1 = .ok (.istore_n 1, 1) := by decide +kernel
theorem d_Ru_blankLoneVariables_2 : decode b_Ru_blankLoneVariables 2 = .ok (.iconst 0, 1) := by decide +kernel
theorem d_Ru_blankLoneVariables_3 : decode b_Ru_blankLoneVariables 3 = .ok (.istore_n 2, 1) := by decide +kernel
theorem d_Ru_blankLoneVariables_4 : decode b_Ru_blankLoneVariables 4 = .ok (.iconst 0, 1) := by decide +kernel
theorem d_Ru_blankLoneVariables_5 : decode b_Ru_blankLoneVariables 5 = .ok (.istore_n 3, 1) := by decide +kernel
theorem d_Ru_blankLoneVariables_6 : decode b_Ru_blankLoneVariables 6 = .ok (.iload_n 3, 1) := by decide +kernel
theorem d_Ru_blankLoneVariables_7 : decode b_Ru_blankLoneVariables 7 = .ok (.aload_n 0, 1) := by decide +kernel
theorem d_Ru_blankLoneVariables_8 : decode b_Ru_blankLoneVariables 8 = .ok (.getfield 21, 3) := by decide +kernel
theorem d_Ru_blankLoneVariables_11 : decode b_Ru_blankLoneVariables 11 = .ok (.if_icmp .gt 61, 3) := by decide +kernel
theorem d_Ru_blankLoneVariables_14 : decode b_Ru_blankLoneVariables 14 = .ok (.iload_n 2, 1) := by decide +kernel
theorem d_Ru_blankLoneVariables_15 : decode b_Ru_blankLoneVariables 15 = .ok (.iload_n 1, 1) := by decide +kernel
theorem d_Ru_blankLoneVariables_16 : decode b_Ru_blankLoneVariables 16 = .ok (.aload_n 0, 1) := by decide +kernel
theorem d_Ru_blankLoneVariables_17 : decode b_Ru_blankLoneVariables 17 = .ok (.getfield 15, 3) := by decide +kernel
theorem d_Ru_blankLoneVariables_20 : decode b_Ru_blankLoneVariables 20 = .ok (.iload_n 3, 1) := by decide +kernel
theorem d_Ru_blankLoneVariables_21 : decode b_Ru_blankLoneVariables 21 = .ok (.iaload, 1) := by decide +kernel
theorem d_Ru_blankLoneVariables_22 : decode b_Ru_blankLoneVariables 22 = .ok (.invokestatic 37, 3) := by decide +kernel
theorem d_Ru_blankLoneVariables_25 : decode b_Ru_blankLoneVariables 25 = .ok (.iand, 1) := by decide +kernel
theorem d_Ru_blankLoneVariables_26 : decode b_Ru_blankLoneVariables 26 = .ok (.ior, 1) := by decide +kernel
theorem d_Ru_blankLoneVariables_27 : decode b_Ru_blankLoneVariables 27 = .ok (.istore_n 2, 1) := by decide +kernel
theorem d_Ru_blankLoneVariables_28 : decode b_Ru_blankLoneVariables 28 = .ok (.iload_n 1, 1) := by decide +kernel
theorem d_Ru_blankLoneVariables_29 : decode b_Ru_blankLoneVariables 29 = .ok (.aload_n 0, 1) := by decide +kernel
theorem d_Ru_blankLoneVariables_30 : decode b_Ru_blankLoneVariables 30 = .ok (.getfield 15, 3) := by decide +kernel
theorem d_Ru_blankLoneVariables_33 : decode b_Ru_blankLoneVariables 33 = .ok (.iload_n 3, 1) := by decide +kernel
theorem d_Ru_blankLoneVariables_34 : decode b_Ru_blankLoneVariables 34 = .ok (.iaload, 1) := by decide +kernel
theorem d_Ru_blankLoneVariables_35 : decode b_Ru_blankLoneVariables 35 = .ok (.invokestatic 37, 3) := by decide +kernel
theorem d_Ru_blankLoneVariables_38 : decode b_Ru_blankLoneVariables 38 = .ok (.ior, 1) := by decide +kernel
theorem d_Ru_blankLoneVariables_39 : decode b_Ru_blankLoneVariables 39 = .ok (.istore_n 1, 1) := by decide +kernel
theorem d_Ru_blankLoneVariables_40 : decode b_Ru_blankLoneVariables 40 = .ok (.iload_n 2, 1) := by decide +kernel
theorem d_Ru_blankLoneVariables_41 : decode b_Ru_blankLoneVariables 41 = .ok (.iload_n 1, 1) := by decide +kernel
theorem d_Ru_blankLoneVariables_42 : decode b_Ru_blankLoneVariables 42 = .ok (.aload_n 0, 1) := by decide +kernel
theorem d_Ru_blankLoneVariables_43 : decode b_Ru_blankLoneVariables 43 = .ok (.getfield 18, 3) := by decide +kernel
theorem d_Ru_blankLoneVariables_46 : decode b_Ru_blankLoneVariables 46 = .ok (.iload_n 3, 1) := by decide +kernel
theorem d_Ru_blankLoneVariables_47 : decode b_Ru_blankLoneVariables 47 = .ok (.iaload, 1) := by decide +kernel
theorem d_Ru_blankLoneVariables_48 : decode b_Ru_blankLoneVariables 48 = .ok (.invokestatic 37, 3) := by decide +kernel
theorem d_Ru_blankLoneVariables_51 : decode b_Ru_blankLoneVariables 51 = .ok (.iand, 1) := by decide +kernel
theorem d_Ru_blankLoneVariables_52 : decode b_Ru_blankLoneVariables 52 = .ok (.ior, 1) := by decide +kernel
theorem d_Ru_blankLoneVariables_53 : decode b_Ru_blankLoneVariables 53 = .ok (.istore_n 2, 1) := by decide +kernel
theorem d_Ru_blankLoneVariables_54 : decode b_Ru_blankLoneVariables 54 = .ok (.iload_n 1, 1) := by decide +kernel
theorem d_Ru_blankLoneVariables_55 : decode b_Ru_blankLoneVariables 55 = .ok (.aload_n 0, 1) := by decide +kernel
theorem d_Ru_blankLoneVariables_56 : decode b_Ru_blankLoneVariables 56 = .ok (.getfield 18, 3) := by decide +kernel
theorem d_Ru_blankLoneVariables_59 : decode b_Ru_blankLoneVariables 59 = .ok (.iload_n 3, 1) := by decide +kernel
theorem d_Ru_blankLoneVariables_60 : decode b_Ru_blankLoneVariables 60 = .ok (.iaload, 1) := by decide +kernel
theorem d_Ru_blankLoneVariables_61 : decode b_Ru_blankLoneVariables 61 = .ok (.invokestatic 37, 3) := by decide +kernel
theorem d_Ru_blankLoneVariables_64 : decode b_Ru_blankLoneVariables 64 = .ok (.ior, 1) := by decide +kernel
theorem d_Ru_blankLoneVariables_65 : decode b_Ru_blankLoneVariables 65 = .ok (.istore_n 1, 1) := by decide +kernel
theorem d_Ru_blankLoneVariables_66 : decode b_Ru_blankLoneVariables 66 = .ok (.iinc 3 1, 3) := by decide +kernel
theorem d_Ru_blankLoneVariables_69 : decode b_Ru_blankLoneVariables 69 = .ok (.goto (-63), 3) := by decide +kernel
theorem d_Ru_blankLoneVariables_72 : decode b_Ru_blankLoneVariables 72 = .ok (.iconst 0, 1) := by decide +kernel
theorem d_Ru_blankLoneVariables_73 : decode b_Ru_blankLoneVariables 73 = .ok (.istore_n 3, 1) := by decide +kernel
theorem d_Ru_blankLoneVariables_74 : decode b_Ru_blankLoneVariables 74 = .ok (.iload_n 3, 1) := by decide +kernel
theorem d_Ru_blankLoneVariables_75 : decode b_Ru_blankLoneVariables 75 = .ok (.aload_n 0, 1) := by decide +kernel
theorem d_Ru_blankLoneVariables_76 : decode b_Ru_blankLoneVariables 76 = .ok (.getfield 21, 3) := by decide +kernel
theorem d_Ru_blankLoneVariables_79 : decode b_Ru_blankLoneVariables 79 = .ok (.if_icmp .gt 41, 3) := by decide +kernel
theorem d_Ru_blankLoneVariables_82 : decode b_Ru_blankLoneVariables 82 = .ok (.aload_n 0, 1) := by decide +kernel
theorem d_Ru_blankLoneVariables_83 : decode b_Ru_blankLoneVariables 83 = .ok (.getfield 15, 3) := by decide +kernel
theorem d_Ru_blankLoneVariables_86 : decode b_Ru_blankLoneVariables 86 = .ok (.iload_n 3, 1) := by decide +kernel
theorem d_Ru_blankLoneVariables_87 : decode b_Ru_blankLoneVariables 87 = .ok (.iload_n 2, 1) := by decide +kernel
theorem d_Ru_blankLoneVariables_88 : decode b_Ru_blankLoneVariables 88 = .ok (.aload_n 0, 1) := by decide +kernel
theorem d_Ru_blankLoneVariables_89 : decode b_Ru_blankLoneVariables 89 = .ok (.getfield 15, 3) := by decide +kernel
theorem d_Ru_blankLoneVariables_92 : decode b_Ru_blankLoneVariables 92 = .ok (.iload_n 3, 1) := by decide +kernel
theorem d_Ru_blankLoneVariables_93 : decode b_Ru_blankLoneVariables 93 = .ok (.iaload, 1) := by decide +kernel
theorem d_Ru_blankLoneVariables_94 : decode b_Ru_blankLoneVariables 94 = .ok (.invokestatic 40, 3) := by decide +kernel
theorem d_Ru_blankLoneVariables_97 : decode b_Ru_blankLoneVariables 97 = .ok (.iastore, 1) := by decide +kernel
theorem d_Ru_blankLoneVariables_98 : decode b_Ru_blankLoneVariables 98 = .ok (.aload_n 0, 1) := by decide +kernel
theorem d_Ru_blankLoneVariables_99 : decode b_Ru_blankLoneVariables 99 = .ok (.getfield 18, 3) := by decide +kernel
theorem d_Ru_blankLoneVariables_102 : decode b_Ru_blankLoneVariables 102 = .ok (.iload_n 3, 1) := by decide +kernel
theorem d_Ru_blankLoneVariables_103 : decode b_Ru_blankLoneVariables 103 = .ok (.iload_n 2, 1) := by decide +kernel
theorem d_Ru_blankLoneVariables_104 : decode b_Ru_blankLoneVariables 104 = .ok (.aload_n 0, 1) := by decide +kernel
theorem d_Ru_blankLoneVariables_105 : decode b_Ru_blankLoneVariables 105 = .ok (.getfield 18, 3) := by decide +kernel
theorem d_Ru_blankLoneVariables_108 : decode b_Ru_blankLoneVariables 108 = .ok (.iload_n 3, 1) := by decide +kernel
theorem d_Ru_blankLoneVariables_109 : decode b_Ru_blankLoneVariables 109 = .ok (.iaload, 1) := by decide +kernel
theorem d_Ru_blankLoneVariables_110 : decode b_Ru_blankLoneVariables 110 = .ok (.invokestatic 40, 3) := by decide +kernel
theorem d_Ru_blankLoneVariables_113 : decode b_Ru_blankLoneVariables 113 = .ok (.iastore, 1) := by decide +kernel
theorem d_Ru_blankLoneVariables_114 : decode b_Ru_blankLoneVariables 114 = .ok (.iinc 3 1, 3) := by decide +kernel
theorem d_Ru_blankLoneVariables_117 : decode b_Ru_blankLoneVariables 117 = .ok (.goto (-43), 3) := by decide +kernel
theorem d_Ru_blankLoneVariables_120 : decode b_Ru_blankLoneVariables 120 = .ok (.return_, 1) := by decide +kernel
def wp_Qd_isVariable (post : Int32 → Prop)  (t : Int32) : Prop :=
xj (fun (v_1 : Int32) =>
(narrow .boolean (.int v_1) = .int v_1 ∧ post v_1)) (fun (J_2 : Int32 → Prop) =>
xj (fun (v_3 : Unit) =>
J_2 0) (fun (J_4 : Unit → Prop) =>
((t < 10 →
J_4 ()) ∧ (¬ t < 10 →
((17 < t →
J_4 ()) ∧ (¬ 17 < t →
J_2 1))))))
abbrev rm_Qd_isVariable : Room := { frames := 0, cells := 0, slots := 0, locals := 0 }
set_option maxHeartbeats 4000000 in
set_option maxRecDepth 100000 in
theorem c_Qd_isVariable {l : Launch} {D : va_G} {ad : Nat → Nat} (CE : Nat → Option va_E) {cI cZ cJ cO : ClassId}    {post : Int32 → Prop} {t : Int32} (h : wp_Qd_isVariable post t) : ∀ sz, Met l y_Qd_isVariable (Cond.code y_Qd_isVariable b_Qd_isVariable 1 (some .boolean) :: xg) rm_Qd_isVariable (xm_Pc D xcl (xT cI cZ cJ cO) ad CE sz [.int t]) (va_Qi (fun (r : Int32) (_ : Unit) => post r) (xm_B D xcl (xT cI cZ cJ cO) (xm_A ad CE sz) (fun _ => ad) (fun _ : Unit => CE)) (xm_A ad CE sz)) 0 0 (xm_A ad CE sz) := by
  refine xm_ofW (cc := b_Qd_isVariable) (maxL := 1) (ret := (some .boolean)) (by decide) rfl (Nat.le_of_ble_eq_true rfl) ?_
  intro p e s m args below meth c ls QQ hQQ hx hb hml hr hown hlk hnm hts hl hw
  have hl : lv_has ls 1 [(0, .int t)] := hl
  unfold wp_Qd_isVariable at h
  refine lv_iload_n hx hb d_Qd_isVariable_0 rfl (lv_at hl 0 rfl) ?_
  refine lv_bipush (v := 10) hx hb d_Qd_isVariable_1 (by decide) ?_
  refine xj_use h (fun (v_1 : Int32) => ∀ (H : Heap) (locs : List Loc) (ls : Array Slot), xm_W D xcl (xT cI cZ cJ cO) (xm_A ad CE s.heap.size) ad CE s s.heap H locs → lv_has ls 1 [] → W p l e rm_Qd_isVariable s m args below meth c H locs 0 0 QQ (F0 m 17 ls [.int v_1])) (fun v_1 h H locs ls hw hl => ?_) (fun J_2 hJ_2 h => ?_)
  · subst hQQ
    exact xm_zret hx hb hr hlk h.1 hw () rfl rfl h.2 d_Qd_isVariable_17
  · refine xj_use h (fun (v_3 : Unit) => ∀ (H : Heap) (locs : List Loc) (ls : Array Slot), xm_W D xcl (xT cI cZ cJ cO) (xm_A ad CE s.heap.size) ad CE s s.heap H locs → lv_has ls 1 [] → W p l e rm_Qd_isVariable s m args below meth c H locs 0 0 QQ (F0 m 16 ls [])) (fun v_3 h H locs ls hw hl => ?_) (fun J_4 hJ_4 h => ?_)
    · refine lv_iconst (v := 0) hx hb d_Qd_isVariable_16 (by decide) ?_
      exact hJ_2 0 h _ _ _ hw (lv_sub hl [] rfl)
    · refine lv_icmp_lt (tgt := 16) hx hb d_Qd_isVariable_3 (by decide) (fun hc => ?_) (fun hc => ?_)
      · have h := h.1 hc
        exact hJ_4 () h _ _ _ hw (lv_sub hl [] rfl)
      · have h := h.2 hc
        refine lv_iload_n hx hb d_Qd_isVariable_6 rfl (lv_at hl 0 rfl) ?_
        refine lv_bipush (v := 17) hx hb d_Qd_isVariable_7 (by decide) ?_
        refine lv_icmp_gt (tgt := 16) hx hb d_Qd_isVariable_9 (by decide) (fun hc => ?_) (fun hc => ?_)
        · have h := h.1 hc
          exact hJ_4 () h _ _ _ hw (lv_sub hl [] rfl)
        · have h := h.2 hc
          refine lv_iconst (v := 1) hx hb d_Qd_isVariable_12 (by decide) ?_
          refine lv_goto (tgt := 17) hx hb d_Qd_isVariable_13 (by decide) ?_
          exact hJ_2 1 h _ _ _ hw (lv_sub hl [] rfl)
theorem xw_397 : (Jvm.Cond.code ({ cls := "QuestionDesk", name := "isVariable", desc := "(I)Z" } : Jvm.MethodName) prog_1_method_27_code (1 : Nat) (Option.some Jvm.ClassFile.FieldType.boolean)) ∈ xg := xg_t (i := 397) (by decide +kernel) (by decide +kernel)
theorem xw_1 : (Jvm.Cond.initialized "QuestionDesk") ∈ xg := xg_t (i := 1) (by decide +kernel) (by decide +kernel)
theorem xw_395 : (Jvm.Cond.methodLink "QuestionDesk" (209 : Nat) ({ cls := "QuestionDesk", name := "isVariable", desc := "(I)Z" } : Jvm.MethodName)) ∈ xg := xg_t (i := 395) (by decide +kernel) (by decide +kernel)
theorem xw_396 : (Jvm.Cond.static ({ cls := "QuestionDesk", name := "isVariable", desc := "(I)Z" } : Jvm.MethodName)) ∈ xg := xg_t (i := 396) (by decide +kernel) (by decide +kernel)
def wp_Qd_variableBit (post : Int32 → Prop)  (t : Int32) : Prop :=
wp_Qd_isVariable (fun r_1 =>
xj (fun (v_3 : Int32) =>
post v_3) (fun (J_4 : Int32 → Prop) =>
((r_1 = 0 →
J_4 0) ∧ (¬ r_1 = 0 →
J_4 (1 <<< (t &&& 31)))))) t
abbrev rm_Qd_variableBit : Room := { frames := 1, cells := 0, slots := 0, locals := 20 }
set_option maxHeartbeats 4000000 in
set_option maxRecDepth 100000 in
theorem c_Qd_variableBit {l : Launch} {D : va_G} {ad : Nat → Nat} (CE : Nat → Option va_E) {cI cZ cJ cO : ClassId}    {post : Int32 → Prop} {t : Int32} (h : wp_Qd_variableBit post t) : ∀ sz, Met l y_Qd_variableBit (Cond.code y_Qd_variableBit b_Qd_variableBit 1 (some .int) :: xg) rm_Qd_variableBit (xm_Pc D xcl (xT cI cZ cJ cO) ad CE sz [.int t]) (va_Qi (fun (r : Int32) (_ : Unit) => post r) (xm_B D xcl (xT cI cZ cJ cO) (xm_A ad CE sz) (fun _ => ad) (fun _ : Unit => CE)) (xm_A ad CE sz)) 0 0 (xm_A ad CE sz) := by
  refine xm_ofW (cc := b_Qd_variableBit) (maxL := 1) (ret := (some .int)) (by decide) rfl (Nat.le_of_ble_eq_true rfl) ?_
  intro p e s m args below meth c ls QQ hQQ hx hb hml hr hown hlk hnm hts hl hw
  have hl : lv_has ls 1 [(0, .int t)] := hl
  unfold wp_Qd_variableBit at h
  refine lv_iload_n hx hb d_Qd_variableBit_0 rfl (lv_at hl 0 rfl) ?_
  refine xm_calli (ua := fun _ => ad) (va_runS (As := [.int t]) (rest := []) ⟨hx, hb, hml, hown, hts⟩ (c_Qd_isVariable (D := D) (ad := ad) (CE := (CE))   h _) (xg_cwS 1 hts xw_397 xw_395 xw_396 xw_1 rfl rfl (by decide +kernel) ⟨Nat.le_of_ble_eq_true rfl, Nat.le_of_ble_eq_true rfl⟩) (xm_pre hw _) rfl rfl hl.1 rfl (lv_room (Nat.le_of_ble_eq_true rfl)) d_Qd_variableBit_1 ⟨Nat.le_of_ble_eq_true rfl, Nat.le_of_ble_eq_true rfl⟩) hw (fun r_1 _ H locs h hw => ?_)
  refine xj_use h (fun (v_3 : Int32) => ∀ (H : Heap) (locs : List Loc) (ls : Array Slot), xm_W D xcl (xT cI cZ cJ cO) (xm_A ad CE s.heap.size) ad CE s s.heap H locs → lv_has ls 1 [] → W p l e rm_Qd_variableBit s m args below meth c H locs 0 0 QQ (F0 m 14 ls [.int v_3])) (fun v_3 h H locs ls hw hl => ?_) (fun J_4 hJ_4 h => ?_)
  · subst hQQ
    exact xm_iret hx hb hr hlk hw () rfl rfl h d_Qd_variableBit_14
  · refine lv_if_eq (tgt := 13) hx hb d_Qd_variableBit_4 (by decide) (fun hc => ?_) (fun hc => ?_)
    · have h := h.1 hc
      refine lv_iconst (v := 0) hx hb d_Qd_variableBit_13 (by decide) ?_
      exact hJ_4 0 h _ _ _ hw (lv_sub hl [] rfl)
    · have h := h.2 hc
      refine lv_iconst (v := 1) hx hb d_Qd_variableBit_7 (by decide) ?_
      refine lv_iload_n hx hb d_Qd_variableBit_8 rfl (lv_at hl 0 rfl) ?_
      refine lv_ishl hx hb d_Qd_variableBit_9 ?_
      refine lv_goto (tgt := 14) hx hb d_Qd_variableBit_10 (by decide) ?_
      exact hJ_4 (1 <<< (t &&& 31)) h _ _ _ hw (lv_sub hl [] rfl)
theorem xw_394 : (Jvm.Cond.code ({ cls := "QuestionDesk", name := "variableBit", desc := "(I)I" } : Jvm.MethodName) prog_1_method_26_code (1 : Nat) (Option.some Jvm.ClassFile.FieldType.int)) ∈ xg := xg_t (i := 394) (by decide +kernel) (by decide +kernel)
theorem xw_513 : (Jvm.Cond.methodLink "QuestionDesk" (202 : Nat) ({ cls := "QuestionDesk", name := "variableBit", desc := "(I)I" } : Jvm.MethodName)) ∈ xg := xg_t (i := 513) (by decide +kernel) (by decide +kernel)
theorem xw_393 : (Jvm.Cond.static ({ cls := "QuestionDesk", name := "variableBit", desc := "(I)I" } : Jvm.MethodName)) ∈ xg := xg_t (i := 393) (by decide +kernel) (by decide +kernel)
def wp_Qd_boundOrFree (post : Int32 → Prop)  (t : Int32) (kn : Int32) : Prop :=
xj (fun (v_1 : Int32) =>
post v_1) (fun (J_2 : Int32 → Prop) =>
xj (fun (v_3 : Unit) =>
J_2 t) (fun (J_4 : Unit → Prop) =>
((t < 10 →
J_4 ()) ∧ (¬ t < 10 →
wp_Qd_variableBit (fun r_5 =>
(((r_5 &&& kn) = 0 →
J_2 (-1)) ∧ (¬ (r_5 &&& kn) = 0 →
J_4 ()))) t))))
abbrev rm_Qd_boundOrFree : Room := { frames := 2, cells := 0, slots := 0, locals := 40 }
set_option maxHeartbeats 4000000 in
set_option maxRecDepth 100000 in
theorem c_Qd_boundOrFree {l : Launch} {D : va_G} {ad : Nat → Nat} (CE : Nat → Option va_E) {cI cZ cJ cO : ClassId}    {post : Int32 → Prop} {t : Int32} {kn : Int32} (h : wp_Qd_boundOrFree post t kn) : ∀ sz, Met l y_Qd_boundOrFree (Cond.code y_Qd_boundOrFree b_Qd_boundOrFree 2 (some .int) :: xg) rm_Qd_boundOrFree (xm_Pc D xcl (xT cI cZ cJ cO) ad CE sz [.int t, .int kn]) (va_Qi (fun (r : Int32) (_ : Unit) => post r) (xm_B D xcl (xT cI cZ cJ cO) (xm_A ad CE sz) (fun _ => ad) (fun _ : Unit => CE)) (xm_A ad CE sz)) 0 0 (xm_A ad CE sz) := by
  refine xm_ofW (cc := b_Qd_boundOrFree) (maxL := 2) (ret := (some .int)) (by decide) rfl (Nat.le_of_ble_eq_true rfl) ?_
  intro p e s m args below meth c ls QQ hQQ hx hb hml hr hown hlk hnm hts hl hw
  have hl : lv_has ls 2 [(0, .int t), (1, .int kn)] := hl
  unfold wp_Qd_boundOrFree at h
  refine lv_iload_n hx hb d_Qd_boundOrFree_0 rfl (lv_at hl 0 rfl) ?_
  refine lv_bipush (v := 10) hx hb d_Qd_boundOrFree_1 (by decide) ?_
  refine xj_use h (fun (v_1 : Int32) => ∀ (H : Heap) (locs : List Loc) (ls : Array Slot), xm_W D xcl (xT cI cZ cJ cO) (xm_A ad CE s.heap.size) ad CE s s.heap H locs → lv_has ls 2 [] → W p l e rm_Qd_boundOrFree s m args below meth c H locs 0 0 QQ (F0 m 20 ls [.int v_1])) (fun v_1 h H locs ls hw hl => ?_) (fun J_2 hJ_2 h => ?_)
  · subst hQQ
    exact xm_iret hx hb hr hlk hw () rfl rfl h d_Qd_boundOrFree_20
  · refine xj_use h (fun (v_3 : Unit) => ∀ (H : Heap) (locs : List Loc) (ls : Array Slot), xm_W D xcl (xT cI cZ cJ cO) (xm_A ad CE s.heap.size) ad CE s s.heap H locs → lv_has ls 2 [(0, .int t)] → W p l e rm_Qd_boundOrFree s m args below meth c H locs 0 0 QQ (F0 m 15 ls [])) (fun v_3 h H locs ls hw hl => ?_) (fun J_4 hJ_4 h => ?_)
    · refine lv_iload_n hx hb d_Qd_boundOrFree_15 rfl (lv_at hl 0 rfl) ?_
      refine lv_goto (tgt := 20) hx hb d_Qd_boundOrFree_16 (by decide) ?_
      exact hJ_2 t h _ _ _ hw (lv_sub hl [] rfl)
    · refine lv_icmp_lt (tgt := 15) hx hb d_Qd_boundOrFree_3 (by decide) (fun hc => ?_) (fun hc => ?_)
      · have h := h.1 hc
        exact hJ_4 () h _ _ _ hw (lv_sub hl [0] rfl)
      · have h := h.2 hc
        refine lv_iload_n hx hb d_Qd_boundOrFree_6 rfl (lv_at hl 0 rfl) ?_
        refine xm_calli (ua := fun _ => ad) (va_runS (As := [.int t]) (rest := []) ⟨hx, hb, hml, hown, hts⟩ (c_Qd_variableBit (D := D) (ad := ad) (CE := (CE))   h _) (xg_cwS 1 hts xw_394 xw_513 xw_393 xw_1 rfl rfl (by decide +kernel) ⟨Nat.le_of_ble_eq_true rfl, Nat.le_of_ble_eq_true rfl⟩) (xm_pre hw _) rfl rfl hl.1 rfl (lv_room (Nat.le_of_ble_eq_true rfl)) d_Qd_boundOrFree_7 ⟨Nat.le_of_ble_eq_true rfl, Nat.le_of_ble_eq_true rfl⟩) hw (fun r_5 _ H locs h hw => ?_)
        refine lv_iload_n hx hb d_Qd_boundOrFree_10 rfl (lv_at hl 1 rfl) ?_
        refine lv_iand hx hb d_Qd_boundOrFree_11 ?_
        refine lv_if_eq (tgt := 19) hx hb d_Qd_boundOrFree_12 (by decide) (fun hc => ?_) (fun hc => ?_)
        · have h := h.1 hc
          refine lv_iconst (v := (-1)) hx hb d_Qd_boundOrFree_19 (by decide) ?_
          exact hJ_2 (-1) h _ _ _ hw (lv_sub hl [] rfl)
        · have h := h.2 hc
          exact hJ_4 () h _ _ _ hw (lv_sub hl [0] rfl)
theorem xw_86 : (Jvm.Cond.fieldLink "QuestionDesk$Rule" (9 : Nat) "QuestionDesk$Rule" "sets" "[I") ∈ xg := xg_t (i := 86) (by decide +kernel) (by decide +kernel)
theorem xw_89 : (Jvm.Cond.fieldLink "QuestionDesk$Rule" (15 : Nat) "QuestionDesk$Rule" "firsts" "[I") ∈ xg := xg_t (i := 89) (by decide +kernel) (by decide +kernel)
theorem xw_92 : (Jvm.Cond.fieldLink "QuestionDesk$Rule" (18 : Nat) "QuestionDesk$Rule" "seconds" "[I") ∈ xg := xg_t (i := 92) (by decide +kernel) (by decide +kernel)
theorem i_Ru : ∀ w ∈ u_ws R_Ru F_Ru 4, w ∈ xg := by decide +kernel
def wp_Ru_write (post : (Nat → Int32) → (Nat → Int32) → (Nat → Int32) → Prop)  (rs : Nat → Int32) (rf : Nat → Int32) (rc : Nat → Int32) (a : Int32) (k : Int32) (x : Int32) (y : Int32) : Prop :=
vp_in a 4 ∧
∀ rs_1 : Nat → Int32, rs_1 = upd rs (Int32.toNatClampNeg a) k →
vp_in a 4 ∧
∀ rf_2 : Nat → Int32, rf_2 = upd rf (Int32.toNatClampNeg a) x →
vp_in a 4 ∧
∀ rc_3 : Nat → Int32, rc_3 = upd rc (Int32.toNatClampNeg a) y →
post rs_1 rf_2 rc_3
abbrev rm_Ru_write : Room := { frames := 0, cells := 0, slots := 0, locals := 0 }
set_option maxHeartbeats 4000000 in
set_option maxRecDepth 100000 in
theorem c_Ru_write {l : Launch} {D : va_G} {ad : Nat → Nat} (CE : (Nat → Int32) → (Nat → Int32) → (Nat → Int32) → Nat → Option va_E) {cI cZ cJ cO : ClassId} {iU : Nat} {iA : Nat} {iB : Nat} {iC : Nat} {na : Int32} (k_U : ∀ (rs : Nat → Int32) (rf : Nat → Int32) (rc : Nat → Int32), (CE rs rf rc) iU = some (.inr (3, [.ref (ad iA), .ref (ad iB), .ref (ad iC), .int na]))) (k_A : ∀ (rs : Nat → Int32) (rf : Nat → Int32) (rc : Nat → Int32), (CE rs rf rc) iA = some (.inl (cI, 4, .inl rs))) (k_B : ∀ (rs : Nat → Int32) (rf : Nat → Int32) (rc : Nat → Int32), (CE rs rf rc) iB = some (.inl (cI, 4, .inl rf))) (k_C : ∀ (rs : Nat → Int32) (rf : Nat → Int32) (rc : Nat → Int32), (CE rs rf rc) iC = some (.inl (cI, 4, .inl rc))) (u_A : ∀ (rs : Nat → Int32) (rf : Nat → Int32) (rc : Nat → Int32) (rs' : Nat → Int32), va_up (CE rs rf rc) iA (some (.inl (cI, 4, .inl rs'))) = (CE rs' rf rc)) (u_B : ∀ (rs : Nat → Int32) (rf : Nat → Int32) (rc : Nat → Int32) (rf' : Nat → Int32), va_up (CE rs rf rc) iB (some (.inl (cI, 4, .inl rf'))) = (CE rs rf' rc)) (u_C : ∀ (rs : Nat → Int32) (rf : Nat → Int32) (rc : Nat → Int32) (rc' : Nat → Int32), va_up (CE rs rf rc) iC (some (.inl (cI, 4, .inl rc'))) = (CE rs rf rc')) {post : (Nat → Int32) → (Nat → Int32) → (Nat → Int32) → Prop} {rs : Nat → Int32} {rf : Nat → Int32} {rc : Nat → Int32} {a : Int32} {k : Int32} {x : Int32} {y : Int32} (h : wp_Ru_write post rs rf rc a k x y) : ∀ sz, Met l y_Ru_write (Cond.code y_Ru_write b_Ru_write 5 none :: xg) rm_Ru_write (xm_Pc D xcl (xT cI cZ cJ cO) ad (CE rs rf rc) sz [.ref (ad iU), .int a, .int k, .int x, .int y]) (va_Qv (fun u : (Nat → Int32) × (Nat → Int32) × (Nat → Int32) => post u.1 u.2.1 u.2.2) (xm_B D xcl (xT cI cZ cJ cO) (xm_A ad (CE rs rf rc) sz) (fun _ => ad) (fun u : (Nat → Int32) × (Nat → Int32) × (Nat → Int32) => CE u.1 u.2.1 u.2.2)) (xm_A ad (CE rs rf rc) sz)) 0 0 (xm_A ad (CE rs rf rc) sz) := by
  refine xm_ofW (cc := b_Ru_write) (maxL := 5) (ret := none) (by decide) rfl (Nat.le_of_ble_eq_true rfl) ?_
  intro p e s m args below meth c ls QQ hQQ hx hb hml hr hown hlk hnm hts hl hw
  have hl : lv_has ls 5 [(0, .ref (ad iU)), (1, .int a), (2, .int k), (3, .int x), (4, .int y)] := hl
  unfold wp_Ru_write at h
  refine lv_aload_n hx hb d_Ru_write_0 rfl (lv_at hl 0 rfl) ?_
  refine xm_get (D := D) (v := .ref (ad iA)) (C := R_Ru) (T := F_Ru) (N := 4) hx hb hts (fun w h => List.mem_cons_of_mem _ (i_Ru w h)) hown hw (k_U rs rf rc) rfl 0 (by decide) (hts _ (List.mem_cons_of_mem _ xw_86)) (fun _ h9 => h9) rfl d_Ru_write_1 ?_
  refine lv_iload_n hx hb d_Ru_write_4 rfl (lv_at hl 1 rfl) ?_
  refine lv_iload_n hx hb d_Ru_write_5 rfl (lv_at hl 2 rfl) ?_
  obtain ⟨hin, h⟩ := h
  refine xm_iast hx hb hw 0 (k_A rs rf rc) rfl hin d_Ru_write_6 (fun H locs hw => ?_)
  have hw : xm_W D xcl (xT cI cZ cJ cO) (xm_A ad (CE rs rf rc) s.heap.size) ad (CE (upd rs (Int32.toNatClampNeg a) k) rf rc) s s.heap H locs := xm_W.cast (u_A rs rf rc (upd rs (Int32.toNatClampNeg a) k)) hw
  obtain ⟨rs_1, ers_1⟩ : ∃ z : Nat → Int32, z = upd rs (Int32.toNatClampNeg a) k := ⟨_, rfl⟩
  have h := h rs_1 ers_1
  rw [← ers_1] at hw
  refine lv_aload_n hx hb d_Ru_write_7 rfl (lv_at hl 0 rfl) ?_
  refine xm_get (D := D) (v := .ref (ad iB)) (C := R_Ru) (T := F_Ru) (N := 4) hx hb hts (fun w h => List.mem_cons_of_mem _ (i_Ru w h)) hown hw (k_U rs_1 rf rc) rfl 1 (by decide) (hts _ (List.mem_cons_of_mem _ xw_89)) (fun _ h9 => h9) rfl d_Ru_write_8 ?_
  refine lv_iload_n hx hb d_Ru_write_11 rfl (lv_at hl 1 rfl) ?_
  refine lv_iload_n hx hb d_Ru_write_12 rfl (lv_at hl 3 rfl) ?_
  obtain ⟨hin, h⟩ := h
  refine xm_iast hx hb hw 0 (k_B rs_1 rf rc) rfl hin d_Ru_write_13 (fun H locs hw => ?_)
  have hw : xm_W D xcl (xT cI cZ cJ cO) (xm_A ad (CE rs rf rc) s.heap.size) ad (CE rs_1 (upd rf (Int32.toNatClampNeg a) x) rc) s s.heap H locs := xm_W.cast (u_B rs_1 rf rc (upd rf (Int32.toNatClampNeg a) x)) hw
  obtain ⟨rf_2, erf_2⟩ : ∃ z : Nat → Int32, z = upd rf (Int32.toNatClampNeg a) x := ⟨_, rfl⟩
  have h := h rf_2 erf_2
  rw [← erf_2] at hw
  refine lv_aload_n hx hb d_Ru_write_14 rfl (lv_at hl 0 rfl) ?_
  refine xm_get (D := D) (v := .ref (ad iC)) (C := R_Ru) (T := F_Ru) (N := 4) hx hb hts (fun w h => List.mem_cons_of_mem _ (i_Ru w h)) hown hw (k_U rs_1 rf_2 rc) rfl 2 (by decide) (hts _ (List.mem_cons_of_mem _ xw_92)) (fun _ h9 => h9) rfl d_Ru_write_15 ?_
  refine lv_iload_n hx hb d_Ru_write_18 rfl (lv_at hl 1 rfl) ?_
  refine lv_iload hx hb d_Ru_write_19 (lv_at hl 4 rfl) ?_
  obtain ⟨hin, h⟩ := h
  refine xm_iast hx hb hw 0 (k_C rs_1 rf_2 rc) rfl hin d_Ru_write_21 (fun H locs hw => ?_)
  have hw : xm_W D xcl (xT cI cZ cJ cO) (xm_A ad (CE rs rf rc) s.heap.size) ad (CE rs_1 rf_2 (upd rc (Int32.toNatClampNeg a) y)) s s.heap H locs := xm_W.cast (u_C rs_1 rf_2 rc (upd rc (Int32.toNatClampNeg a) y)) hw
  obtain ⟨rc_3, erc_3⟩ : ∃ z : Nat → Int32, z = upd rc (Int32.toNatClampNeg a) y := ⟨_, rfl⟩
  have h := h rc_3 erc_3
  rw [← erc_3] at hw
  subst hQQ
  exact xm_vret hx hb hr hlk hw (rs_1, rf_2, rc_3) rfl rfl h d_Ru_write_22
theorem xw_95 : (Jvm.Cond.fieldLink "QuestionDesk$Rule" (21 : Nat) "QuestionDesk$Rule" "atoms" "I") ∈ xg := xg_t (i := 95) (by decide +kernel) (by decide +kernel)
theorem xw_347 : (Jvm.Cond.code ({ cls := "QuestionDesk$Rule", name := "write", desc := "(IIII)V" } : Jvm.MethodName) prog_4_method_5_code (5 : Nat) (Option.none : Option Jvm.ClassFile.FieldType)) ∈ xg := xg_t (i := 347) (by decide +kernel) (by decide +kernel)
theorem xw_7 : (Jvm.Cond.initialized "QuestionDesk$Rule") ∈ xg := xg_t (i := 7) (by decide +kernel) (by decide +kernel)
theorem xw_344 : (Jvm.Cond.methodLink "QuestionDesk$Rule" (25 : Nat) ({ cls := "QuestionDesk$Rule", name := "write", desc := "(IIII)V" } : Jvm.MethodName)) ∈ xg := xg_t (i := 344) (by decide +kernel) (by decide +kernel)
theorem xw_346 : (Jvm.Cond.instanceMethod ({ cls := "QuestionDesk$Rule", name := "write", desc := "(IIII)V" } : Jvm.MethodName)) ∈ xg := xg_t (i := 346) (by decide +kernel) (by decide +kernel)
theorem xw_p9 : Cond.selects "QuestionDesk$Rule" ⟨"QuestionDesk$Rule", "write", "(IIII)V"⟩ ⟨"QuestionDesk$Rule", "write", "(IIII)V"⟩ ∈ xg := xg_p (q := (⟨"QuestionDesk$Rule", "write", "(IIII)V"⟩, 4)) (i := 9) (by decide +kernel) (by decide +kernel)
def wp_Ru_begin (post : (Nat → Int32) → (Nat → Int32) → (Nat → Int32) → Int32 → Prop)  (rs : Nat → Int32) (rf : Nat → Int32) (rc : Nat → Int32) (na : Int32) (k : Int32) (x : Int32) (y : Int32) : Prop :=
wp_Ru_write (fun rs_3 rf_4 rc_5 =>
post rs_3 rf_4 rc_5 0) rs rf rc 0 k x y
abbrev rm_Ru_begin : Room := { frames := 1, cells := 0, slots := 0, locals := 24 }
set_option maxHeartbeats 4000000 in
set_option maxRecDepth 100000 in
theorem c_Ru_begin {l : Launch} {D : va_G} {ad : Nat → Nat} (CE : (Nat → Int32) → (Nat → Int32) → (Nat → Int32) → Int32 → Nat → Option va_E) {cI cZ cJ cO : ClassId} {iU : Nat} {iA : Nat} {iB : Nat} {iC : Nat}  (k_U : ∀ (rs : Nat → Int32) (rf : Nat → Int32) (rc : Nat → Int32) (na : Int32), (CE rs rf rc na) iU = some (.inr (3, [.ref (ad iA), .ref (ad iB), .ref (ad iC), .int na]))) (k_A : ∀ (rs : Nat → Int32) (rf : Nat → Int32) (rc : Nat → Int32) (na : Int32), (CE rs rf rc na) iA = some (.inl (cI, 4, .inl rs))) (k_B : ∀ (rs : Nat → Int32) (rf : Nat → Int32) (rc : Nat → Int32) (na : Int32), (CE rs rf rc na) iB = some (.inl (cI, 4, .inl rf))) (k_C : ∀ (rs : Nat → Int32) (rf : Nat → Int32) (rc : Nat → Int32) (na : Int32), (CE rs rf rc na) iC = some (.inl (cI, 4, .inl rc))) (u_U : ∀ (rs : Nat → Int32) (rf : Nat → Int32) (rc : Nat → Int32) (na : Int32) (na' : Int32), va_up (CE rs rf rc na) iU (some (.inr (3, [.ref (ad iA), .ref (ad iB), .ref (ad iC), .int na']))) = (CE rs rf rc na')) (u_A : ∀ (rs : Nat → Int32) (rf : Nat → Int32) (rc : Nat → Int32) (na : Int32) (rs' : Nat → Int32), va_up (CE rs rf rc na) iA (some (.inl (cI, 4, .inl rs'))) = (CE rs' rf rc na)) (u_B : ∀ (rs : Nat → Int32) (rf : Nat → Int32) (rc : Nat → Int32) (na : Int32) (rf' : Nat → Int32), va_up (CE rs rf rc na) iB (some (.inl (cI, 4, .inl rf'))) = (CE rs rf' rc na)) (u_C : ∀ (rs : Nat → Int32) (rf : Nat → Int32) (rc : Nat → Int32) (na : Int32) (rc' : Nat → Int32), va_up (CE rs rf rc na) iC (some (.inl (cI, 4, .inl rc'))) = (CE rs rf rc' na)) {post : (Nat → Int32) → (Nat → Int32) → (Nat → Int32) → Int32 → Prop} {rs : Nat → Int32} {rf : Nat → Int32} {rc : Nat → Int32} {na : Int32} {k : Int32} {x : Int32} {y : Int32} (h : wp_Ru_begin post rs rf rc na k x y) : ∀ sz, Met l y_Ru_begin (Cond.code y_Ru_begin b_Ru_begin 4 none :: xg) rm_Ru_begin (xm_Pc D xcl (xT cI cZ cJ cO) ad (CE rs rf rc na) sz [.ref (ad iU), .int k, .int x, .int y]) (va_Qv (fun u : (Nat → Int32) × (Nat → Int32) × (Nat → Int32) × Int32 => post u.1 u.2.1 u.2.2.1 u.2.2.2) (xm_B D xcl (xT cI cZ cJ cO) (xm_A ad (CE rs rf rc na) sz) (fun _ => ad) (fun u : (Nat → Int32) × (Nat → Int32) × (Nat → Int32) × Int32 => CE u.1 u.2.1 u.2.2.1 u.2.2.2)) (xm_A ad (CE rs rf rc na) sz)) 0 0 (xm_A ad (CE rs rf rc na) sz) := by
  refine xm_ofW (cc := b_Ru_begin) (maxL := 4) (ret := none) (by decide) rfl (Nat.le_of_ble_eq_true rfl) ?_
  intro p e s m args below meth c ls QQ hQQ hx hb hml hr hown hlk hnm hts hl hw
  have hl : lv_has ls 4 [(0, .ref (ad iU)), (1, .int k), (2, .int x), (3, .int y)] := hl
  unfold wp_Ru_begin at h
  refine lv_aload_n hx hb d_Ru_begin_0 rfl (lv_at hl 0 rfl) ?_
  refine lv_iconst (v := 0) hx hb d_Ru_begin_1 (by decide) ?_
  refine xm_put (D := D) (v := .int 0) (ty := .int) (C := R_Ru) (T := F_Ru) (N := 4) hx hb hts (fun w h => List.mem_cons_of_mem _ (i_Ru w h)) t_Ru o_Ru n_Ru hown hw (k_U rs rf rc na) rfl 3 (by decide) (hts _ (List.mem_cons_of_mem _ xw_95)) (fun _ h9 => h9) rfl (by decide +kernel) rfl rfl (Nat.le_of_ble_eq_true rfl) d_Ru_begin_2 (fun H locs hw => ?_)
  have hw : xm_W D xcl (xT cI cZ cJ cO) (xm_A ad (CE rs rf rc na) s.heap.size) ad (CE rs rf rc 0) s s.heap H locs := xm_W.cast (u_U rs rf rc na 0) hw
  refine lv_aload_n hx hb d_Ru_begin_5 rfl (lv_at hl 0 rfl) ?_
  refine lv_iconst (v := 0) hx hb d_Ru_begin_6 (by decide) ?_
  refine lv_iload_n hx hb d_Ru_begin_7 rfl (lv_at hl 1 rfl) ?_
  refine lv_iload_n hx hb d_Ru_begin_8 rfl (lv_at hl 2 rfl) ?_
  refine lv_iload_n hx hb d_Ru_begin_9 rfl (lv_at hl 3 rfl) ?_
  refine xm_callv (ua := fun _ => ad) (va_runV (As := [.int 0, .int k, .int x, .int y]) (rest := []) ⟨hx, hb, hml, hown, hts⟩ (c_Ru_write (D := D) (ad := ad) (CE := (fun rs rf rc => (CE rs rf rc 0)))  (fun rs rf rc => k_U rs rf rc 0) (fun rs rf rc => k_A rs rf rc 0) (fun rs rf rc => k_B rs rf rc 0) (fun rs rf rc => k_C rs rf rc 0) (fun rs rf rc rs' => u_A rs rf rc 0 rs') (fun rs rf rc rf' => u_B rs rf rc 0 rf') (fun rs rf rc rc' => u_C rs rf rc 0 rc') h _) (xg_cwV 4 hts xw_347 xw_344 xw_346 xw_p9 xw_7 rfl rfl (by decide +kernel) ⟨Nat.le_of_ble_eq_true rfl, Nat.le_of_ble_eq_true rfl⟩) (xm_preV hw (k_U rs rf rc 0) rfl _) rfl rfl hl.1 rfl (lv_room (Nat.le_of_ble_eq_true rfl)) d_Ru_begin_10 ⟨Nat.le_of_ble_eq_true rfl, Nat.le_of_ble_eq_true rfl⟩) hw (fun u_2 H locs h hw => ?_)
  obtain ⟨rs_3, ers_3⟩ : ∃ z, z = u_2.1 := ⟨_, rfl⟩
  obtain ⟨rf_4, erf_4⟩ : ∃ z, z = u_2.2.1 := ⟨_, rfl⟩
  obtain ⟨rc_5, erc_5⟩ : ∃ z, z = u_2.2.2 := ⟨_, rfl⟩
  try dsimp only at h hw
  rw [← ers_3, ← erf_4, ← erc_5] at h hw
  subst hQQ
  exact xm_vret hx hb hr hlk hw (rs_3, rf_4, rc_5, 0) rfl rfl h d_Ru_begin_13
def wp_Ru_append (post : (Nat → Int32) → (Nat → Int32) → (Nat → Int32) → Int32 → Prop)  (rs : Nat → Int32) (rf : Nat → Int32) (rc : Nat → Int32) (na : Int32) (k : Int32) (x : Int32) (y : Int32) : Prop :=
xj (fun (v_1 : (Nat → Int32) × (Nat → Int32) × (Nat → Int32) × Int32) =>
post v_1.1 v_1.2.1 v_1.2.2.1 v_1.2.2.2) (fun (J_2 : (Nat → Int32) × (Nat → Int32) × (Nat → Int32) × Int32 → Prop) =>
((3 ≤ na →
J_2 (rs, rf, rc, na)) ∧ (¬ 3 ≤ na →
wp_Ru_write (fun rs_5 rf_6 rc_7 =>
J_2 (rs_5, rf_6, rc_7, na + 1)) rs rf rc (na + 1) k x y)))
abbrev rm_Ru_append : Room := { frames := 1, cells := 0, slots := 0, locals := 24 }
set_option maxHeartbeats 4000000 in
set_option maxRecDepth 100000 in
theorem c_Ru_append {l : Launch} {D : va_G} {ad : Nat → Nat} (CE : (Nat → Int32) → (Nat → Int32) → (Nat → Int32) → Int32 → Nat → Option va_E) {cI cZ cJ cO : ClassId} {iU : Nat} {iA : Nat} {iB : Nat} {iC : Nat}  (k_U : ∀ (rs : Nat → Int32) (rf : Nat → Int32) (rc : Nat → Int32) (na : Int32), (CE rs rf rc na) iU = some (.inr (3, [.ref (ad iA), .ref (ad iB), .ref (ad iC), .int na]))) (k_A : ∀ (rs : Nat → Int32) (rf : Nat → Int32) (rc : Nat → Int32) (na : Int32), (CE rs rf rc na) iA = some (.inl (cI, 4, .inl rs))) (k_B : ∀ (rs : Nat → Int32) (rf : Nat → Int32) (rc : Nat → Int32) (na : Int32), (CE rs rf rc na) iB = some (.inl (cI, 4, .inl rf))) (k_C : ∀ (rs : Nat → Int32) (rf : Nat → Int32) (rc : Nat → Int32) (na : Int32), (CE rs rf rc na) iC = some (.inl (cI, 4, .inl rc))) (u_U : ∀ (rs : Nat → Int32) (rf : Nat → Int32) (rc : Nat → Int32) (na : Int32) (na' : Int32), va_up (CE rs rf rc na) iU (some (.inr (3, [.ref (ad iA), .ref (ad iB), .ref (ad iC), .int na']))) = (CE rs rf rc na')) (u_A : ∀ (rs : Nat → Int32) (rf : Nat → Int32) (rc : Nat → Int32) (na : Int32) (rs' : Nat → Int32), va_up (CE rs rf rc na) iA (some (.inl (cI, 4, .inl rs'))) = (CE rs' rf rc na)) (u_B : ∀ (rs : Nat → Int32) (rf : Nat → Int32) (rc : Nat → Int32) (na : Int32) (rf' : Nat → Int32), va_up (CE rs rf rc na) iB (some (.inl (cI, 4, .inl rf'))) = (CE rs rf' rc na)) (u_C : ∀ (rs : Nat → Int32) (rf : Nat → Int32) (rc : Nat → Int32) (na : Int32) (rc' : Nat → Int32), va_up (CE rs rf rc na) iC (some (.inl (cI, 4, .inl rc'))) = (CE rs rf rc' na)) {post : (Nat → Int32) → (Nat → Int32) → (Nat → Int32) → Int32 → Prop} {rs : Nat → Int32} {rf : Nat → Int32} {rc : Nat → Int32} {na : Int32} {k : Int32} {x : Int32} {y : Int32} (h : wp_Ru_append post rs rf rc na k x y) : ∀ sz, Met l y_Ru_append (Cond.code y_Ru_append b_Ru_append 4 none :: xg) rm_Ru_append (xm_Pc D xcl (xT cI cZ cJ cO) ad (CE rs rf rc na) sz [.ref (ad iU), .int k, .int x, .int y]) (va_Qv (fun u : (Nat → Int32) × (Nat → Int32) × (Nat → Int32) × Int32 => post u.1 u.2.1 u.2.2.1 u.2.2.2) (xm_B D xcl (xT cI cZ cJ cO) (xm_A ad (CE rs rf rc na) sz) (fun _ => ad) (fun u : (Nat → Int32) × (Nat → Int32) × (Nat → Int32) × Int32 => CE u.1 u.2.1 u.2.2.1 u.2.2.2)) (xm_A ad (CE rs rf rc na) sz)) 0 0 (xm_A ad (CE rs rf rc na) sz) := by
  refine xm_ofW (cc := b_Ru_append) (maxL := 4) (ret := none) (by decide) rfl (Nat.le_of_ble_eq_true rfl) ?_
  intro p e s m args below meth c ls QQ hQQ hx hb hml hr hown hlk hnm hts hl hw
  have hl : lv_has ls 4 [(0, .ref (ad iU)), (1, .int k), (2, .int x), (3, .int y)] := hl
  unfold wp_Ru_append at h
  refine lv_aload_n hx hb d_Ru_append_0 rfl (lv_at hl 0 rfl) ?_
  refine xm_get (D := D) (v := .int na) (C := R_Ru) (T := F_Ru) (N := 4) hx hb hts (fun w h => List.mem_cons_of_mem _ (i_Ru w h)) hown hw (k_U rs rf rc na) rfl 3 (by decide) (hts _ (List.mem_cons_of_mem _ xw_95)) (fun _ h9 => h9) rfl d_Ru_append_1 ?_
  refine lv_iconst (v := 3) hx hb d_Ru_append_4 (by decide) ?_
  refine xj_use h (fun (v_1 : (Nat → Int32) × (Nat → Int32) × (Nat → Int32) × Int32) => ∀ (H : Heap) (locs : List Loc) (ls : Array Slot), xm_W D xcl (xT cI cZ cJ cO) (xm_A ad (CE rs rf rc na) s.heap.size) ad (CE v_1.1 v_1.2.1 v_1.2.2.1 v_1.2.2.2) s s.heap H locs → lv_has ls 4 [] → W p l e rm_Ru_append s m args below meth c H locs 0 0 QQ (F0 m 29 ls [])) (fun v_1 h H locs ls hw hl => ?_) (fun J_2 hJ_2 h => ?_)
  · subst hQQ
    exact xm_vret hx hb hr hlk hw (v_1.1, v_1.2.1, v_1.2.2.1, v_1.2.2.2) rfl rfl h d_Ru_append_29
  · refine lv_icmp_ge (tgt := 29) hx hb d_Ru_append_5 (by decide) (fun hc => ?_) (fun hc => ?_)
    · have h := h.1 hc
      exact hJ_2 (rs, rf, rc, na) h _ _ _ hw (lv_sub hl [] rfl)
    · have h := h.2 hc
      refine lv_aload_n hx hb d_Ru_append_8 rfl (lv_at hl 0 rfl) ?_
      refine lv_dup hx hb d_Ru_append_9 rfl ?_
      refine xm_get (D := D) (v := .int na) (C := R_Ru) (T := F_Ru) (N := 4) hx hb hts (fun w h => List.mem_cons_of_mem _ (i_Ru w h)) hown hw (k_U rs rf rc na) rfl 3 (by decide) (hts _ (List.mem_cons_of_mem _ xw_95)) (fun _ h9 => h9) rfl d_Ru_append_10 ?_
      refine lv_iconst (v := 1) hx hb d_Ru_append_13 (by decide) ?_
      refine lv_iadd hx hb d_Ru_append_14 ?_
      refine xm_put (D := D) (v := .int (na + 1)) (ty := .int) (C := R_Ru) (T := F_Ru) (N := 4) hx hb hts (fun w h => List.mem_cons_of_mem _ (i_Ru w h)) t_Ru o_Ru n_Ru hown hw (k_U rs rf rc na) rfl 3 (by decide) (hts _ (List.mem_cons_of_mem _ xw_95)) (fun _ h9 => h9) rfl (by decide +kernel) rfl rfl (Nat.le_of_ble_eq_true rfl) d_Ru_append_15 (fun H locs hw => ?_)
      have hw : xm_W D xcl (xT cI cZ cJ cO) (xm_A ad (CE rs rf rc na) s.heap.size) ad (CE rs rf rc (na + 1)) s s.heap H locs := xm_W.cast (u_U rs rf rc na (na + 1)) hw
      refine lv_aload_n hx hb d_Ru_append_18 rfl (lv_at hl 0 rfl) ?_
      refine lv_aload_n hx hb d_Ru_append_19 rfl (lv_at hl 0 rfl) ?_
      refine xm_get (D := D) (v := .int (na + 1)) (C := R_Ru) (T := F_Ru) (N := 4) hx hb hts (fun w h => List.mem_cons_of_mem _ (i_Ru w h)) hown hw (k_U rs rf rc (na + 1)) rfl 3 (by decide) (hts _ (List.mem_cons_of_mem _ xw_95)) (fun _ h9 => h9) rfl d_Ru_append_20 ?_
      refine lv_iload_n hx hb d_Ru_append_23 rfl (lv_at hl 1 rfl) ?_
      refine lv_iload_n hx hb d_Ru_append_24 rfl (lv_at hl 2 rfl) ?_
      refine lv_iload_n hx hb d_Ru_append_25 rfl (lv_at hl 3 rfl) ?_
      refine xm_callv (ua := fun _ => ad) (va_runV (As := [.int (na + 1), .int k, .int x, .int y]) (rest := []) ⟨hx, hb, hml, hown, hts⟩ (c_Ru_write (D := D) (ad := ad) (CE := (fun rs rf rc => (CE rs rf rc (na + 1))))  (fun rs rf rc => k_U rs rf rc (na + 1)) (fun rs rf rc => k_A rs rf rc (na + 1)) (fun rs rf rc => k_B rs rf rc (na + 1)) (fun rs rf rc => k_C rs rf rc (na + 1)) (fun rs rf rc rs' => u_A rs rf rc (na + 1) rs') (fun rs rf rc rf' => u_B rs rf rc (na + 1) rf') (fun rs rf rc rc' => u_C rs rf rc (na + 1) rc') h _) (xg_cwV 4 hts xw_347 xw_344 xw_346 xw_p9 xw_7 rfl rfl (by decide +kernel) ⟨Nat.le_of_ble_eq_true rfl, Nat.le_of_ble_eq_true rfl⟩) (xm_preV hw (k_U rs rf rc (na + 1)) rfl _) rfl rfl hl.1 rfl (lv_room (Nat.le_of_ble_eq_true rfl)) d_Ru_append_26 ⟨Nat.le_of_ble_eq_true rfl, Nat.le_of_ble_eq_true rfl⟩) hw (fun u_4 H locs h hw => ?_)
      obtain ⟨rs_5, ers_5⟩ : ∃ z, z = u_4.1 := ⟨_, rfl⟩
      obtain ⟨rf_6, erf_6⟩ : ∃ z, z = u_4.2.1 := ⟨_, rfl⟩
      obtain ⟨rc_7, erc_7⟩ : ∃ z, z = u_4.2.2 := ⟨_, rfl⟩
      try dsimp only at h hw
      rw [← ers_5, ← erf_6, ← erc_7] at h hw
      exact hJ_2 (rs_5, rf_6, rc_7, na + 1) h _ _ _ hw (lv_sub hl [] rfl)
theorem xw_375 : (Jvm.Cond.code ({ cls := "QuestionDesk$Rule", name := "append", desc := "(III)V" } : Jvm.MethodName) prog_4_method_3_code (4 : Nat) (Option.none : Option Jvm.ClassFile.FieldType)) ∈ xg := xg_t (i := 375) (by decide +kernel) (by decide +kernel)
theorem xw_530 : (Jvm.Cond.methodLink "QuestionDesk$Rule" (29 : Nat) ({ cls := "QuestionDesk$Rule", name := "append", desc := "(III)V" } : Jvm.MethodName)) ∈ xg := xg_t (i := 530) (by decide +kernel) (by decide +kernel)
theorem xw_373 : (Jvm.Cond.instanceMethod ({ cls := "QuestionDesk$Rule", name := "append", desc := "(III)V" } : Jvm.MethodName)) ∈ xg := xg_t (i := 373) (by decide +kernel) (by decide +kernel)
theorem xw_374 : (Jvm.Cond.selects "QuestionDesk$Rule" ({ cls := "QuestionDesk$Rule", name := "append", desc := "(III)V" } : Jvm.MethodName) ({ cls := "QuestionDesk$Rule", name := "append", desc := "(III)V" } : Jvm.MethodName)) ∈ xg := xg_t (i := 374) (by decide +kernel) (by decide +kernel)
def wp_Ru_appendBefore (post : (Nat → Int32) → (Nat → Int32) → (Nat → Int32) → Int32 → Prop)  (ors : Nat → Int32) (orf : Nat → Int32) (orc : Nat → Int32) (ona : Int32) (rs : Nat → Int32) (rf : Nat → Int32) (rc : Nat → Int32) (na : Int32) (en : Int32) : Prop :=
xL (fun (K_2 : Int32 × (Nat → Int32) × (Nat → Int32) × (Nat → Int32) × Int32 → Prop) (v_1 : Int32 × (Nat → Int32) × (Nat → Int32) × (Nat → Int32) × Int32) =>
xj (fun (v_3 : Unit) =>
post v_1.2.1 v_1.2.2.1 v_1.2.2.2.1 v_1.2.2.2.2) (fun (J_4 : Unit → Prop) =>
((en ≤ v_1.1 →
J_4 ()) ∧ (¬ en ≤ v_1.1 →
((ona < v_1.1 →
J_4 ()) ∧ (¬ ona < v_1.1 →
vp_in v_1.1 4 ∧
vp_in v_1.1 4 ∧
vp_in v_1.1 4 ∧
wp_Ru_append (fun rs_7 rf_8 rc_9 na_10 =>
∀ x_11 : Int32, x_11 = v_1.1 + 1 →
K_2 (x_11, rs_7, rf_8, rc_9, na_10)) v_1.2.1 v_1.2.2.1 v_1.2.2.2.1 v_1.2.2.2.2 (ors (Int32.toNatClampNeg v_1.1)) (orf (Int32.toNatClampNeg v_1.1)) (orc (Int32.toNatClampNeg v_1.1)))))))) (1, rs, rf, rc, na)
abbrev rm_Ru_appendBefore : Room := { frames := 2, cells := 0, slots := 0, locals := 47 }
set_option maxHeartbeats 4000000 in
set_option maxRecDepth 100000 in
theorem c_Ru_appendBefore {l : Launch} {D : va_G} {ad : Nat → Nat} (CE : (Nat → Int32) → (Nat → Int32) → (Nat → Int32) → Int32 → Nat → Option va_E) {cI cZ cJ cO : ClassId} {iU : Nat} {iA : Nat} {iB : Nat} {iC : Nat} {ioU : Nat} {ioA : Nat} {ioB : Nat} {ioC : Nat} {ors : Nat → Int32} {orf : Nat → Int32} {orc : Nat → Int32} {ona : Int32} (k_U : ∀ (rs : Nat → Int32) (rf : Nat → Int32) (rc : Nat → Int32) (na : Int32), (CE rs rf rc na) iU = some (.inr (3, [.ref (ad iA), .ref (ad iB), .ref (ad iC), .int na]))) (k_A : ∀ (rs : Nat → Int32) (rf : Nat → Int32) (rc : Nat → Int32) (na : Int32), (CE rs rf rc na) iA = some (.inl (cI, 4, .inl rs))) (k_B : ∀ (rs : Nat → Int32) (rf : Nat → Int32) (rc : Nat → Int32) (na : Int32), (CE rs rf rc na) iB = some (.inl (cI, 4, .inl rf))) (k_C : ∀ (rs : Nat → Int32) (rf : Nat → Int32) (rc : Nat → Int32) (na : Int32), (CE rs rf rc na) iC = some (.inl (cI, 4, .inl rc))) (k_oU : ∀ (rs : Nat → Int32) (rf : Nat → Int32) (rc : Nat → Int32) (na : Int32), (CE rs rf rc na) ioU = some (.inr (3, [.ref (ad ioA), .ref (ad ioB), .ref (ad ioC), .int ona]))) (k_oA : ∀ (rs : Nat → Int32) (rf : Nat → Int32) (rc : Nat → Int32) (na : Int32), (CE rs rf rc na) ioA = some (.inl (cI, 4, .inl ors))) (k_oB : ∀ (rs : Nat → Int32) (rf : Nat → Int32) (rc : Nat → Int32) (na : Int32), (CE rs rf rc na) ioB = some (.inl (cI, 4, .inl orf))) (k_oC : ∀ (rs : Nat → Int32) (rf : Nat → Int32) (rc : Nat → Int32) (na : Int32), (CE rs rf rc na) ioC = some (.inl (cI, 4, .inl orc))) (u_U : ∀ (rs : Nat → Int32) (rf : Nat → Int32) (rc : Nat → Int32) (na : Int32) (na' : Int32), va_up (CE rs rf rc na) iU (some (.inr (3, [.ref (ad iA), .ref (ad iB), .ref (ad iC), .int na']))) = (CE rs rf rc na')) (u_A : ∀ (rs : Nat → Int32) (rf : Nat → Int32) (rc : Nat → Int32) (na : Int32) (rs' : Nat → Int32), va_up (CE rs rf rc na) iA (some (.inl (cI, 4, .inl rs'))) = (CE rs' rf rc na)) (u_B : ∀ (rs : Nat → Int32) (rf : Nat → Int32) (rc : Nat → Int32) (na : Int32) (rf' : Nat → Int32), va_up (CE rs rf rc na) iB (some (.inl (cI, 4, .inl rf'))) = (CE rs rf' rc na)) (u_C : ∀ (rs : Nat → Int32) (rf : Nat → Int32) (rc : Nat → Int32) (na : Int32) (rc' : Nat → Int32), va_up (CE rs rf rc na) iC (some (.inl (cI, 4, .inl rc'))) = (CE rs rf rc' na)) {post : (Nat → Int32) → (Nat → Int32) → (Nat → Int32) → Int32 → Prop} {rs : Nat → Int32} {rf : Nat → Int32} {rc : Nat → Int32} {na : Int32} {en : Int32} (h : wp_Ru_appendBefore post ors orf orc ona rs rf rc na en) : ∀ sz, Met l y_Ru_appendBefore (Cond.code y_Ru_appendBefore b_Ru_appendBefore 4 none :: xg) rm_Ru_appendBefore (xm_Pc D xcl (xT cI cZ cJ cO) ad (CE rs rf rc na) sz [.ref (ad iU), .ref (ad ioU), .int en]) (va_Qv (fun u : (Nat → Int32) × (Nat → Int32) × (Nat → Int32) × Int32 => post u.1 u.2.1 u.2.2.1 u.2.2.2) (xm_B D xcl (xT cI cZ cJ cO) (xm_A ad (CE rs rf rc na) sz) (fun _ => ad) (fun u : (Nat → Int32) × (Nat → Int32) × (Nat → Int32) × Int32 => CE u.1 u.2.1 u.2.2.1 u.2.2.2)) (xm_A ad (CE rs rf rc na) sz)) 0 0 (xm_A ad (CE rs rf rc na) sz) := by
  refine xm_ofW (cc := b_Ru_appendBefore) (maxL := 4) (ret := none) (by decide) rfl (Nat.le_of_ble_eq_true rfl) ?_
  intro p e s m args below meth c ls QQ hQQ hx hb hml hr hown hlk hnm hts hl hw
  have hl : lv_has ls 4 [(0, .ref (ad iU)), (1, .ref (ad ioU)), (2, .int en)] := hl
  unfold wp_Ru_appendBefore at h
  refine lv_iconst (v := 1) hx hb d_Ru_appendBefore_0 (by decide) ?_
  refine lv_istore_n (lv' := [(3, .int 1), (0, .ref (ad iU)), (1, .ref (ad ioU)), (2, .int en)]) hx hb d_Ru_appendBefore_1 rfl hl (by decide) rfl (fun ls hl => ?_)
  refine xL_use h (fun (v_1 : Int32 × (Nat → Int32) × (Nat → Int32) × (Nat → Int32) × Int32) => ∀ (H : Heap) (locs : List Loc) (ls : Array Slot), xm_W D xcl (xT cI cZ cJ cO) (xm_A ad (CE rs rf rc na) s.heap.size) ad (CE v_1.2.1 v_1.2.2.1 v_1.2.2.2.1 v_1.2.2.2.2) s s.heap H locs → lv_has ls 4 [(3, .int v_1.1), (0, .ref (ad iU)), (1, .ref (ad ioU)), (2, .int en)] → W p l e rm_Ru_appendBefore s m args below meth c H locs 0 0 QQ (F0 m 2 ls [])) (fun K_2 hK_2 v_1 h H locs ls hw hl => ?_) _ _ _ hw (lv_sub hl [0, 1, 2, 3] rfl)
  refine lv_iload_n hx hb d_Ru_appendBefore_2 rfl (lv_at hl 0 rfl) ?_
  refine lv_iload_n hx hb d_Ru_appendBefore_3 rfl (lv_at hl 3 rfl) ?_
  refine xj_use h (fun (v_3 : Unit) => ∀ (H : Heap) (locs : List Loc) (ls : Array Slot), xm_W D xcl (xT cI cZ cJ cO) (xm_A ad (CE rs rf rc na) s.heap.size) ad (CE v_1.2.1 v_1.2.2.1 v_1.2.2.2.1 v_1.2.2.2.2) s s.heap H locs → lv_has ls 4 [] → W p l e rm_Ru_appendBefore s m args below meth c H locs 0 0 QQ (F0 m 43 ls [])) (fun v_3 h H locs ls hw hl => ?_) (fun J_4 hJ_4 h => ?_)
  · subst hQQ
    exact xm_vret hx hb hr hlk hw (v_1.2.1, v_1.2.2.1, v_1.2.2.2.1, v_1.2.2.2.2) rfl rfl h d_Ru_appendBefore_43
  · refine lv_icmp_ge (tgt := 43) hx hb d_Ru_appendBefore_4 (by decide) (fun hc => ?_) (fun hc => ?_)
    · have h := h.1 hc
      exact hJ_4 () h _ _ _ hw (lv_sub hl [] rfl)
    · have h := h.2 hc
      refine lv_iload_n hx hb d_Ru_appendBefore_7 rfl (lv_at hl 0 rfl) ?_
      refine lv_aload_n hx hb d_Ru_appendBefore_8 rfl (lv_at hl 2 rfl) ?_
      refine xm_get (D := D) (v := .int ona) (C := R_Ru) (T := F_Ru) (N := 4) hx hb hts (fun w h => List.mem_cons_of_mem _ (i_Ru w h)) hown hw (k_oU v_1.2.1 v_1.2.2.1 v_1.2.2.2.1 v_1.2.2.2.2) rfl 3 (by decide) (hts _ (List.mem_cons_of_mem _ xw_95)) (fun _ h9 => h9) rfl d_Ru_appendBefore_9 ?_
      refine lv_icmp_gt (tgt := 43) hx hb d_Ru_appendBefore_12 (by decide) (fun hc => ?_) (fun hc => ?_)
      · have h := h.1 hc
        exact hJ_4 () h _ _ _ hw (lv_sub hl [] rfl)
      · have h := h.2 hc
        refine lv_aload_n hx hb d_Ru_appendBefore_15 rfl (lv_at hl 1 rfl) ?_
        refine lv_aload_n hx hb d_Ru_appendBefore_16 rfl (lv_at hl 2 rfl) ?_
        refine xm_get (D := D) (v := .ref (ad ioA)) (C := R_Ru) (T := F_Ru) (N := 4) hx hb hts (fun w h => List.mem_cons_of_mem _ (i_Ru w h)) hown hw (k_oU v_1.2.1 v_1.2.2.1 v_1.2.2.2.1 v_1.2.2.2.2) rfl 0 (by decide) (hts _ (List.mem_cons_of_mem _ xw_86)) (fun _ h9 => h9) rfl d_Ru_appendBefore_17 ?_
        refine lv_iload_n hx hb d_Ru_appendBefore_20 rfl (lv_at hl 0 rfl) ?_
        obtain ⟨hin, h⟩ := h
        refine xm_iald hx hb hw 0 (k_oA v_1.2.1 v_1.2.2.1 v_1.2.2.2.1 v_1.2.2.2.2) rfl hin d_Ru_appendBefore_21 ?_
        refine lv_aload_n hx hb d_Ru_appendBefore_22 rfl (lv_at hl 2 rfl) ?_
        refine xm_get (D := D) (v := .ref (ad ioB)) (C := R_Ru) (T := F_Ru) (N := 4) hx hb hts (fun w h => List.mem_cons_of_mem _ (i_Ru w h)) hown hw (k_oU v_1.2.1 v_1.2.2.1 v_1.2.2.2.1 v_1.2.2.2.2) rfl 1 (by decide) (hts _ (List.mem_cons_of_mem _ xw_89)) (fun _ h9 => h9) rfl d_Ru_appendBefore_23 ?_
        refine lv_iload_n hx hb d_Ru_appendBefore_26 rfl (lv_at hl 0 rfl) ?_
        obtain ⟨hin, h⟩ := h
        refine xm_iald hx hb hw 0 (k_oB v_1.2.1 v_1.2.2.1 v_1.2.2.2.1 v_1.2.2.2.2) rfl hin d_Ru_appendBefore_27 ?_
        refine lv_aload_n hx hb d_Ru_appendBefore_28 rfl (lv_at hl 2 rfl) ?_
        refine xm_get (D := D) (v := .ref (ad ioC)) (C := R_Ru) (T := F_Ru) (N := 4) hx hb hts (fun w h => List.mem_cons_of_mem _ (i_Ru w h)) hown hw (k_oU v_1.2.1 v_1.2.2.1 v_1.2.2.2.1 v_1.2.2.2.2) rfl 2 (by decide) (hts _ (List.mem_cons_of_mem _ xw_92)) (fun _ h9 => h9) rfl d_Ru_appendBefore_29 ?_
        refine lv_iload_n hx hb d_Ru_appendBefore_32 rfl (lv_at hl 0 rfl) ?_
        obtain ⟨hin, h⟩ := h
        refine xm_iald hx hb hw 0 (k_oC v_1.2.1 v_1.2.2.1 v_1.2.2.2.1 v_1.2.2.2.2) rfl hin d_Ru_appendBefore_33 ?_
        refine xm_callv (ua := fun _ => ad) (va_runV (As := [.int (ors (Int32.toNatClampNeg v_1.1)), .int (orf (Int32.toNatClampNeg v_1.1)), .int (orc (Int32.toNatClampNeg v_1.1))]) (rest := []) ⟨hx, hb, hml, hown, hts⟩ (c_Ru_append (D := D) (ad := ad) (CE := (fun rs rf rc na => (CE rs rf rc na)))  (fun rs rf rc na => k_U rs rf rc na) (fun rs rf rc na => k_A rs rf rc na) (fun rs rf rc na => k_B rs rf rc na) (fun rs rf rc na => k_C rs rf rc na) (fun rs rf rc na na' => u_U rs rf rc na na') (fun rs rf rc na rs' => u_A rs rf rc na rs') (fun rs rf rc na rf' => u_B rs rf rc na rf') (fun rs rf rc na rc' => u_C rs rf rc na rc') h _) (xg_cwV 3 hts xw_375 xw_530 xw_373 xw_374 xw_7 rfl rfl (by decide +kernel) ⟨Nat.le_of_ble_eq_true rfl, Nat.le_of_ble_eq_true rfl⟩) (xm_preV hw (k_U v_1.2.1 v_1.2.2.1 v_1.2.2.2.1 v_1.2.2.2.2) rfl _) rfl rfl hl.1 rfl (lv_room (Nat.le_of_ble_eq_true rfl)) d_Ru_appendBefore_34 ⟨Nat.le_of_ble_eq_true rfl, Nat.le_of_ble_eq_true rfl⟩) hw (fun u_6 H locs h hw => ?_)
        obtain ⟨rs_7, ers_7⟩ : ∃ z, z = u_6.1 := ⟨_, rfl⟩
        obtain ⟨rf_8, erf_8⟩ : ∃ z, z = u_6.2.1 := ⟨_, rfl⟩
        obtain ⟨rc_9, erc_9⟩ : ∃ z, z = u_6.2.2.1 := ⟨_, rfl⟩
        obtain ⟨na_10, ena_10⟩ : ∃ z, z = u_6.2.2.2 := ⟨_, rfl⟩
        try dsimp only at h hw
        rw [← ers_7, ← erf_8, ← erc_9, ← ena_10] at h hw
        obtain ⟨x_11, ex_11⟩ : ∃ y : Int32, y = v_1.1 + 1 := ⟨_, rfl⟩
        have h := h x_11 ex_11
        refine lv_iinc (v := x_11) (lv' := [(3, .int x_11), (0, .ref (ad iU)), (1, .ref (ad ioU)), (2, .int en)]) hx hb d_Ru_appendBefore_37 hl (k := 0) rfl (by rw [ex_11]; rfl) (by decide) rfl (fun ls hl => ?_)
        refine lv_goto (tgt := 2) hx hb d_Ru_appendBefore_40 (by decide) ?_
        exact hK_2 (x_11, rs_7, rf_8, rc_9, na_10) h _ _ _ hw (lv_sub hl [0, 1, 2, 3] rfl)
def wp_Ru_variablesOf (post : Int32 → Prop)  (rf : Nat → Int32) (rc : Nat → Int32) (a : Int32) : Prop :=
vp_in a 4 ∧
wp_Qd_variableBit (fun r_1 =>
vp_in a 4 ∧
wp_Qd_variableBit (fun r_3 =>
post (r_1 ||| r_3)) (rc (Int32.toNatClampNeg a))) (rf (Int32.toNatClampNeg a))
abbrev rm_Ru_variablesOf : Room := { frames := 2, cells := 0, slots := 0, locals := 40 }
set_option maxHeartbeats 4000000 in
set_option maxRecDepth 100000 in
theorem c_Ru_variablesOf {l : Launch} {D : va_G} {ad : Nat → Nat} (CE : Nat → Option va_E) {cI cZ cJ cO : ClassId} {iU : Nat} {iA : Nat} {iB : Nat} {iC : Nat} {rf : Nat → Int32} {rc : Nat → Int32} {rs : Nat → Int32} {na : Int32} (k_U : CE iU = some (.inr (3, [.ref (ad iA), .ref (ad iB), .ref (ad iC), .int na]))) (k_A : CE iA = some (.inl (cI, 4, .inl rs))) (k_B : CE iB = some (.inl (cI, 4, .inl rf))) (k_C : CE iC = some (.inl (cI, 4, .inl rc))) {post : Int32 → Prop} {a : Int32} (h : wp_Ru_variablesOf post rf rc a) : ∀ sz, Met l y_Ru_variablesOf (Cond.code y_Ru_variablesOf b_Ru_variablesOf 2 (some .int) :: xg) rm_Ru_variablesOf (xm_Pc D xcl (xT cI cZ cJ cO) ad CE sz [.ref (ad iU), .int a]) (va_Qi (fun (r : Int32) (_ : Unit) => post r) (xm_B D xcl (xT cI cZ cJ cO) (xm_A ad CE sz) (fun _ => ad) (fun _ : Unit => CE)) (xm_A ad CE sz)) 0 0 (xm_A ad CE sz) := by
  refine xm_ofW (cc := b_Ru_variablesOf) (maxL := 2) (ret := (some .int)) (by decide) rfl (Nat.le_of_ble_eq_true rfl) ?_
  intro p e s m args below meth c ls QQ hQQ hx hb hml hr hown hlk hnm hts hl hw
  have hl : lv_has ls 2 [(0, .ref (ad iU)), (1, .int a)] := hl
  unfold wp_Ru_variablesOf at h
  refine lv_aload_n hx hb d_Ru_variablesOf_0 rfl (lv_at hl 0 rfl) ?_
  refine xm_get (D := D) (v := .ref (ad iB)) (C := R_Ru) (T := F_Ru) (N := 4) hx hb hts (fun w h => List.mem_cons_of_mem _ (i_Ru w h)) hown hw k_U rfl 1 (by decide) (hts _ (List.mem_cons_of_mem _ xw_89)) (fun _ h9 => h9) rfl d_Ru_variablesOf_1 ?_
  refine lv_iload_n hx hb d_Ru_variablesOf_4 rfl (lv_at hl 1 rfl) ?_
  obtain ⟨hin, h⟩ := h
  refine xm_iald hx hb hw 0 k_B rfl hin d_Ru_variablesOf_5 ?_
  refine xm_calli (ua := fun _ => ad) (va_runSN (As := [.int (rf (Int32.toNatClampNeg a))]) (rest := []) ⟨hx, hb, hml, hown, hts⟩ (c_Qd_variableBit (D := D) (ad := ad) (CE := (CE))   h _) (xg_cnS 1 hts xw_394 hw.nst.1 xw_1 xw_393 rfl rfl (by decide +kernel) ⟨Nat.le_of_ble_eq_true rfl, Nat.le_of_ble_eq_true rfl⟩) (xm_pre hw _) rfl rfl hl.1 rfl (lv_room (Nat.le_of_ble_eq_true rfl)) d_Ru_variablesOf_6 ⟨Nat.le_of_ble_eq_true rfl, Nat.le_of_ble_eq_true rfl⟩) hw (fun r_1 _ H locs h hw => ?_)
  refine lv_aload_n hx hb d_Ru_variablesOf_9 rfl (lv_at hl 0 rfl) ?_
  refine xm_get (D := D) (v := .ref (ad iC)) (C := R_Ru) (T := F_Ru) (N := 4) hx hb hts (fun w h => List.mem_cons_of_mem _ (i_Ru w h)) hown hw k_U rfl 2 (by decide) (hts _ (List.mem_cons_of_mem _ xw_92)) (fun _ h9 => h9) rfl d_Ru_variablesOf_10 ?_
  refine lv_iload_n hx hb d_Ru_variablesOf_13 rfl (lv_at hl 1 rfl) ?_
  obtain ⟨hin, h⟩ := h
  refine xm_iald hx hb hw 0 k_C rfl hin d_Ru_variablesOf_14 ?_
  refine xm_calli (ua := fun _ => ad) (va_runSN (As := [.int (rc (Int32.toNatClampNeg a))]) (rest := [.int r_1]) ⟨hx, hb, hml, hown, hts⟩ (c_Qd_variableBit (D := D) (ad := ad) (CE := (CE))   h _) (xg_cnS 1 hts xw_394 hw.nst.1 xw_1 xw_393 rfl rfl (by decide +kernel) ⟨Nat.le_of_ble_eq_true rfl, Nat.le_of_ble_eq_true rfl⟩) (xm_pre hw _) rfl rfl hl.1 rfl (lv_room (Nat.le_of_ble_eq_true rfl)) d_Ru_variablesOf_15 ⟨Nat.le_of_ble_eq_true rfl, Nat.le_of_ble_eq_true rfl⟩) hw (fun r_3 _ H locs h hw => ?_)
  refine lv_ior hx hb d_Ru_variablesOf_18 ?_
  subst hQQ
  exact xm_iret hx hb hr hlk hw () rfl rfl h d_Ru_variablesOf_19
theorem xw_391 : (Jvm.Cond.code ({ cls := "QuestionDesk$Rule", name := "variablesOf", desc := "(I)I" } : Jvm.MethodName) prog_4_method_7_code (2 : Nat) (Option.some Jvm.ClassFile.FieldType.int)) ∈ xg := xg_t (i := 391) (by decide +kernel) (by decide +kernel)
theorem xw_388 : (Jvm.Cond.methodLink "QuestionDesk$Rule" (33 : Nat) ({ cls := "QuestionDesk$Rule", name := "variablesOf", desc := "(I)I" } : Jvm.MethodName)) ∈ xg := xg_t (i := 388) (by decide +kernel) (by decide +kernel)
theorem xw_390 : (Jvm.Cond.instanceMethod ({ cls := "QuestionDesk$Rule", name := "variablesOf", desc := "(I)I" } : Jvm.MethodName)) ∈ xg := xg_t (i := 390) (by decide +kernel) (by decide +kernel)
theorem xw_p10 : Cond.selects "QuestionDesk$Rule" ⟨"QuestionDesk$Rule", "variablesOf", "(I)I"⟩ ⟨"QuestionDesk$Rule", "variablesOf", "(I)I"⟩ ∈ xg := xg_p (q := (⟨"QuestionDesk$Rule", "variablesOf", "(I)I"⟩, 4)) (i := 10) (by decide +kernel) (by decide +kernel)
def wp_Ru_isSafe (post : Int32 → Prop)  (rf : Nat → Int32) (rc : Nat → Int32) (na : Int32) : Prop :=
xL (fun (K_2 : Int32 × Int32 → Prop) (v_1 : Int32 × Int32) =>
((na < v_1.1 →
wp_Ru_variablesOf (fun r_3 =>
xj (fun (v_5 : Int32) =>
(narrow .boolean (.int v_5) = .int v_5 ∧ post v_5)) (fun (J_6 : Int32 → Prop) =>
((¬ (r_3 &&& (v_1.2 ^^^ (-1))) = 0 →
J_6 0) ∧ ((r_3 &&& (v_1.2 ^^^ (-1))) = 0 →
J_6 1)))) rf rc 0) ∧ (¬ na < v_1.1 →
wp_Ru_variablesOf (fun r_7 =>
∀ x_9 : Int32, x_9 = v_1.2 ||| r_7 →
∀ x_10 : Int32, x_10 = v_1.1 + 1 →
K_2 (x_10, x_9)) rf rc v_1.1))) (1, 0)
abbrev rm_Ru_isSafe : Room := { frames := 3, cells := 0, slots := 0, locals := 61 }
set_option maxHeartbeats 4000000 in
set_option maxRecDepth 100000 in
theorem c_Ru_isSafe {l : Launch} {D : va_G} {ad : Nat → Nat} (CE : Nat → Option va_E) {cI cZ cJ cO : ClassId} {iU : Nat} {iA : Nat} {iB : Nat} {iC : Nat} {rf : Nat → Int32} {rc : Nat → Int32} {na : Int32} {rs : Nat → Int32} (k_U : CE iU = some (.inr (3, [.ref (ad iA), .ref (ad iB), .ref (ad iC), .int na]))) (k_A : CE iA = some (.inl (cI, 4, .inl rs))) (k_B : CE iB = some (.inl (cI, 4, .inl rf))) (k_C : CE iC = some (.inl (cI, 4, .inl rc))) {post : Int32 → Prop}  (h : wp_Ru_isSafe post rf rc na) : ∀ sz, Met l y_Ru_isSafe (Cond.code y_Ru_isSafe b_Ru_isSafe 3 (some .boolean) :: xg) rm_Ru_isSafe (xm_Pc D xcl (xT cI cZ cJ cO) ad CE sz [.ref (ad iU)]) (va_Qi (fun (r : Int32) (_ : Unit) => post r) (xm_B D xcl (xT cI cZ cJ cO) (xm_A ad CE sz) (fun _ => ad) (fun _ : Unit => CE)) (xm_A ad CE sz)) 0 0 (xm_A ad CE sz) := by
  refine xm_ofW (cc := b_Ru_isSafe) (maxL := 3) (ret := (some .boolean)) (by decide) rfl (Nat.le_of_ble_eq_true rfl) ?_
  intro p e s m args below meth c ls QQ hQQ hx hb hml hr hown hlk hnm hts hl hw
  have hl : lv_has ls 3 [(0, .ref (ad iU))] := hl
  unfold wp_Ru_isSafe at h
  refine lv_iconst (v := 0) hx hb d_Ru_isSafe_0 (by decide) ?_
  refine lv_istore_n (lv' := [(1, .int 0), (0, .ref (ad iU))]) hx hb d_Ru_isSafe_1 rfl hl (by decide) rfl (fun ls hl => ?_)
  refine lv_iconst (v := 1) hx hb d_Ru_isSafe_2 (by decide) ?_
  refine lv_istore_n (lv' := [(2, .int 1), (1, .int 0), (0, .ref (ad iU))]) hx hb d_Ru_isSafe_3 rfl hl (by decide) rfl (fun ls hl => ?_)
  refine xL_use h (fun (v_1 : Int32 × Int32) => ∀ (H : Heap) (locs : List Loc) (ls : Array Slot), xm_W D xcl (xT cI cZ cJ cO) (xm_A ad CE s.heap.size) ad CE s s.heap H locs → lv_has ls 3 [(2, .int v_1.1), (1, .int v_1.2), (0, .ref (ad iU))] → W p l e rm_Ru_isSafe s m args below meth c H locs 0 0 QQ (F0 m 4 ls [])) (fun K_2 hK_2 v_1 h H locs ls hw hl => ?_) _ _ _ hw (lv_sub hl [0, 1, 2] rfl)
  refine lv_iload_n hx hb d_Ru_isSafe_4 rfl (lv_at hl 0 rfl) ?_
  refine lv_aload_n hx hb d_Ru_isSafe_5 rfl (lv_at hl 2 rfl) ?_
  refine xm_get (D := D) (v := .int na) (C := R_Ru) (T := F_Ru) (N := 4) hx hb hts (fun w h => List.mem_cons_of_mem _ (i_Ru w h)) hown hw k_U rfl 3 (by decide) (hts _ (List.mem_cons_of_mem _ xw_95)) (fun _ h9 => h9) rfl d_Ru_isSafe_6 ?_
  refine lv_icmp_gt (tgt := 26) hx hb d_Ru_isSafe_9 (by decide) (fun hc => ?_) (fun hc => ?_)
  · have h := h.1 hc
    refine lv_aload_n hx hb d_Ru_isSafe_26 rfl (lv_at hl 2 rfl) ?_
    refine lv_iconst (v := 0) hx hb d_Ru_isSafe_27 (by decide) ?_
    refine xm_calli (ua := fun _ => ad) (va_runV (As := [.int 0]) (rest := []) ⟨hx, hb, hml, hown, hts⟩ (c_Ru_variablesOf (D := D) (ad := ad) (CE := (CE))  k_U k_A k_B k_C h _) (xg_cwV 1 hts xw_391 xw_388 xw_390 xw_p10 xw_7 rfl rfl (by decide +kernel) ⟨Nat.le_of_ble_eq_true rfl, Nat.le_of_ble_eq_true rfl⟩) (xm_preV hw k_U rfl _) rfl rfl hl.1 rfl (lv_room (Nat.le_of_ble_eq_true rfl)) d_Ru_isSafe_28 ⟨Nat.le_of_ble_eq_true rfl, Nat.le_of_ble_eq_true rfl⟩) hw (fun r_3 _ H locs h hw => ?_)
    refine lv_iload_n hx hb d_Ru_isSafe_31 rfl (lv_at hl 1 rfl) ?_
    refine lv_iconst (v := (-1)) hx hb d_Ru_isSafe_32 (by decide) ?_
    refine lv_ixor hx hb d_Ru_isSafe_33 ?_
    refine lv_iand hx hb d_Ru_isSafe_34 ?_
    refine xj_use h (fun (v_5 : Int32) => ∀ (H : Heap) (locs : List Loc) (ls : Array Slot), xm_W D xcl (xT cI cZ cJ cO) (xm_A ad CE s.heap.size) ad CE s s.heap H locs → lv_has ls 3 [] → W p l e rm_Ru_isSafe s m args below meth c H locs 0 0 QQ (F0 m 43 ls [.int v_5])) (fun v_5 h H locs ls hw hl => ?_) (fun J_6 hJ_6 h => ?_)
    · subst hQQ
      exact xm_zret hx hb hr hlk h.1 hw () rfl rfl h.2 d_Ru_isSafe_43
    · refine lv_if_ne (tgt := 42) hx hb d_Ru_isSafe_35 (by decide) (fun hc => ?_) (fun hc => ?_)
      · have h := h.1 hc
        refine lv_iconst (v := 0) hx hb d_Ru_isSafe_42 (by decide) ?_
        exact hJ_6 0 h _ _ _ hw (lv_sub hl [] rfl)
      · have h := h.2 hc
        refine lv_iconst (v := 1) hx hb d_Ru_isSafe_38 (by decide) ?_
        refine lv_goto (tgt := 43) hx hb d_Ru_isSafe_39 (by decide) ?_
        exact hJ_6 1 h _ _ _ hw (lv_sub hl [] rfl)
  · have h := h.2 hc
    refine lv_iload_n hx hb d_Ru_isSafe_12 rfl (lv_at hl 1 rfl) ?_
    refine lv_aload_n hx hb d_Ru_isSafe_13 rfl (lv_at hl 2 rfl) ?_
    refine lv_iload_n hx hb d_Ru_isSafe_14 rfl (lv_at hl 0 rfl) ?_
    refine xm_calli (ua := fun _ => ad) (va_runV (As := [.int v_1.1]) (rest := [.int v_1.2]) ⟨hx, hb, hml, hown, hts⟩ (c_Ru_variablesOf (D := D) (ad := ad) (CE := (CE))  k_U k_A k_B k_C h _) (xg_cwV 1 hts xw_391 xw_388 xw_390 xw_p10 xw_7 rfl rfl (by decide +kernel) ⟨Nat.le_of_ble_eq_true rfl, Nat.le_of_ble_eq_true rfl⟩) (xm_preV hw k_U rfl _) rfl rfl hl.1 rfl (lv_room (Nat.le_of_ble_eq_true rfl)) d_Ru_isSafe_15 ⟨Nat.le_of_ble_eq_true rfl, Nat.le_of_ble_eq_true rfl⟩) hw (fun r_7 _ H locs h hw => ?_)
    refine lv_ior hx hb d_Ru_isSafe_18 ?_
    refine lv_topi (fun x_9 ex_9 => ?_)
    have h := h x_9 ex_9
    refine lv_istore_n (lv' := [(1, .int x_9), (2, .int v_1.1), (0, .ref (ad iU))]) hx hb d_Ru_isSafe_19 rfl hl (by decide) rfl (fun ls hl => ?_)
    obtain ⟨x_10, ex_10⟩ : ∃ y : Int32, y = v_1.1 + 1 := ⟨_, rfl⟩
    have h := h x_10 ex_10
    refine lv_iinc (v := x_10) (lv' := [(2, .int x_10), (1, .int x_9), (0, .ref (ad iU))]) hx hb d_Ru_isSafe_20 hl (k := 1) rfl (by rw [ex_10]; rfl) (by decide) rfl (fun ls hl => ?_)
    refine lv_goto (tgt := 4) hx hb d_Ru_isSafe_23 (by decide) ?_
    exact hK_2 (x_10, x_9) h _ _ _ hw (lv_sub hl [0, 1, 2] rfl)
def wp_Ru_blankUnless (post : Int32 → Prop)  (kept : Int32) (t : Int32) : Prop :=
wp_Qd_isVariable (fun r_1 =>
xj (fun (v_3 : Int32) =>
post v_3) (fun (J_4 : Int32 → Prop) =>
xj (fun (v_5 : Unit) =>
J_4 t) (fun (J_6 : Unit → Prop) =>
((r_1 = 0 →
J_6 ()) ∧ (¬ r_1 = 0 →
wp_Qd_variableBit (fun r_7 =>
((¬ (r_7 &&& kept) = 0 →
J_6 ()) ∧ ((r_7 &&& kept) = 0 →
J_4 18))) t))))) t
abbrev rm_Ru_blankUnless : Room := { frames := 2, cells := 0, slots := 0, locals := 40 }
set_option maxHeartbeats 4000000 in
set_option maxRecDepth 100000 in
theorem c_Ru_blankUnless {l : Launch} {D : va_G} {ad : Nat → Nat} (CE : Nat → Option va_E) {cI cZ cJ cO : ClassId}    {post : Int32 → Prop} {kept : Int32} {t : Int32} (h : wp_Ru_blankUnless post kept t) : ∀ sz, Met l y_Ru_blankUnless (Cond.code y_Ru_blankUnless b_Ru_blankUnless 2 (some .int) :: xg) rm_Ru_blankUnless (xm_Pc D xcl (xT cI cZ cJ cO) ad CE sz [.int kept, .int t]) (va_Qi (fun (r : Int32) (_ : Unit) => post r) (xm_B D xcl (xT cI cZ cJ cO) (xm_A ad CE sz) (fun _ => ad) (fun _ : Unit => CE)) (xm_A ad CE sz)) 0 0 (xm_A ad CE sz) := by
  refine xm_ofW (cc := b_Ru_blankUnless) (maxL := 2) (ret := (some .int)) (by decide) rfl (Nat.le_of_ble_eq_true rfl) ?_
  intro p e s m args below meth c ls QQ hQQ hx hb hml hr hown hlk hnm hts hl hw
  have hl : lv_has ls 2 [(0, .int kept), (1, .int t)] := hl
  unfold wp_Ru_blankUnless at h
  refine lv_iload_n hx hb d_Ru_blankUnless_0 rfl (lv_at hl 1 rfl) ?_
  refine xm_calli (ua := fun _ => ad) (va_runSN (As := [.int t]) (rest := []) ⟨hx, hb, hml, hown, hts⟩ (c_Qd_isVariable (D := D) (ad := ad) (CE := (CE))   h _) (xg_cnS 1 hts xw_397 hw.nst.2 xw_1 xw_396 rfl rfl (by decide +kernel) ⟨Nat.le_of_ble_eq_true rfl, Nat.le_of_ble_eq_true rfl⟩) (xm_pre hw _) rfl rfl hl.1 rfl (lv_room (Nat.le_of_ble_eq_true rfl)) d_Ru_blankUnless_1 ⟨Nat.le_of_ble_eq_true rfl, Nat.le_of_ble_eq_true rfl⟩) hw (fun r_1 _ H locs h hw => ?_)
  refine xj_use h (fun (v_3 : Int32) => ∀ (H : Heap) (locs : List Loc) (ls : Array Slot), xm_W D xcl (xT cI cZ cJ cO) (xm_A ad CE s.heap.size) ad CE s s.heap H locs → lv_has ls 2 [] → W p l e rm_Ru_blankUnless s m args below meth c H locs 0 0 QQ (F0 m 22 ls [.int v_3])) (fun v_3 h H locs ls hw hl => ?_) (fun J_4 hJ_4 h => ?_)
  · subst hQQ
    exact xm_iret hx hb hr hlk hw () rfl rfl h d_Ru_blankUnless_22
  · refine xj_use h (fun (v_5 : Unit) => ∀ (H : Heap) (locs : List Loc) (ls : Array Slot), xm_W D xcl (xT cI cZ cJ cO) (xm_A ad CE s.heap.size) ad CE s s.heap H locs → lv_has ls 2 [(1, .int t)] → W p l e rm_Ru_blankUnless s m args below meth c H locs 0 0 QQ (F0 m 21 ls [])) (fun v_5 h H locs ls hw hl => ?_) (fun J_6 hJ_6 h => ?_)
    · refine lv_iload_n hx hb d_Ru_blankUnless_21 rfl (lv_at hl 0 rfl) ?_
      exact hJ_4 t h _ _ _ hw (lv_sub hl [] rfl)
    · refine lv_if_eq (tgt := 21) hx hb d_Ru_blankUnless_4 (by decide) (fun hc => ?_) (fun hc => ?_)
      · have h := h.1 hc
        exact hJ_6 () h _ _ _ hw (lv_sub hl [1] rfl)
      · have h := h.2 hc
        refine lv_iload_n hx hb d_Ru_blankUnless_7 rfl (lv_at hl 1 rfl) ?_
        refine xm_calli (ua := fun _ => ad) (va_runSN (As := [.int t]) (rest := []) ⟨hx, hb, hml, hown, hts⟩ (c_Qd_variableBit (D := D) (ad := ad) (CE := (CE))   h _) (xg_cnS 1 hts xw_394 hw.nst.1 xw_1 xw_393 rfl rfl (by decide +kernel) ⟨Nat.le_of_ble_eq_true rfl, Nat.le_of_ble_eq_true rfl⟩) (xm_pre hw _) rfl rfl hl.1 rfl (lv_room (Nat.le_of_ble_eq_true rfl)) d_Ru_blankUnless_8 ⟨Nat.le_of_ble_eq_true rfl, Nat.le_of_ble_eq_true rfl⟩) hw (fun r_7 _ H locs h hw => ?_)
        refine lv_iload_n hx hb d_Ru_blankUnless_11 rfl (lv_at hl 0 rfl) ?_
        refine lv_iand hx hb d_Ru_blankUnless_12 ?_
        refine lv_if_ne (tgt := 21) hx hb d_Ru_blankUnless_13 (by decide) (fun hc => ?_) (fun hc => ?_)
        · have h := h.1 hc
          exact hJ_6 () h _ _ _ hw (lv_sub hl [1] rfl)
        · have h := h.2 hc
          refine lv_bipush (v := 18) hx hb d_Ru_blankUnless_16 (by decide) ?_
          refine lv_goto (tgt := 22) hx hb d_Ru_blankUnless_18 (by decide) ?_
          exact hJ_4 18 h _ _ _ hw (lv_sub hl [] rfl)
theorem xw_404 : (Jvm.Cond.code ({ cls := "QuestionDesk$Rule", name := "blankUnless", desc := "(II)I" } : Jvm.MethodName) prog_4_method_9_code (2 : Nat) (Option.some Jvm.ClassFile.FieldType.int)) ∈ xg := xg_t (i := 404) (by decide +kernel) (by decide +kernel)
theorem xw_402 : (Jvm.Cond.methodLink "QuestionDesk$Rule" (40 : Nat) ({ cls := "QuestionDesk$Rule", name := "blankUnless", desc := "(II)I" } : Jvm.MethodName)) ∈ xg := xg_t (i := 402) (by decide +kernel) (by decide +kernel)
theorem xw_403 : (Jvm.Cond.static ({ cls := "QuestionDesk$Rule", name := "blankUnless", desc := "(II)I" } : Jvm.MethodName)) ∈ xg := xg_t (i := 403) (by decide +kernel) (by decide +kernel)
def wp_Ru_blankLoneVariables (post : (Nat → Int32) → (Nat → Int32) → Prop)  (na : Int32) (rf : Nat → Int32) (rc : Nat → Int32) : Prop :=
xL (fun (K_2 : Int32 × Int32 × Int32 → Prop) (v_1 : Int32 × Int32 × Int32) =>
((na < v_1.1 →
xL (fun (K_4 : Int32 × (Nat → Int32) × (Nat → Int32) → Prop) (v_3 : Int32 × (Nat → Int32) × (Nat → Int32)) =>
((na < v_3.1 →
post v_3.2.1 v_3.2.2) ∧ (¬ na < v_3.1 →
vp_in v_3.1 4 ∧
wp_Ru_blankUnless (fun r_5 =>
vp_in v_3.1 4 ∧
∀ rf_7 : Nat → Int32, rf_7 = upd v_3.2.1 (Int32.toNatClampNeg v_3.1) r_5 →
vp_in v_3.1 4 ∧
wp_Ru_blankUnless (fun r_8 =>
vp_in v_3.1 4 ∧
∀ rc_10 : Nat → Int32, rc_10 = upd v_3.2.2 (Int32.toNatClampNeg v_3.1) r_8 →
∀ x_11 : Int32, x_11 = v_3.1 + 1 →
K_4 (x_11, rf_7, rc_10)) v_1.2.1 (v_3.2.2 (Int32.toNatClampNeg v_3.1))) v_1.2.1 (v_3.2.1 (Int32.toNatClampNeg v_3.1))))) (0, rf, rc)) ∧ (¬ na < v_1.1 →
vp_in v_1.1 4 ∧
wp_Qd_variableBit (fun r_12 =>
∀ x_14 : Int32, x_14 = v_1.2.1 ||| (v_1.2.2 &&& r_12) →
vp_in v_1.1 4 ∧
wp_Qd_variableBit (fun r_15 =>
∀ x_17 : Int32, x_17 = v_1.2.2 ||| r_15 →
vp_in v_1.1 4 ∧
wp_Qd_variableBit (fun r_18 =>
∀ x_20 : Int32, x_20 = x_14 ||| (x_17 &&& r_18) →
vp_in v_1.1 4 ∧
wp_Qd_variableBit (fun r_21 =>
∀ x_23 : Int32, x_23 = x_17 ||| r_21 →
∀ x_24 : Int32, x_24 = v_1.1 + 1 →
K_2 (x_24, x_20, x_23)) (rc (Int32.toNatClampNeg v_1.1))) (rc (Int32.toNatClampNeg v_1.1))) (rf (Int32.toNatClampNeg v_1.1))) (rf (Int32.toNatClampNeg v_1.1))))) (0, 0, 0)
abbrev rm_Ru_blankLoneVariables : Room := { frames := 3, cells := 0, slots := 0, locals := 61 }
set_option maxHeartbeats 4000000 in
set_option maxRecDepth 100000 in
theorem c_Ru_blankLoneVariables {l : Launch} {D : va_G} {ad : Nat → Nat} (CE : (Nat → Int32) → (Nat → Int32) → Nat → Option va_E) {cI cZ cJ cO : ClassId} {iU : Nat} {iA : Nat} {iB : Nat} {iC : Nat} {na : Int32} {rs : Nat → Int32} (k_U : ∀ (rf : Nat → Int32) (rc : Nat → Int32), (CE rf rc) iU = some (.inr (3, [.ref (ad iA), .ref (ad iB), .ref (ad iC), .int na]))) (k_A : ∀ (rf : Nat → Int32) (rc : Nat → Int32), (CE rf rc) iA = some (.inl (cI, 4, .inl rs))) (k_B : ∀ (rf : Nat → Int32) (rc : Nat → Int32), (CE rf rc) iB = some (.inl (cI, 4, .inl rf))) (k_C : ∀ (rf : Nat → Int32) (rc : Nat → Int32), (CE rf rc) iC = some (.inl (cI, 4, .inl rc))) (u_B : ∀ (rf : Nat → Int32) (rc : Nat → Int32) (rf' : Nat → Int32), va_up (CE rf rc) iB (some (.inl (cI, 4, .inl rf'))) = (CE rf' rc)) (u_C : ∀ (rf : Nat → Int32) (rc : Nat → Int32) (rc' : Nat → Int32), va_up (CE rf rc) iC (some (.inl (cI, 4, .inl rc'))) = (CE rf rc')) {post : (Nat → Int32) → (Nat → Int32) → Prop} {rf : Nat → Int32} {rc : Nat → Int32} (h : wp_Ru_blankLoneVariables post na rf rc) : ∀ sz, Met l y_Ru_blankLoneVariables (Cond.code y_Ru_blankLoneVariables b_Ru_blankLoneVariables 4 none :: xg) rm_Ru_blankLoneVariables (xm_Pc D xcl (xT cI cZ cJ cO) ad (CE rf rc) sz [.ref (ad iU)]) (va_Qv (fun u : (Nat → Int32) × (Nat → Int32) => post u.1 u.2) (xm_B D xcl (xT cI cZ cJ cO) (xm_A ad (CE rf rc) sz) (fun _ => ad) (fun u : (Nat → Int32) × (Nat → Int32) => CE u.1 u.2)) (xm_A ad (CE rf rc) sz)) 0 0 (xm_A ad (CE rf rc) sz) := by
  refine xm_ofW (cc := b_Ru_blankLoneVariables) (maxL := 4) (ret := none) (by decide) rfl (Nat.le_of_ble_eq_true rfl) ?_
  intro p e s m args below meth c ls QQ hQQ hx hb hml hr hown hlk hnm hts hl hw
  have hl : lv_has ls 4 [(0, .ref (ad iU))] := hl
  unfold wp_Ru_blankLoneVariables at h
  refine lv_iconst (v := 0) hx hb d_Ru_blankLoneVariables_0 (by decide) ?_
  refine lv_istore_n (lv' := [(1, .int 0), (0, .ref (ad iU))]) hx hb d_Ru_blankLoneVariables_1 rfl hl (by decide) rfl (fun ls hl => ?_)
  refine lv_iconst (v := 0) hx hb d_Ru_blankLoneVariables_2 (by decide) ?_
  refine lv_istore_n (lv' := [(2, .int 0), (1, .int 0), (0, .ref (ad iU))]) hx hb d_Ru_blankLoneVariables_3 rfl hl (by decide) rfl (fun ls hl => ?_)
  refine lv_iconst (v := 0) hx hb d_Ru_blankLoneVariables_4 (by decide) ?_
  refine lv_istore_n (lv' := [(3, .int 0), (2, .int 0), (1, .int 0), (0, .ref (ad iU))]) hx hb d_Ru_blankLoneVariables_5 rfl hl (by decide) rfl (fun ls hl => ?_)
  refine xL_use h (fun (v_1 : Int32 × Int32 × Int32) => ∀ (H : Heap) (locs : List Loc) (ls : Array Slot), xm_W D xcl (xT cI cZ cJ cO) (xm_A ad (CE rf rc) s.heap.size) ad (CE rf rc) s s.heap H locs → lv_has ls 4 [(3, .int v_1.1), (2, .int v_1.2.1), (1, .int v_1.2.2), (0, .ref (ad iU))] → W p l e rm_Ru_blankLoneVariables s m args below meth c H locs 0 0 QQ (F0 m 6 ls [])) (fun K_2 hK_2 v_1 h H locs ls hw hl => ?_) _ _ _ hw (lv_sub hl [0, 1, 2, 3] rfl)
  refine lv_iload_n hx hb d_Ru_blankLoneVariables_6 rfl (lv_at hl 0 rfl) ?_
  refine lv_aload_n hx hb d_Ru_blankLoneVariables_7 rfl (lv_at hl 3 rfl) ?_
  refine xm_get (D := D) (v := .int na) (C := R_Ru) (T := F_Ru) (N := 4) hx hb hts (fun w h => List.mem_cons_of_mem _ (i_Ru w h)) hown hw (k_U rf rc) rfl 3 (by decide) (hts _ (List.mem_cons_of_mem _ xw_95)) (fun _ h9 => h9) rfl d_Ru_blankLoneVariables_8 ?_
  refine lv_icmp_gt (tgt := 72) hx hb d_Ru_blankLoneVariables_11 (by decide) (fun hc => ?_) (fun hc => ?_)
  · have h := h.1 hc
    refine lv_iconst (v := 0) hx hb d_Ru_blankLoneVariables_72 (by decide) ?_
    refine lv_istore_n (lv' := [(3, .int 0), (2, .int v_1.2.1), (1, .int v_1.2.2), (0, .ref (ad iU))]) hx hb d_Ru_blankLoneVariables_73 rfl hl (by decide) rfl (fun ls hl => ?_)
    refine xL_use h (fun (v_3 : Int32 × (Nat → Int32) × (Nat → Int32)) => ∀ (H : Heap) (locs : List Loc) (ls : Array Slot), xm_W D xcl (xT cI cZ cJ cO) (xm_A ad (CE rf rc) s.heap.size) ad (CE v_3.2.1 v_3.2.2) s s.heap H locs → lv_has ls 4 [(3, .int v_3.1), (2, .int v_1.2.1), (0, .ref (ad iU))] → W p l e rm_Ru_blankLoneVariables s m args below meth c H locs 0 0 QQ (F0 m 74 ls [])) (fun K_4 hK_4 v_3 h H locs ls hw hl => ?_) _ _ _ hw (lv_sub hl [0, 1, 3] rfl)
    refine lv_iload_n hx hb d_Ru_blankLoneVariables_74 rfl (lv_at hl 0 rfl) ?_
    refine lv_aload_n hx hb d_Ru_blankLoneVariables_75 rfl (lv_at hl 2 rfl) ?_
    refine xm_get (D := D) (v := .int na) (C := R_Ru) (T := F_Ru) (N := 4) hx hb hts (fun w h => List.mem_cons_of_mem _ (i_Ru w h)) hown hw (k_U v_3.2.1 v_3.2.2) rfl 3 (by decide) (hts _ (List.mem_cons_of_mem _ xw_95)) (fun _ h9 => h9) rfl d_Ru_blankLoneVariables_76 ?_
    refine lv_icmp_gt (tgt := 120) hx hb d_Ru_blankLoneVariables_79 (by decide) (fun hc => ?_) (fun hc => ?_)
    · have h := h.1 hc
      subst hQQ
      exact xm_vret hx hb hr hlk hw (v_3.2.1, v_3.2.2) rfl rfl h d_Ru_blankLoneVariables_120
    · have h := h.2 hc
      refine lv_aload_n hx hb d_Ru_blankLoneVariables_82 rfl (lv_at hl 2 rfl) ?_
      refine xm_get (D := D) (v := .ref (ad iB)) (C := R_Ru) (T := F_Ru) (N := 4) hx hb hts (fun w h => List.mem_cons_of_mem _ (i_Ru w h)) hown hw (k_U v_3.2.1 v_3.2.2) rfl 1 (by decide) (hts _ (List.mem_cons_of_mem _ xw_89)) (fun _ h9 => h9) rfl d_Ru_blankLoneVariables_83 ?_
      refine lv_iload_n hx hb d_Ru_blankLoneVariables_86 rfl (lv_at hl 0 rfl) ?_
      refine lv_iload_n hx hb d_Ru_blankLoneVariables_87 rfl (lv_at hl 1 rfl) ?_
      refine lv_aload_n hx hb d_Ru_blankLoneVariables_88 rfl (lv_at hl 2 rfl) ?_
      refine xm_get (D := D) (v := .ref (ad iB)) (C := R_Ru) (T := F_Ru) (N := 4) hx hb hts (fun w h => List.mem_cons_of_mem _ (i_Ru w h)) hown hw (k_U v_3.2.1 v_3.2.2) rfl 1 (by decide) (hts _ (List.mem_cons_of_mem _ xw_89)) (fun _ h9 => h9) rfl d_Ru_blankLoneVariables_89 ?_
      refine lv_iload_n hx hb d_Ru_blankLoneVariables_92 rfl (lv_at hl 0 rfl) ?_
      obtain ⟨hin, h⟩ := h
      refine xm_iald hx hb hw 0 (k_B v_3.2.1 v_3.2.2) rfl hin d_Ru_blankLoneVariables_93 ?_
      refine xm_calli (ua := fun _ => ad) (va_runS (As := [.int v_1.2.1, .int (v_3.2.1 (Int32.toNatClampNeg v_3.1))]) (rest := [.int v_3.1, .ref (ad iB)]) ⟨hx, hb, hml, hown, hts⟩ (c_Ru_blankUnless (D := D) (ad := ad) (CE := ((CE v_3.2.1 v_3.2.2)))   h _) (xg_cwS 2 hts xw_404 xw_402 xw_403 xw_7 rfl rfl (by decide +kernel) ⟨Nat.le_of_ble_eq_true rfl, Nat.le_of_ble_eq_true rfl⟩) (xm_pre hw _) rfl rfl hl.1 rfl (lv_room (Nat.le_of_ble_eq_true rfl)) d_Ru_blankLoneVariables_94 ⟨Nat.le_of_ble_eq_true rfl, Nat.le_of_ble_eq_true rfl⟩) hw (fun r_5 _ H locs h hw => ?_)
      obtain ⟨hin, h⟩ := h
      refine xm_iast hx hb hw 0 (k_B v_3.2.1 v_3.2.2) rfl hin d_Ru_blankLoneVariables_97 (fun H locs hw => ?_)
      have hw : xm_W D xcl (xT cI cZ cJ cO) (xm_A ad (CE rf rc) s.heap.size) ad (CE (upd v_3.2.1 (Int32.toNatClampNeg v_3.1) r_5) v_3.2.2) s s.heap H locs := xm_W.cast (u_B v_3.2.1 v_3.2.2 (upd v_3.2.1 (Int32.toNatClampNeg v_3.1) r_5)) hw
      obtain ⟨rf_7, erf_7⟩ : ∃ z : Nat → Int32, z = upd v_3.2.1 (Int32.toNatClampNeg v_3.1) r_5 := ⟨_, rfl⟩
      have h := h rf_7 erf_7
      rw [← erf_7] at hw
      refine lv_aload_n hx hb d_Ru_blankLoneVariables_98 rfl (lv_at hl 2 rfl) ?_
      refine xm_get (D := D) (v := .ref (ad iC)) (C := R_Ru) (T := F_Ru) (N := 4) hx hb hts (fun w h => List.mem_cons_of_mem _ (i_Ru w h)) hown hw (k_U rf_7 v_3.2.2) rfl 2 (by decide) (hts _ (List.mem_cons_of_mem _ xw_92)) (fun _ h9 => h9) rfl d_Ru_blankLoneVariables_99 ?_
      refine lv_iload_n hx hb d_Ru_blankLoneVariables_102 rfl (lv_at hl 0 rfl) ?_
      refine lv_iload_n hx hb d_Ru_blankLoneVariables_103 rfl (lv_at hl 1 rfl) ?_
      refine lv_aload_n hx hb d_Ru_blankLoneVariables_104 rfl (lv_at hl 2 rfl) ?_
      refine xm_get (D := D) (v := .ref (ad iC)) (C := R_Ru) (T := F_Ru) (N := 4) hx hb hts (fun w h => List.mem_cons_of_mem _ (i_Ru w h)) hown hw (k_U rf_7 v_3.2.2) rfl 2 (by decide) (hts _ (List.mem_cons_of_mem _ xw_92)) (fun _ h9 => h9) rfl d_Ru_blankLoneVariables_105 ?_
      refine lv_iload_n hx hb d_Ru_blankLoneVariables_108 rfl (lv_at hl 0 rfl) ?_
      obtain ⟨hin, h⟩ := h
      refine xm_iald hx hb hw 0 (k_C rf_7 v_3.2.2) rfl hin d_Ru_blankLoneVariables_109 ?_
      refine xm_calli (ua := fun _ => ad) (va_runS (As := [.int v_1.2.1, .int (v_3.2.2 (Int32.toNatClampNeg v_3.1))]) (rest := [.int v_3.1, .ref (ad iC)]) ⟨hx, hb, hml, hown, hts⟩ (c_Ru_blankUnless (D := D) (ad := ad) (CE := ((CE rf_7 v_3.2.2)))   h _) (xg_cwS 2 hts xw_404 xw_402 xw_403 xw_7 rfl rfl (by decide +kernel) ⟨Nat.le_of_ble_eq_true rfl, Nat.le_of_ble_eq_true rfl⟩) (xm_pre hw _) rfl rfl hl.1 rfl (lv_room (Nat.le_of_ble_eq_true rfl)) d_Ru_blankLoneVariables_110 ⟨Nat.le_of_ble_eq_true rfl, Nat.le_of_ble_eq_true rfl⟩) hw (fun r_8 _ H locs h hw => ?_)
      obtain ⟨hin, h⟩ := h
      refine xm_iast hx hb hw 0 (k_C rf_7 v_3.2.2) rfl hin d_Ru_blankLoneVariables_113 (fun H locs hw => ?_)
      have hw : xm_W D xcl (xT cI cZ cJ cO) (xm_A ad (CE rf rc) s.heap.size) ad (CE rf_7 (upd v_3.2.2 (Int32.toNatClampNeg v_3.1) r_8)) s s.heap H locs := xm_W.cast (u_C rf_7 v_3.2.2 (upd v_3.2.2 (Int32.toNatClampNeg v_3.1) r_8)) hw
      obtain ⟨rc_10, erc_10⟩ : ∃ z : Nat → Int32, z = upd v_3.2.2 (Int32.toNatClampNeg v_3.1) r_8 := ⟨_, rfl⟩
      have h := h rc_10 erc_10
      rw [← erc_10] at hw
      obtain ⟨x_11, ex_11⟩ : ∃ y : Int32, y = v_3.1 + 1 := ⟨_, rfl⟩
      have h := h x_11 ex_11
      refine lv_iinc (v := x_11) (lv' := [(3, .int x_11), (2, .int v_1.2.1), (0, .ref (ad iU))]) hx hb d_Ru_blankLoneVariables_114 hl (k := 0) rfl (by rw [ex_11]; rfl) (by decide) rfl (fun ls hl => ?_)
      refine lv_goto (tgt := 74) hx hb d_Ru_blankLoneVariables_117 (by decide) ?_
      exact hK_4 (x_11, rf_7, rc_10) h _ _ _ hw (lv_sub hl [0, 1, 2] rfl)
  · have h := h.2 hc
    refine lv_iload_n hx hb d_Ru_blankLoneVariables_14 rfl (lv_at hl 1 rfl) ?_
    refine lv_iload_n hx hb d_Ru_blankLoneVariables_15 rfl (lv_at hl 2 rfl) ?_
    refine lv_aload_n hx hb d_Ru_blankLoneVariables_16 rfl (lv_at hl 3 rfl) ?_
    refine xm_get (D := D) (v := .ref (ad iB)) (C := R_Ru) (T := F_Ru) (N := 4) hx hb hts (fun w h => List.mem_cons_of_mem _ (i_Ru w h)) hown hw (k_U rf rc) rfl 1 (by decide) (hts _ (List.mem_cons_of_mem _ xw_89)) (fun _ h9 => h9) rfl d_Ru_blankLoneVariables_17 ?_
    refine lv_iload_n hx hb d_Ru_blankLoneVariables_20 rfl (lv_at hl 0 rfl) ?_
    obtain ⟨hin, h⟩ := h
    refine xm_iald hx hb hw 0 (k_B rf rc) rfl hin d_Ru_blankLoneVariables_21 ?_
    refine xm_calli (ua := fun _ => ad) (va_runSN (As := [.int (rf (Int32.toNatClampNeg v_1.1))]) (rest := [.int v_1.2.2, .int v_1.2.1]) ⟨hx, hb, hml, hown, hts⟩ (c_Qd_variableBit (D := D) (ad := ad) (CE := ((CE rf rc)))   h _) (xg_cnS 1 hts xw_394 hw.nst.1 xw_1 xw_393 rfl rfl (by decide +kernel) ⟨Nat.le_of_ble_eq_true rfl, Nat.le_of_ble_eq_true rfl⟩) (xm_pre hw _) rfl rfl hl.1 rfl (lv_room (Nat.le_of_ble_eq_true rfl)) d_Ru_blankLoneVariables_22 ⟨Nat.le_of_ble_eq_true rfl, Nat.le_of_ble_eq_true rfl⟩) hw (fun r_12 _ H locs h hw => ?_)
    refine lv_iand hx hb d_Ru_blankLoneVariables_25 ?_
    refine lv_ior hx hb d_Ru_blankLoneVariables_26 ?_
    refine lv_topi (fun x_14 ex_14 => ?_)
    have h := h x_14 ex_14
    refine lv_istore_n (lv' := [(2, .int x_14), (3, .int v_1.1), (1, .int v_1.2.2), (0, .ref (ad iU))]) hx hb d_Ru_blankLoneVariables_27 rfl hl (by decide) rfl (fun ls hl => ?_)
    refine lv_iload_n hx hb d_Ru_blankLoneVariables_28 rfl (lv_at hl 2 rfl) ?_
    refine lv_aload_n hx hb d_Ru_blankLoneVariables_29 rfl (lv_at hl 3 rfl) ?_
    refine xm_get (D := D) (v := .ref (ad iB)) (C := R_Ru) (T := F_Ru) (N := 4) hx hb hts (fun w h => List.mem_cons_of_mem _ (i_Ru w h)) hown hw (k_U rf rc) rfl 1 (by decide) (hts _ (List.mem_cons_of_mem _ xw_89)) (fun _ h9 => h9) rfl d_Ru_blankLoneVariables_30 ?_
    refine lv_iload_n hx hb d_Ru_blankLoneVariables_33 rfl (lv_at hl 1 rfl) ?_
    obtain ⟨hin, h⟩ := h
    refine xm_iald hx hb hw 0 (k_B rf rc) rfl hin d_Ru_blankLoneVariables_34 ?_
    refine xm_calli (ua := fun _ => ad) (va_runSN (As := [.int (rf (Int32.toNatClampNeg v_1.1))]) (rest := [.int v_1.2.2]) ⟨hx, hb, hml, hown, hts⟩ (c_Qd_variableBit (D := D) (ad := ad) (CE := ((CE rf rc)))   h _) (xg_cnS 1 hts xw_394 hw.nst.1 xw_1 xw_393 rfl rfl (by decide +kernel) ⟨Nat.le_of_ble_eq_true rfl, Nat.le_of_ble_eq_true rfl⟩) (xm_pre hw _) rfl rfl hl.1 rfl (lv_room (Nat.le_of_ble_eq_true rfl)) d_Ru_blankLoneVariables_35 ⟨Nat.le_of_ble_eq_true rfl, Nat.le_of_ble_eq_true rfl⟩) hw (fun r_15 _ H locs h hw => ?_)
    refine lv_ior hx hb d_Ru_blankLoneVariables_38 ?_
    refine lv_topi (fun x_17 ex_17 => ?_)
    have h := h x_17 ex_17
    refine lv_istore_n (lv' := [(1, .int x_17), (2, .int x_14), (3, .int v_1.1), (0, .ref (ad iU))]) hx hb d_Ru_blankLoneVariables_39 rfl hl (by decide) rfl (fun ls hl => ?_)
    refine lv_iload_n hx hb d_Ru_blankLoneVariables_40 rfl (lv_at hl 1 rfl) ?_
    refine lv_iload_n hx hb d_Ru_blankLoneVariables_41 rfl (lv_at hl 0 rfl) ?_
    refine lv_aload_n hx hb d_Ru_blankLoneVariables_42 rfl (lv_at hl 3 rfl) ?_
    refine xm_get (D := D) (v := .ref (ad iC)) (C := R_Ru) (T := F_Ru) (N := 4) hx hb hts (fun w h => List.mem_cons_of_mem _ (i_Ru w h)) hown hw (k_U rf rc) rfl 2 (by decide) (hts _ (List.mem_cons_of_mem _ xw_92)) (fun _ h9 => h9) rfl d_Ru_blankLoneVariables_43 ?_
    refine lv_iload_n hx hb d_Ru_blankLoneVariables_46 rfl (lv_at hl 2 rfl) ?_
    obtain ⟨hin, h⟩ := h
    refine xm_iald hx hb hw 0 (k_C rf rc) rfl hin d_Ru_blankLoneVariables_47 ?_
    refine xm_calli (ua := fun _ => ad) (va_runSN (As := [.int (rc (Int32.toNatClampNeg v_1.1))]) (rest := [.int x_17, .int x_14]) ⟨hx, hb, hml, hown, hts⟩ (c_Qd_variableBit (D := D) (ad := ad) (CE := ((CE rf rc)))   h _) (xg_cnS 1 hts xw_394 hw.nst.1 xw_1 xw_393 rfl rfl (by decide +kernel) ⟨Nat.le_of_ble_eq_true rfl, Nat.le_of_ble_eq_true rfl⟩) (xm_pre hw _) rfl rfl hl.1 rfl (lv_room (Nat.le_of_ble_eq_true rfl)) d_Ru_blankLoneVariables_48 ⟨Nat.le_of_ble_eq_true rfl, Nat.le_of_ble_eq_true rfl⟩) hw (fun r_18 _ H locs h hw => ?_)
    refine lv_iand hx hb d_Ru_blankLoneVariables_51 ?_
    refine lv_ior hx hb d_Ru_blankLoneVariables_52 ?_
    refine lv_topi (fun x_20 ex_20 => ?_)
    have h := h x_20 ex_20
    refine lv_istore_n (lv' := [(2, .int x_20), (1, .int x_17), (3, .int v_1.1), (0, .ref (ad iU))]) hx hb d_Ru_blankLoneVariables_53 rfl hl (by decide) rfl (fun ls hl => ?_)
    refine lv_iload_n hx hb d_Ru_blankLoneVariables_54 rfl (lv_at hl 1 rfl) ?_
    refine lv_aload_n hx hb d_Ru_blankLoneVariables_55 rfl (lv_at hl 3 rfl) ?_
    refine xm_get (D := D) (v := .ref (ad iC)) (C := R_Ru) (T := F_Ru) (N := 4) hx hb hts (fun w h => List.mem_cons_of_mem _ (i_Ru w h)) hown hw (k_U rf rc) rfl 2 (by decide) (hts _ (List.mem_cons_of_mem _ xw_92)) (fun _ h9 => h9) rfl d_Ru_blankLoneVariables_56 ?_
    refine lv_iload_n hx hb d_Ru_blankLoneVariables_59 rfl (lv_at hl 2 rfl) ?_
    obtain ⟨hin, h⟩ := h
    refine xm_iald hx hb hw 0 (k_C rf rc) rfl hin d_Ru_blankLoneVariables_60 ?_
    refine xm_calli (ua := fun _ => ad) (va_runSN (As := [.int (rc (Int32.toNatClampNeg v_1.1))]) (rest := [.int x_17]) ⟨hx, hb, hml, hown, hts⟩ (c_Qd_variableBit (D := D) (ad := ad) (CE := ((CE rf rc)))   h _) (xg_cnS 1 hts xw_394 hw.nst.1 xw_1 xw_393 rfl rfl (by decide +kernel) ⟨Nat.le_of_ble_eq_true rfl, Nat.le_of_ble_eq_true rfl⟩) (xm_pre hw _) rfl rfl hl.1 rfl (lv_room (Nat.le_of_ble_eq_true rfl)) d_Ru_blankLoneVariables_61 ⟨Nat.le_of_ble_eq_true rfl, Nat.le_of_ble_eq_true rfl⟩) hw (fun r_21 _ H locs h hw => ?_)
    refine lv_ior hx hb d_Ru_blankLoneVariables_64 ?_
    refine lv_topi (fun x_23 ex_23 => ?_)
    have h := h x_23 ex_23
    refine lv_istore_n (lv' := [(1, .int x_23), (2, .int x_20), (3, .int v_1.1), (0, .ref (ad iU))]) hx hb d_Ru_blankLoneVariables_65 rfl hl (by decide) rfl (fun ls hl => ?_)
    obtain ⟨x_24, ex_24⟩ : ∃ y : Int32, y = v_1.1 + 1 := ⟨_, rfl⟩
    have h := h x_24 ex_24
    refine lv_iinc (v := x_24) (lv' := [(3, .int x_24), (1, .int x_23), (2, .int x_20), (0, .ref (ad iU))]) hx hb d_Ru_blankLoneVariables_66 hl (k := 2) rfl (by rw [ex_24]; rfl) (by decide) rfl (fun ls hl => ?_)
    refine lv_goto (tgt := 6) hx hb d_Ru_blankLoneVariables_69 (by decide) ?_
    exact hK_2 (x_24, x_20, x_23) h _ _ _ hw (lv_sub hl [0, 2, 1, 3] rfl)
