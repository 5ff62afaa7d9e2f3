abbrev b_Qd_demand : ByteArray := prog_1_method_17_code
def y_Qd_demand : MethodName := ⟨"QuestionDesk", "demand", "(Z)V"⟩
theorem d_Qd_demand_0 : decode b_Qd_demand 0 = .ok (.iload_n 0, 1) := by decide +kernel
theorem d_Qd_demand_1 : decode b_Qd_demand 1 = .ok (.ifCond .ne 13, 3) := by decide +kernel
theorem d_Qd_demand_4 : decode b_Qd_demand 4 = .ok (.new 171, 3) := by decide +kernel
theorem d_Qd_demand_7 : decode b_Qd_demand 7 = .ok (.dup, 1) := by decide +kernel
theorem d_Qd_demand_8 : decode b_Qd_demand 8 = .ok (.ldc 173, 2) := by decide +kernel
theorem d_Qd_demand_10 : decode b_Qd_demand 10 = .ok (.invokespecial 175, 3) := by decide +kernel
theorem d_Qd_demand_13 : decode b_Qd_demand 13 = .ok (.athrow, 1) := by decide +kernel
theorem d_Qd_demand_14 : decode b_Qd_demand 14 = .ok (.return_, 1) := by decide +kernel
abbrev b_Qd_predicate : ByteArray := prog_1_method_2_code
def y_Qd_predicate : MethodName := ⟨"QuestionDesk", "predicate", "(IZ)I"⟩
theorem d_Qd_predicate_0 : decode b_Qd_predicate 0 = .ok (.iload_n 1, 1) := by decide +kernel
theorem d_Qd_predicate_1 : decode b_Qd_predicate 1 = .ok (.iconst 1, 1) := by decide +kernel
theorem d_Qd_predicate_2 : decode b_Qd_predicate 2 = .ok (.if_icmp .eq 8, 3) := by decide +kernel
theorem d_Qd_predicate_5 : decode b_Qd_predicate 5 = .ok (.iload_n 1, 1) := by decide +kernel
theorem d_Qd_predicate_6 : decode b_Qd_predicate 6 = .ok (.iconst 2, 1) := by decide +kernel
theorem d_Qd_predicate_7 : decode b_Qd_predicate 7 = .ok (.if_icmp .ne 7, 3) := by decide +kernel
theorem d_Qd_predicate_10 : decode b_Qd_predicate 10 = .ok (.iconst 1, 1) := by decide +kernel
theorem d_Qd_predicate_11 : decode b_Qd_predicate 11 = .ok (.goto 4, 3) := by decide +kernel
theorem d_Qd_predicate_14 : decode b_Qd_predicate 14 = .ok (.iconst 0, 1) := by decide +kernel
theorem d_Qd_predicate_15 : decode b_Qd_predicate 15 = .ok (.invokestatic 67, 3) := by decide +kernel
theorem d_Qd_predicate_18 : decode b_Qd_predicate 18 = .ok (.aload_n 0, 1) := by decide +kernel
theorem d_Qd_predicate_19 : decode b_Qd_predicate 19 = .ok (.getfield 17, 3) := by decide +kernel
theorem d_Qd_predicate_22 : decode b_Qd_predicate 22 = .ok (.bipush 10, 2) := by decide +kernel
theorem d_Qd_predicate_24 : decode b_Qd_predicate 24 = .ok (.if_icmp .lt 5, 3) := by decide +kernel
theorem d_Qd_predicate_27 : decode b_Qd_predicate 27 = .ok (.iconst (-1), 1) := by decide +kernel
theorem d_Qd_predicate_28 : decode b_Qd_predicate 28 = .ok (.ireturn, 1) := by decide +kernel
theorem d_Qd_predicate_29 : decode b_Qd_predicate 29 = .ok (.aload_n 0, 1) := by decide +kernel
theorem d_Qd_predicate_30 : decode b_Qd_predicate 30 = .ok (.getfield 17, 3) := by decide +kernel
theorem d_Qd_predicate_33 : decode b_Qd_predicate 33 = .ok (.istore_n 3, 1) := by decide +kernel
theorem d_Qd_predicate_34 : decode b_Qd_predicate 34 = .ok (.aload_n 0, 1) := by decide +kernel
theorem d_Qd_predicate_35 : decode b_Qd_predicate 35 = .ok (.getfield 9, 3) := by decide +kernel
theorem d_Qd_predicate_38 : decode b_Qd_predicate 38 = .ok (.iload_n 3, 1) := by decide +kernel
theorem d_Qd_predicate_39 : decode b_Qd_predicate 39 = .ok (.iload_n 1, 1) := by decide +kernel
theorem d_Qd_predicate_40 : decode b_Qd_predicate 40 = .ok (.iastore, 1) := by decide +kernel
theorem d_Qd_predicate_41 : decode b_Qd_predicate 41 = .ok (.aload_n 0, 1) := by decide +kernel
theorem d_Qd_predicate_42 : decode b_Qd_predicate 42 = .ok (.getfield 13, 3) := by decide +kernel
theorem d_Qd_predicate_45 : decode b_Qd_predicate 45 = .ok (.iload_n 3, 1) := by decide +kernel
theorem d_Qd_predicate_46 : decode b_Qd_predicate 46 = .ok (.iload_n 2, 1) := by decide +kernel
theorem d_Qd_predicate_47 : decode b_Qd_predicate 47 = .ok (.bastore, 1) := by decide +kernel
theorem d_Qd_predicate_48 : decode b_Qd_predicate 48 = .ok (.aload_n 0, 1) := by decide +kernel
theorem d_Qd_predicate_49 : decode b_Qd_predicate 49 = .ok (.dup, 1) := by decide +kernel
theorem d_Qd_predicate_50 : decode b_Qd_predicate 50 = .ok (.getfield 17, 3) := by decide +kernel
theorem d_Qd_predicate_53 : decode b_Qd_predicate 53 = .ok (.iconst 1, 1) := by decide +kernel
theorem d_Qd_predicate_54 : decode b_Qd_predicate 54 = .ok (.iadd, 1) := by decide +kernel
theorem d_Qd_predicate_55 : decode b_Qd_predicate 55 = .ok (.putfield 17, 3) := by decide +kernel
theorem d_Qd_predicate_58 : decode b_Qd_predicate 58 = .ok (.iload_n 3, 1) := by decide +kernel
theorem d_Qd_predicate_59 : decode b_Qd_predicate 59 = .ok (.ireturn, 1) := by decide +kernel
abbrev b_Qd_fact : ByteArray := prog_1_method_3_code
def y_Qd_fact : MethodName := ⟨"QuestionDesk", "fact", "(III)Z"⟩
theorem d_Qd_fact_0 : decode b_Qd_fact 0 = .ok (.aload_n 0, 1) := by decide +kernel
theorem d_Qd_fact_1 : decode b_Qd_fact 1 = .ok (.iload_n 1, 1) := by decide +kernel
theorem d_Qd_fact_2 : decode b_Qd_fact 2 = .ok (.iload_n 2, 1) := by decide +kernel
theorem d_Qd_fact_3 : decode b_Qd_fact 3 = .ok (.iload_n 3, 1) := by decide +kernel
theorem d_Qd_fact_4 : decode b_Qd_fact 4 = .ok (.iconst 0, 1) := by decide +kernel
theorem d_Qd_fact_5 : decode b_Qd_fact 5 = .ok (.bipush 9, 2) := by decide +kernel
theorem d_Qd_fact_7 : decode b_Qd_fact 7 = .ok (.invokevirtual 71, 3) := by decide +kernel
theorem d_Qd_fact_10 : decode b_Qd_fact 10 = .ok (.ifCond .eq 16, 3) := by decide +kernel
theorem d_Qd_fact_13 : decode b_Qd_fact 13 = .ok (.aload_n 0, 1) := by decide +kernel
theorem d_Qd_fact_14 : decode b_Qd_fact 14 = .ok (.getfield 13, 3) := by decide +kernel
theorem d_Qd_fact_17 : decode b_Qd_fact 17 = .ok (.iload_n 1, 1) := by decide +kernel
theorem d_Qd_fact_18 : decode b_Qd_fact 18 = .ok (.baload, 1) := by decide +kernel
theorem d_Qd_fact_19 : decode b_Qd_fact 19 = .ok (.ifCond .ne 7, 3) := by decide +kernel
theorem d_Qd_fact_22 : decode b_Qd_fact 22 = .ok (.iconst 1, 1) := by decide +kernel
theorem d_Qd_fact_23 : decode b_Qd_fact 23 = .ok (.goto 4, 3) := by decide +kernel
theorem d_Qd_fact_26 : decode b_Qd_fact 26 = .ok (.iconst 0, 1) := by decide +kernel
theorem d_Qd_fact_27 : decode b_Qd_fact 27 = .ok (.invokestatic 67, 3) := by decide +kernel
theorem d_Qd_fact_30 : decode b_Qd_fact 30 = .ok (.aload_n 0, 1) := by decide +kernel
theorem d_Qd_fact_31 : decode b_Qd_fact 31 = .ok (.getfield 35, 3) := by decide +kernel
theorem d_Qd_fact_34 : decode b_Qd_fact 34 = .ok (.bipush 20, 2) := by decide +kernel
theorem d_Qd_fact_36 : decode b_Qd_fact 36 = .ok (.iload_n 1, 1) := by decide +kernel
theorem d_Qd_fact_37 : decode b_Qd_fact 37 = .ok (.iadd, 1) := by decide +kernel
theorem d_Qd_fact_38 : decode b_Qd_fact 38 = .ok (.iload_n 2, 1) := by decide +kernel
theorem d_Qd_fact_39 : decode b_Qd_fact 39 = .ok (.iload_n 3, 1) := by decide +kernel
theorem d_Qd_fact_40 : decode b_Qd_fact 40 = .ok (.invokevirtual 75, 3) := by decide +kernel
theorem d_Qd_fact_43 : decode b_Qd_fact 43 = .ok (.ireturn, 1) := by decide +kernel
abbrev b_Qd_drop : ByteArray := prog_1_method_4_code
def y_Qd_drop : MethodName := ⟨"QuestionDesk", "drop", "(III)Z"⟩
theorem d_Qd_drop_0 : decode b_Qd_drop 0 = .ok (.aload_n 0, 1) := by decide +kernel
theorem d_Qd_drop_1 : decode b_Qd_drop 1 = .ok (.iload_n 1, 1) := by decide +kernel
theorem d_Qd_drop_2 : decode b_Qd_drop 2 = .ok (.iload_n 2, 1) := by decide +kernel
theorem d_Qd_drop_3 : decode b_Qd_drop 3 = .ok (.iload_n 3, 1) := by decide +kernel
theorem d_Qd_drop_4 : decode b_Qd_drop 4 = .ok (.iconst 0, 1) := by decide +kernel
theorem d_Qd_drop_5 : decode b_Qd_drop 5 = .ok (.bipush 9, 2) := by decide +kernel
theorem d_Qd_drop_7 : decode b_Qd_drop 7 = .ok (.invokevirtual 71, 3) := by decide +kernel
theorem d_Qd_drop_10 : decode b_Qd_drop 10 = .ok (.ifCond .eq 16, 3) := by decide +kernel
theorem d_Qd_drop_13 : decode b_Qd_drop 13 = .ok (.aload_n 0, 1) := by decide +kernel
theorem d_Qd_drop_14 : decode b_Qd_drop 14 = .ok (.getfield 13, 3) := by decide +kernel
theorem d_Qd_drop_17 : decode b_Qd_drop 17 = .ok (.iload_n 1, 1) := by decide +kernel
theorem d_Qd_drop_18 : decode b_Qd_drop 18 = .ok (.baload, 1) := by decide +kernel
theorem d_Qd_drop_19 : decode b_Qd_drop 19 = .ok (.ifCond .ne 7, 3) := by decide +kernel
theorem d_Qd_drop_22 : decode b_Qd_drop 22 = .ok (.iconst 1, 1) := by decide +kernel
theorem d_Qd_drop_23 : decode b_Qd_drop 23 = .ok (.goto 4, 3) := by decide +kernel
theorem d_Qd_drop_26 : decode b_Qd_drop 26 = .ok (.iconst 0, 1) := by decide +kernel
theorem d_Qd_drop_27 : decode b_Qd_drop 27 = .ok (.invokestatic 67, 3) := by decide +kernel
theorem d_Qd_drop_30 : decode b_Qd_drop 30 = .ok (.aload_n 0, 1) := by decide +kernel
theorem d_Qd_drop_31 : decode b_Qd_drop 31 = .ok (.getfield 35, 3) := by decide +kernel
theorem d_Qd_drop_34 : decode b_Qd_drop 34 = .ok (.bipush 20, 2) := by decide +kernel
theorem d_Qd_drop_36 : decode b_Qd_drop 36 = .ok (.iload_n 1, 1) := by decide +kernel
theorem d_Qd_drop_37 : decode b_Qd_drop 37 = .ok (.iadd, 1) := by decide +kernel
theorem d_Qd_drop_38 : decode b_Qd_drop 38 = .ok (.iload_n 2, 1) := by decide +kernel
theorem d_Qd_drop_39 : decode b_Qd_drop 39 = .ok (.iload_n 3, 1) := by decide +kernel
theorem d_Qd_drop_40 : decode b_Qd_drop 40 = .ok (.invokevirtual 79, 3) := by decide +kernel
theorem d_Qd_drop_43 : decode b_Qd_drop 43 = .ok (.ireturn, 1) := by decide +kernel
abbrev b_Qd_holds : ByteArray := prog_1_method_11_code
def y_Qd_holds : MethodName := ⟨"QuestionDesk", "holds", "(III)Z"⟩
theorem d_Qd_holds_0 : decode b_Qd_holds 0 = .ok (.aload_n 0, 1) := by decide +kernel
theorem d_Qd_holds_1 : decode b_Qd_holds 1 = .ok (.iload_n 1, 1) := by decide +kernel
theorem d_Qd_holds_2 : decode b_Qd_holds 2 = .ok (.iload_n 2, 1) := by decide +kernel
theorem d_Qd_holds_3 : decode b_Qd_holds 3 = .ok (.iload_n 3, 1) := by decide +kernel
theorem d_Qd_holds_4 : decode b_Qd_holds 4 = .ok (.iconst 0, 1) := by decide +kernel
theorem d_Qd_holds_5 : decode b_Qd_holds 5 = .ok (.bipush 9, 2) := by decide +kernel
theorem d_Qd_holds_7 : decode b_Qd_holds 7 = .ok (.invokevirtual 71, 3) := by decide +kernel
theorem d_Qd_holds_10 : decode b_Qd_holds 10 = .ok (.invokestatic 67, 3) := by decide +kernel
theorem d_Qd_holds_13 : decode b_Qd_holds 13 = .ok (.aload_n 0, 1) := by decide +kernel
theorem d_Qd_holds_14 : decode b_Qd_holds 14 = .ok (.getfield 35, 3) := by decide +kernel
theorem d_Qd_holds_17 : decode b_Qd_holds 17 = .ok (.iconst 0, 1) := by decide +kernel
theorem d_Qd_holds_18 : decode b_Qd_holds 18 = .ok (.iload_n 1, 1) := by decide +kernel
theorem d_Qd_holds_19 : decode b_Qd_holds 19 = .ok (.iadd, 1) := by decide +kernel
theorem d_Qd_holds_20 : decode b_Qd_holds 20 = .ok (.iload_n 2, 1) := by decide +kernel
theorem d_Qd_holds_21 : decode b_Qd_holds 21 = .ok (.iload_n 3, 1) := by decide +kernel
theorem d_Qd_holds_22 : decode b_Qd_holds 22 = .ok (.invokevirtual 140, 3) := by decide +kernel
theorem d_Qd_holds_25 : decode b_Qd_holds 25 = .ok (.ireturn, 1) := by decide +kernel
abbrev b_Qd_wanted : ByteArray := prog_1_method_12_code
def y_Qd_wanted : MethodName := ⟨"QuestionDesk", "wanted", "(III)Z"⟩
theorem d_Qd_wanted_0 : decode b_Qd_wanted 0 = .ok (.aload_n 0, 1) := by decide +kernel
theorem d_Qd_wanted_1 : decode b_Qd_wanted 1 = .ok (.iload_n 1, 1) := by decide +kernel
theorem d_Qd_wanted_2 : decode b_Qd_wanted 2 = .ok (.iload_n 2, 1) := by decide +kernel
theorem d_Qd_wanted_3 : decode b_Qd_wanted 3 = .ok (.iload_n 3, 1) := by decide +kernel
theorem d_Qd_wanted_4 : decode b_Qd_wanted 4 = .ok (.iconst 0, 1) := by decide +kernel
theorem d_Qd_wanted_5 : decode b_Qd_wanted 5 = .ok (.bipush 9, 2) := by decide +kernel
theorem d_Qd_wanted_7 : decode b_Qd_wanted 7 = .ok (.invokevirtual 71, 3) := by decide +kernel
theorem d_Qd_wanted_10 : decode b_Qd_wanted 10 = .ok (.invokestatic 67, 3) := by decide +kernel
theorem d_Qd_wanted_13 : decode b_Qd_wanted 13 = .ok (.aload_n 0, 1) := by decide +kernel
theorem d_Qd_wanted_14 : decode b_Qd_wanted 14 = .ok (.iload_n 1, 1) := by decide +kernel
theorem d_Qd_wanted_15 : decode b_Qd_wanted 15 = .ok (.iload_n 2, 1) := by decide +kernel
theorem d_Qd_wanted_16 : decode b_Qd_wanted 16 = .ok (.invokevirtual 143, 3) := by decide +kernel
theorem d_Qd_wanted_19 : decode b_Qd_wanted 19 = .ok (.iload_n 3, 1) := by decide +kernel
theorem d_Qd_wanted_20 : decode b_Qd_wanted 20 = .ok (.invokestatic 147, 3) := by decide +kernel
theorem d_Qd_wanted_23 : decode b_Qd_wanted 23 = .ok (.ireturn, 1) := by decide +kernel
abbrev b_Qd_called : ByteArray := prog_1_method_13_code
def y_Qd_called : MethodName := ⟨"QuestionDesk", "called", "(III)Z"⟩
theorem d_Qd_called_0 : decode b_Qd_called 0 = .ok (.aload_n 0, 1) := by decide +kernel
theorem d_Qd_called_1 : decode b_Qd_called 1 = .ok (.iload_n 1, 1) := by decide +kernel
theorem d_Qd_called_2 : decode b_Qd_called 2 = .ok (.iload_n 2, 1) := by decide +kernel
theorem d_Qd_called_3 : decode b_Qd_called 3 = .ok (.iload_n 3, 1) := by decide +kernel
theorem d_Qd_called_4 : decode b_Qd_called 4 = .ok (.iconst (-1), 1) := by decide +kernel
theorem d_Qd_called_5 : decode b_Qd_called 5 = .ok (.bipush 9, 2) := by decide +kernel
theorem d_Qd_called_7 : decode b_Qd_called 7 = .ok (.invokevirtual 71, 3) := by decide +kernel
theorem d_Qd_called_10 : decode b_Qd_called 10 = .ok (.invokestatic 67, 3) := by decide +kernel
theorem d_Qd_called_13 : decode b_Qd_called 13 = .ok (.aload_n 0, 1) := by decide +kernel
theorem d_Qd_called_14 : decode b_Qd_called 14 = .ok (.getfield 35, 3) := by decide +kernel
theorem d_Qd_called_17 : decode b_Qd_called 17 = .ok (.bipush 10, 2) := by decide +kernel
theorem d_Qd_called_19 : decode b_Qd_called 19 = .ok (.iload_n 1, 1) := by decide +kernel
theorem d_Qd_called_20 : decode b_Qd_called 20 = .ok (.iadd, 1) := by decide +kernel
theorem d_Qd_called_21 : decode b_Qd_called 21 = .ok (.iload_n 2, 1) := by decide +kernel
theorem d_Qd_called_22 : decode b_Qd_called 22 = .ok (.iload_n 3, 1) := by decide +kernel
theorem d_Qd_called_23 : decode b_Qd_called 23 = .ok (.invokevirtual 140, 3) := by decide +kernel
theorem d_Qd_called_26 : decode b_Qd_called 26 = .ok (.ireturn, 1) := by decide +kernel
abbrev b_Qd_ask : ByteArray := prog_1_method_9_code
def y_Qd_ask : MethodName := ⟨"QuestionDesk", "ask", "(III)I"⟩
theorem d_Qd_ask_0 : decode b_Qd_ask 0 = .ok (.aload_n 0, 1) := by decide +kernel
theorem d_Qd_ask_1 : decode b_Qd_ask 1 = .ok (.iload_n 1, 1) := by decide +kernel
theorem d_Qd_ask_2 : decode b_Qd_ask 2 = .ok (.iload_n 2, 1) := by decide +kernel
theorem d_Qd_ask_3 : decode b_Qd_ask 3 = .ok (.iload_n 3, 1) := by decide +kernel
theorem d_Qd_ask_4 : decode b_Qd_ask 4 = .ok (.iconst 0, 1) := by decide +kernel
theorem d_Qd_ask_5 : decode b_Qd_ask 5 = .ok (.bipush 17, 2) := by decide +kernel
theorem d_Qd_ask_7 : decode b_Qd_ask 7 = .ok (.invokevirtual 71, 3) := by decide +kernel
theorem d_Qd_ask_10 : decode b_Qd_ask 10 = .ok (.invokestatic 67, 3) := by decide +kernel
theorem d_Qd_ask_13 : decode b_Qd_ask 13 = .ok (.aload_n 0, 1) := by decide +kernel
theorem d_Qd_ask_14 : decode b_Qd_ask 14 = .ok (.iconst 1, 1) := by decide +kernel
theorem d_Qd_ask_15 : decode b_Qd_ask 15 = .ok (.putfield 60, 3) := by decide +kernel
theorem d_Qd_ask_18 : decode b_Qd_ask 18 = .ok (.aload_n 0, 1) := by decide +kernel
theorem d_Qd_ask_19 : decode b_Qd_ask 19 = .ok (.aload_n 0, 1) := by decide +kernel
theorem d_Qd_ask_20 : decode b_Qd_ask 20 = .ok (.getfield 17, 3) := by decide +kernel
theorem d_Qd_ask_23 : decode b_Qd_ask 23 = .ok (.putfield 64, 3) := by decide +kernel
theorem d_Qd_ask_26 : decode b_Qd_ask 26 = .ok (.aload_n 0, 1) := by decide +kernel
theorem d_Qd_ask_27 : decode b_Qd_ask 27 = .ok (.getfield 35, 3) := by decide +kernel
theorem d_Qd_ask_30 : decode b_Qd_ask 30 = .ok (.invokevirtual 119, 3) := by decide +kernel
theorem d_Qd_ask_33 : decode b_Qd_ask 33 = .ok (.aload_n 0, 1) := by decide +kernel
theorem d_Qd_ask_34 : decode b_Qd_ask 34 = .ok (.invokevirtual 122, 3) := by decide +kernel
theorem d_Qd_ask_37 : decode b_Qd_ask 37 = .ok (.aload_n 0, 1) := by decide +kernel
theorem d_Qd_ask_38 : decode b_Qd_ask 38 = .ok (.iload_n 1, 1) := by decide +kernel
theorem d_Qd_ask_39 : decode b_Qd_ask 39 = .ok (.iload_n 2, 1) := by decide +kernel
theorem d_Qd_ask_40 : decode b_Qd_ask 40 = .ok (.iload_n 3, 1) := by decide +kernel
theorem d_Qd_ask_41 : decode b_Qd_ask 41 = .ok (.invokevirtual 125, 3) := by decide +kernel
theorem d_Qd_ask_44 : decode b_Qd_ask 44 = .ok (.aload_n 0, 1) := by decide +kernel
theorem d_Qd_ask_45 : decode b_Qd_ask 45 = .ok (.iload_n 1, 1) := by decide +kernel
theorem d_Qd_ask_46 : decode b_Qd_ask 46 = .ok (.iload_n 2, 1) := by decide +kernel
theorem d_Qd_ask_47 : decode b_Qd_ask 47 = .ok (.iload_n 3, 1) := by decide +kernel
theorem d_Qd_ask_48 : decode b_Qd_ask 48 = .ok (.invokevirtual 128, 3) := by decide +kernel
theorem d_Qd_ask_51 : decode b_Qd_ask 51 = .ok (.aload_n 0, 1) := by decide +kernel
theorem d_Qd_ask_52 : decode b_Qd_ask 52 = .ok (.invokevirtual 131, 3) := by decide +kernel
theorem d_Qd_ask_55 : decode b_Qd_ask 55 = .ok (.aload_n 0, 1) := by decide +kernel
theorem d_Qd_ask_56 : decode b_Qd_ask 56 = .ok (.aload_n 0, 1) := by decide +kernel
theorem d_Qd_ask_57 : decode b_Qd_ask 57 = .ok (.invokevirtual 134, 3) := by decide +kernel
theorem d_Qd_ask_60 : decode b_Qd_ask 60 = .ok (.putfield 57, 3) := by decide +kernel
theorem d_Qd_ask_63 : decode b_Qd_ask 63 = .ok (.aload_n 0, 1) := by decide +kernel
theorem d_Qd_ask_64 : decode b_Qd_ask 64 = .ok (.getfield 35, 3) := by decide +kernel
theorem d_Qd_ask_67 : decode b_Qd_ask 67 = .ok (.bipush 30, 2) := by decide +kernel
theorem d_Qd_ask_69 : decode b_Qd_ask 69 = .ok (.invokevirtual 137, 3) := by decide +kernel
theorem d_Qd_ask_72 : decode b_Qd_ask 72 = .ok (.ireturn, 1) := by decide +kernel
theorem xw_240 : (Jvm.Cond.classLink "QuestionDesk" (171 : Nat) "java/lang/IllegalArgumentException") ∈ xg := xg_t (i := 240) (by decide +kernel) (by decide +kernel)
theorem xw_12 : (Jvm.Cond.initialized "java/lang/IllegalArgumentException") ∈ xg := xg_t (i := 12) (by decide +kernel) (by decide +kernel)
def wp_Qd_demand (post : Prop) (pex : String → Prop)  (ok : Int32) : Prop :=
((¬ ok = 0 →
post) ∧ (ok = 0 →
pex "java/lang/IllegalArgumentException"))
abbrev rm_Qd_demand : Room := { frames := 6, cells := 1, slots := 6, locals := 90 }
set_option maxHeartbeats 4000000 in
set_option maxRecDepth 100000 in
theorem c_Qd_demand {l : Launch} {D : va_G} {ad : Nat → Nat} (CE : Nat → Option va_E) {cI cZ cJ cO : ClassId}    {post : Prop} {ok : Int32} {pex : String → Prop} (hlt : l.stackTraces = false) (h : wp_Qd_demand post pex ok) : ∀ sz, vx_Met l y_Qd_demand (Cond.code y_Qd_demand b_Qd_demand 1 none :: xg) rm_Qd_demand (xv_Pc D xcl (xT cI cZ cJ cO) ad CE sz [.int ok]) (va_Qv (fun _ : Unit => post) (xm_B D xcl (xT cI cZ cJ cO) (xm_A ad CE sz) (fun _ => ad) (fun _ : Unit => CE)) (xm_A ad CE sz)) (xv_X D xcl (xT cI cZ cJ cO) (xm_A ad CE sz) ad CE pex) 1 6 (xm_A ad CE sz) := by
  refine xv_ofW (cc := b_Qd_demand) (maxL := 1) (ret := none) (by decide) rfl (Nat.le_of_ble_eq_true rfl) ?_
  intro p e s m args below meth c ls QQ hQQ hT hout hx hb hml hr hown hlk hnm hts hl hw
  have hl : lv_has ls 1 [(0, .int ok)] := hl
  unfold wp_Qd_demand at h
  refine lv_iload_n hx hb d_Qd_demand_0 rfl (lv_at hl 0 rfl) ?_
  refine lv_if_ne (tgt := 14) hx hb d_Qd_demand_1 (by decide) (fun hc => ?_) (fun hc => ?_)
  · have h := h.1 hc
    subst hQQ
    refine vx_ret (W.widen (k := 1) (n := 6) (by decide) (by decide) ?_)
    exact xm_vret hx hb hr hlk hw () rfl rfl h d_Qd_demand_14
  · have h := h.2 hc
    obtain ⟨sa, hsa⟩ := hT.1
    subst hQQ
    exact xv_throw (cls := "java/lang/IllegalArgumentException") (sa := sa) hx hb hlt hown hts hT (by decide +kernel) xw_240 xw_12 hsa (by decide +kernel) (by decide +kernel) hw (hl.1.trans hml.symm) d_Qd_demand_4 d_Qd_demand_7 d_Qd_demand_8 d_Qd_demand_10 d_Qd_demand_13 hout (by decide) (by decide) (by decide) (by decide) hlk h (by decide) (by decide)
theorem xw_239 : (Jvm.Cond.code ({ cls := "QuestionDesk", name := "demand", desc := "(Z)V" } : Jvm.MethodName) prog_1_method_17_code (1 : Nat) (Option.none : Option Jvm.ClassFile.FieldType)) ∈ xg := xg_t (i := 239) (by decide +kernel) (by decide +kernel)
theorem xw_237 : (Jvm.Cond.methodLink "QuestionDesk" (67 : Nat) ({ cls := "QuestionDesk", name := "demand", desc := "(Z)V" } : Jvm.MethodName)) ∈ xg := xg_t (i := 237) (by decide +kernel) (by decide +kernel)
theorem xw_238 : (Jvm.Cond.static ({ cls := "QuestionDesk", name := "demand", desc := "(Z)V" } : Jvm.MethodName)) ∈ xg := xg_t (i := 238) (by decide +kernel) (by decide +kernel)
def wp_Qd_predicate (post : Int32 → Int32 → (Nat → Int32) → (Nat → Int32) → Prop) (pex : String → Prop)  (np : Int32) (qpl : Nat → Int32) (qbr : Nat → Int32) (a0 : Int32) (a1 : Int32) : Prop :=
xj (fun (v_1 : Int32) =>
wp_Qd_demand (
((np < 10 →
vp_in np 10 ∧
∀ qpl_5 : Nat → Int32, qpl_5 = upd qpl (Int32.toNatClampNeg np) a0 →
vp_in np 10 ∧
∀ qbr_6 : Nat → Int32, qbr_6 = upd qbr (Int32.toNatClampNeg np) (vp_nar .boolean a1) →
post np (np + 1) qpl_5 qbr_6) ∧ (¬ np < 10 →
post (-1) np qpl qbr))) pex v_1) (fun (J_2 : Int32 → Prop) =>
xj (fun (v_7 : Unit) =>
J_2 1) (fun (J_8 : Unit → Prop) =>
((a0 = 1 →
J_8 ()) ∧ (¬ a0 = 1 →
((¬ a0 = 2 →
J_2 0) ∧ (a0 = 2 →
J_8 ()))))))
abbrev rm_Qd_predicate : Room := { frames := 7, cells := 1, slots := 6, locals := 110 }
set_option maxHeartbeats 4000000 in
set_option maxRecDepth 100000 in
theorem c_Qd_predicate {l : Launch} {D : va_G} {ad : Nat → Nat} (CE : Int32 → (Nat → Int32) → (Nat → Int32) → Nat → Option va_E) {cI cZ cJ cO : ClassId} {iQ : Nat} {ipl : Nat} {ibr : Nat} {iL : Nat} {iP : Nat} {iM : Nat} {iU : Nat} {ipt : Nat} {bg : Value} {rw : Int32} {aq : Int32} {pn : Int32} (k_Q : ∀ (np : Int32) (qpl : Nat → Int32) (qbr : Nat → Int32), (CE np qpl qbr) iQ = some (.inr (0, [.ref (ad ipl), .ref (ad ibr), .int np, .ref (ad iL), bg, .ref (ad iP), .ref (ad iM), .ref (ad iU), .ref (ad ipt), .int rw, .int aq, .int pn]))) (k_pl : ∀ (np : Int32) (qpl : Nat → Int32) (qbr : Nat → Int32), (CE np qpl qbr) ipl = some (.inl (cI, 10, .inl qpl))) (k_br : ∀ (np : Int32) (qpl : Nat → Int32) (qbr : Nat → Int32), (CE np qpl qbr) ibr = some (.inl (cZ, 10, .inl qbr))) (u_Q : ∀ (np : Int32) (qpl : Nat → Int32) (qbr : Nat → Int32) (np' : Int32), va_up (CE np qpl qbr) iQ (some (.inr (0, [.ref (ad ipl), .ref (ad ibr), .int np', .ref (ad iL), bg, .ref (ad iP), .ref (ad iM), .ref (ad iU), .ref (ad ipt), .int rw, .int aq, .int pn]))) = (CE np' qpl qbr)) (u_pl : ∀ (np : Int32) (qpl : Nat → Int32) (qbr : Nat → Int32) (qpl' : Nat → Int32), va_up (CE np qpl qbr) ipl (some (.inl (cI, 10, .inl qpl'))) = (CE np qpl' qbr)) (u_br : ∀ (np : Int32) (qpl : Nat → Int32) (qbr : Nat → Int32) (qbr' : Nat → Int32), va_up (CE np qpl qbr) ibr (some (.inl (cZ, 10, .inl qbr'))) = (CE np qpl qbr')) {post : Int32 → Int32 → (Nat → Int32) → (Nat → Int32) → Prop} {np : Int32} {qpl : Nat → Int32} {qbr : Nat → Int32} {a0 : Int32} {a1 : Int32} {pex : String → Prop} (hlt : l.stackTraces = false) (h : wp_Qd_predicate post pex np qpl qbr a0 a1) : ∀ sz, vx_Met l y_Qd_predicate (Cond.code y_Qd_predicate b_Qd_predicate 4 (some .int) :: xg) rm_Qd_predicate (xv_Pc D xcl (xT cI cZ cJ cO) ad (CE np qpl qbr) sz [.ref (ad iQ), .int a0, .int a1]) (va_Qi (fun (r : Int32) (u : Int32 × (Nat → Int32) × (Nat → Int32)) => post r u.1 u.2.1 u.2.2) (xm_B D xcl (xT cI cZ cJ cO) (xm_A ad (CE np qpl qbr) sz) (fun _ => ad) (fun u : Int32 × (Nat → Int32) × (Nat → Int32) => CE u.1 u.2.1 u.2.2)) (xm_A ad (CE np qpl qbr) sz)) (xv_X D xcl (xT cI cZ cJ cO) (xm_A ad (CE np qpl qbr) sz) ad (CE np qpl qbr) pex) 1 6 (xm_A ad (CE np qpl qbr) sz) := by
  refine xv_ofW (cc := b_Qd_predicate) (maxL := 4) (ret := (some .int)) (by decide) rfl (Nat.le_of_ble_eq_true rfl) ?_
  intro p e s m args below meth c ls QQ hQQ hT hout hx hb hml hr hown hlk hnm hts hl hw
  have hl : lv_has ls 4 [(0, .ref (ad iQ)), (1, .int a0), (2, .int a1)] := hl
  unfold wp_Qd_predicate at h
  refine lv_iload_n hx hb d_Qd_predicate_0 rfl (lv_at hl 1 rfl) ?_
  refine lv_iconst (v := 1) hx hb d_Qd_predicate_1 (by decide) ?_
  refine xj_use h (fun (v_1 : Int32) => ∀ (H : Heap) (locs : List Loc) (ls : Array Slot), xm_W D xcl (xT cI cZ cJ cO) (xm_A ad (CE np qpl qbr) s.heap.size) ad (CE np qpl qbr) s s.heap H locs → lv_has ls 4 [(0, .ref (ad iQ)), (1, .int a0), (2, .int a1)] → W p l e rm_Qd_predicate s m args below meth c H locs 0 0 QQ (F0 m 15 ls [.int v_1])) (fun v_1 h H locs ls hw hl => ?_) (fun J_2 hJ_2 h => ?_)
  · refine xv_callv (ua := fun _ => ad) (vx_runS (As := [.int v_1]) (rest := []) ⟨hx, hb, hml, hown, hts⟩ (c_Qd_demand (D := D) (ad := ad) (CE := ((CE np qpl qbr)))   hlt h _) (xg_cwS 1 hts xw_239 xw_237 xw_238 xw_1 rfl rfl (by decide +kernel) ⟨Nat.le_of_ble_eq_true rfl, Nat.le_of_ble_eq_true rfl⟩) (xv_pre hw hT _) rfl rfl hl.1 rfl (lv_room (Nat.le_of_ble_eq_true rfl)) d_Qd_predicate_15 ⟨Nat.le_of_ble_eq_true rfl, Nat.le_of_ble_eq_true rfl⟩) hw (fun E c9 q9 H locs hpx hw h1 h2 h3 => by subst hQQ; exact xv_out hout hlk hw hpx h1 h2 h3 (by decide) (by decide)) (fun _ H locs h hw => ?_)
    refine lv_aload_n hx hb d_Qd_predicate_18 rfl (lv_at hl 0 rfl) ?_
    refine xm_get (D := D) (v := .int np) (C := R_Qd) (T := F_Qd) (N := 12) hx hb hts (fun w h => List.mem_cons_of_mem _ (i_Qd w h)) hown hw (k_Q np qpl qbr) rfl 2 (by decide) (hts _ (List.mem_cons_of_mem _ xw_109)) (fun _ h9 => h9) rfl d_Qd_predicate_19 ?_
    refine lv_bipush (v := 10) hx hb d_Qd_predicate_22 (by decide) ?_
    refine lv_icmp_lt (tgt := 29) hx hb d_Qd_predicate_24 (by decide) (fun hc => ?_) (fun hc => ?_)
    · have h := h.1 hc
      refine lv_aload_n hx hb d_Qd_predicate_29 rfl (lv_at hl 0 rfl) ?_
      refine xm_get (D := D) (v := .int np) (C := R_Qd) (T := F_Qd) (N := 12) hx hb hts (fun w h => List.mem_cons_of_mem _ (i_Qd w h)) hown hw (k_Q np qpl qbr) rfl 2 (by decide) (hts _ (List.mem_cons_of_mem _ xw_109)) (fun _ h9 => h9) rfl d_Qd_predicate_30 ?_
      refine lv_istore_n (lv' := [(3, .int np), (0, .ref (ad iQ)), (1, .int a0), (2, .int a1)]) hx hb d_Qd_predicate_33 rfl hl (by decide) rfl (fun ls hl => ?_)
      refine lv_aload_n hx hb d_Qd_predicate_34 rfl (lv_at hl 1 rfl) ?_
      refine xm_get (D := D) (v := .ref (ad ipl)) (C := R_Qd) (T := F_Qd) (N := 12) hx hb hts (fun w h => List.mem_cons_of_mem _ (i_Qd w h)) hown hw (k_Q np qpl qbr) rfl 0 (by decide) (hts _ (List.mem_cons_of_mem _ xw_107)) (fun _ h9 => h9) rfl d_Qd_predicate_35 ?_
      refine lv_iload_n hx hb d_Qd_predicate_38 rfl (lv_at hl 0 rfl) ?_
      refine lv_iload_n hx hb d_Qd_predicate_39 rfl (lv_at hl 2 rfl) ?_
      obtain ⟨hin, h⟩ := h
      refine xm_iast hx hb hw 0 (k_pl np qpl qbr) rfl hin d_Qd_predicate_40 (fun H locs hw => ?_)
      have hw : xm_W D xcl (xT cI cZ cJ cO) (xm_A ad (CE np qpl qbr) s.heap.size) ad (CE np (upd qpl (Int32.toNatClampNeg np) a0) qbr) s s.heap H locs := xm_W.cast (u_pl np qpl qbr (upd qpl (Int32.toNatClampNeg np) a0)) hw
      obtain ⟨qpl_5, eqpl_5⟩ : ∃ z : Nat → Int32, z = upd qpl (Int32.toNatClampNeg np) a0 := ⟨_, rfl⟩
      have h := h qpl_5 eqpl_5
      rw [← eqpl_5] at hw
      refine lv_aload_n hx hb d_Qd_predicate_41 rfl (lv_at hl 1 rfl) ?_
      refine xm_get (D := D) (v := .ref (ad ibr)) (C := R_Qd) (T := F_Qd) (N := 12) hx hb hts (fun w h => List.mem_cons_of_mem _ (i_Qd w h)) hown hw (k_Q np qpl_5 qbr) rfl 1 (by decide) (hts _ (List.mem_cons_of_mem _ xw_108)) (fun _ h9 => h9) rfl d_Qd_predicate_42 ?_
      refine lv_iload_n hx hb d_Qd_predicate_45 rfl (lv_at hl 0 rfl) ?_
      refine lv_iload_n hx hb d_Qd_predicate_46 rfl (lv_at hl 3 rfl) ?_
      obtain ⟨hin, h⟩ := h
      refine xm_zast hx hb hw 1 (k_br np qpl_5 qbr) rfl hin d_Qd_predicate_47 (fun H locs hw => ?_)
      have hw : xm_W D xcl (xT cI cZ cJ cO) (xm_A ad (CE np qpl qbr) s.heap.size) ad (CE np qpl_5 (upd qbr (Int32.toNatClampNeg np) (vp_nar .boolean a1))) s s.heap H locs := xm_W.cast (u_br np qpl_5 qbr (upd qbr (Int32.toNatClampNeg np) (vp_nar .boolean a1))) hw
      obtain ⟨qbr_6, eqbr_6⟩ : ∃ z : Nat → Int32, z = upd qbr (Int32.toNatClampNeg np) (vp_nar .boolean a1) := ⟨_, rfl⟩
      have h := h qbr_6 eqbr_6
      rw [← eqbr_6] at hw
      refine lv_aload_n hx hb d_Qd_predicate_48 rfl (lv_at hl 1 rfl) ?_
      refine lv_dup hx hb d_Qd_predicate_49 rfl ?_
      refine xm_get (D := D) (v := .int np) (C := R_Qd) (T := F_Qd) (N := 12) hx hb hts (fun w h => List.mem_cons_of_mem _ (i_Qd w h)) hown hw (k_Q np qpl_5 qbr_6) rfl 2 (by decide) (hts _ (List.mem_cons_of_mem _ xw_109)) (fun _ h9 => h9) rfl d_Qd_predicate_50 ?_
      refine lv_iconst (v := 1) hx hb d_Qd_predicate_53 (by decide) ?_
      refine lv_iadd hx hb d_Qd_predicate_54 ?_
      refine xm_put (D := D) (v := .int (np + 1)) (ty := .int) (C := R_Qd) (T := F_Qd) (N := 12) hx hb hts (fun w h => List.mem_cons_of_mem _ (i_Qd w h)) t_Qd o_Qd n_Qd hown hw (k_Q np qpl_5 qbr_6) rfl 2 (by decide) (hts _ (List.mem_cons_of_mem _ xw_109)) (fun _ h9 => h9) rfl (by decide +kernel) rfl rfl (Nat.le_of_ble_eq_true rfl) d_Qd_predicate_55 (fun H locs hw => ?_)
      have hw : xm_W D xcl (xT cI cZ cJ cO) (xm_A ad (CE np qpl qbr) s.heap.size) ad (CE (np + 1) qpl_5 qbr_6) s s.heap H locs := xm_W.cast (u_Q np qpl_5 qbr_6 (np + 1)) hw
      refine lv_iload_n hx hb d_Qd_predicate_58 rfl (lv_at hl 0 rfl) ?_
      subst hQQ
      refine vx_ret (W.widen (k := 1) (n := 6) (by decide) (by decide) ?_)
      exact xm_iret hx hb hr hlk hw (np + 1, qpl_5, qbr_6) rfl rfl h d_Qd_predicate_59
    · have h := h.2 hc
      refine lv_iconst (v := (-1)) hx hb d_Qd_predicate_27 (by decide) ?_
      subst hQQ
      refine vx_ret (W.widen (k := 1) (n := 6) (by decide) (by decide) ?_)
      exact xm_iret hx hb hr hlk hw (np, qpl, qbr) rfl rfl h d_Qd_predicate_28
  · refine xj_use h (fun (v_7 : Unit) => ∀ (H : Heap) (locs : List Loc) (ls : Array Slot), xm_W D xcl (xT cI cZ cJ cO) (xm_A ad (CE np qpl qbr) s.heap.size) ad (CE np qpl qbr) s s.heap H locs → lv_has ls 4 [(0, .ref (ad iQ)), (1, .int a0), (2, .int a1)] → W p l e rm_Qd_predicate s m args below meth c H locs 0 0 QQ (F0 m 10 ls [])) (fun v_7 h H locs ls hw hl => ?_) (fun J_8 hJ_8 h => ?_)
    · refine lv_iconst (v := 1) hx hb d_Qd_predicate_10 (by decide) ?_
      refine lv_goto (tgt := 15) hx hb d_Qd_predicate_11 (by decide) ?_
      exact hJ_2 1 h _ _ _ hw (lv_sub hl [0, 1, 2] rfl)
    · refine lv_icmp_eq (tgt := 10) hx hb d_Qd_predicate_2 (by decide) (fun hc => ?_) (fun hc => ?_)
      · have h := h.1 hc
        exact hJ_8 () h _ _ _ hw (lv_sub hl [0, 1, 2] rfl)
      · have h := h.2 hc
        refine lv_iload_n hx hb d_Qd_predicate_5 rfl (lv_at hl 1 rfl) ?_
        refine lv_iconst (v := 2) hx hb d_Qd_predicate_6 (by decide) ?_
        refine lv_icmp_ne (tgt := 14) hx hb d_Qd_predicate_7 (by decide) (fun hc => ?_) (fun hc => ?_)
        · have h := h.1 hc
          refine lv_iconst (v := 0) hx hb d_Qd_predicate_14 (by decide) ?_
          exact hJ_2 0 h _ _ _ hw (lv_sub hl [0, 1, 2] rfl)
        · have h := h.2 hc
          exact hJ_8 () h _ _ _ hw (lv_sub hl [0, 1, 2] rfl)
theorem xw_317 : (Jvm.Cond.code ({ cls := "QuestionDesk", name := "hasPlaces", desc := "(IIIII)Z" } : Jvm.MethodName) prog_1_method_18_code (6 : Nat) (Option.some Jvm.ClassFile.FieldType.boolean)) ∈ xg := xg_t (i := 317) (by decide +kernel) (by decide +kernel)
theorem xw_314 : (Jvm.Cond.methodLink "QuestionDesk" (71 : Nat) ({ cls := "QuestionDesk", name := "hasPlaces", desc := "(IIIII)Z" } : Jvm.MethodName)) ∈ xg := xg_t (i := 314) (by decide +kernel) (by decide +kernel)
theorem xw_316 : (Jvm.Cond.instanceMethod ({ cls := "QuestionDesk", name := "hasPlaces", desc := "(IIIII)Z" } : Jvm.MethodName)) ∈ xg := xg_t (i := 316) (by decide +kernel) (by decide +kernel)
theorem xw_p8 : Cond.selects "QuestionDesk" ⟨"QuestionDesk", "hasPlaces", "(IIIII)Z"⟩ ⟨"QuestionDesk", "hasPlaces", "(IIIII)Z"⟩ ∈ xg := xg_p (q := (⟨"QuestionDesk", "hasPlaces", "(IIIII)Z"⟩, 12)) (i := 8) (by decide +kernel) (by decide +kernel)
def wp_Qd_fact (post : Int32 → (Nat → Int32) → Prop) (pex : String → Prop)  (np : Int32) (qpl : Nat → Int32) (qbr : Nat → Int32) (f : Nat → Int32) (a0 : Int32) (x : Int32) (y : Int32) : Prop :=
wp_Qd_hasPlaces (fun r_1 =>
xj (fun (v_3 : Int32) =>
wp_Qd_demand (
wp_Pr_put (fun r_7 f_9 =>
(narrow .boolean (.int r_7) = .int r_7 ∧ post r_7 f_9)) f (20 + a0) x y) pex v_3) (fun (J_4 : Int32 → Prop) =>
xj (fun (v_10 : Unit) =>
J_4 0) (fun (J_11 : Unit → Prop) =>
((r_1 = 0 →
J_11 ()) ∧ (¬ r_1 = 0 →
vp_in a0 10 ∧
((¬ (qbr (Int32.toNatClampNeg a0)) = 0 →
J_11 ()) ∧ ((qbr (Int32.toNatClampNeg a0)) = 0 →
J_4 1))))))) np qpl a0 x y 0 9
abbrev rm_Qd_fact : Room := { frames := 7, cells := 1, slots := 6, locals := 110 }
set_option maxHeartbeats 4000000 in
set_option maxRecDepth 100000 in
theorem c_Qd_fact {l : Launch} {D : va_G} {ad : Nat → Nat} (CE : (Nat → Int32) → Nat → Option va_E) {cI cZ cJ cO : ClassId} {iQ : Nat} {ipl : Nat} {ibr : Nat} {iL : Nat} {iP : Nat} {iM : Nat} {iU : Nat} {ipt : Nat} {iR : Nat} {np : Int32} {qpl : Nat → Int32} {qbr : Nat → Int32} {bg : Value} {rw : Int32} {aq : Int32} {pn : Int32} (k_Q : ∀ (f : Nat → Int32), (CE f) iQ = some (.inr (0, [.ref (ad ipl), .ref (ad ibr), .int np, .ref (ad iL), bg, .ref (ad iP), .ref (ad iM), .ref (ad iU), .ref (ad ipt), .int rw, .int aq, .int pn]))) (k_pl : ∀ (f : Nat → Int32), (CE f) ipl = some (.inl (cI, 10, .inl qpl))) (k_br : ∀ (f : Nat → Int32), (CE f) ibr = some (.inl (cZ, 10, .inl qbr))) (k_P : ∀ (f : Nat → Int32), (CE f) iP = some (.inr (1, [.ref (ad iR)]))) (k_R : ∀ (f : Nat → Int32), (CE f) iR = some (.inl (cI, 341, .inl f))) (u_R : ∀ (f : Nat → Int32) (f' : Nat → Int32), va_up (CE f) iR (some (.inl (cI, 341, .inl f'))) = (CE f')) {post : Int32 → (Nat → Int32) → Prop} {f : Nat → Int32} {a0 : Int32} {x : Int32} {y : Int32} {pex : String → Prop} (hlt : l.stackTraces = false) (h : wp_Qd_fact post pex np qpl qbr f a0 x y) : ∀ sz, vx_Met l y_Qd_fact (Cond.code y_Qd_fact b_Qd_fact 4 (some .boolean) :: xg) rm_Qd_fact (xv_Pc D xcl (xT cI cZ cJ cO) ad (CE f) sz [.ref (ad iQ), .int a0, .int x, .int y]) (va_Qi (fun (r : Int32) (u : (Nat → Int32)) => post r u) (xm_B D xcl (xT cI cZ cJ cO) (xm_A ad (CE f) sz) (fun _ => ad) (fun u : (Nat → Int32) => CE u)) (xm_A ad (CE f) sz)) (xv_X D xcl (xT cI cZ cJ cO) (xm_A ad (CE f) sz) ad (CE f) pex) 1 6 (xm_A ad (CE f) sz) := by
  refine xv_ofW (cc := b_Qd_fact) (maxL := 4) (ret := (some .boolean)) (by decide) rfl (Nat.le_of_ble_eq_true rfl) ?_
  intro p e s m args below meth c ls QQ hQQ hT hout hx hb hml hr hown hlk hnm hts hl hw
  have hl : lv_has ls 4 [(0, .ref (ad iQ)), (1, .int a0), (2, .int x), (3, .int y)] := hl
  unfold wp_Qd_fact at h
  refine lv_aload_n hx hb d_Qd_fact_0 rfl (lv_at hl 0 rfl) ?_
  refine lv_iload_n hx hb d_Qd_fact_1 rfl (lv_at hl 1 rfl) ?_
  refine lv_iload_n hx hb d_Qd_fact_2 rfl (lv_at hl 2 rfl) ?_
  refine lv_iload_n hx hb d_Qd_fact_3 rfl (lv_at hl 3 rfl) ?_
  refine lv_iconst (v := 0) hx hb d_Qd_fact_4 (by decide) ?_
  refine lv_bipush (v := 9) hx hb d_Qd_fact_5 (by decide) ?_
  refine xm_calli (ua := fun _ => ad) (va_runV (As := [.int a0, .int x, .int y, .int 0, .int 9]) (rest := []) ⟨hx, hb, hml, hown, hts⟩ (c_Qd_hasPlaces (D := D) (ad := ad) (CE := ((CE f)))  (k_Q f) (k_pl f) h _) (xg_cwV 5 hts xw_317 xw_314 xw_316 xw_p8 xw_1 rfl rfl (by decide +kernel) ⟨Nat.le_of_ble_eq_true rfl, Nat.le_of_ble_eq_true rfl⟩) (xm_preV hw (k_Q f) rfl _) rfl rfl hl.1 rfl (lv_room (Nat.le_of_ble_eq_true rfl)) d_Qd_fact_7 ⟨Nat.le_of_ble_eq_true rfl, Nat.le_of_ble_eq_true rfl⟩) hw (fun r_1 _ H locs h hw => ?_)
  refine xj_use h (fun (v_3 : Int32) => ∀ (H : Heap) (locs : List Loc) (ls : Array Slot), xm_W D xcl (xT cI cZ cJ cO) (xm_A ad (CE f) s.heap.size) ad (CE f) s s.heap H locs → lv_has ls 4 [(0, .ref (ad iQ)), (1, .int a0), (2, .int x), (3, .int y)] → W p l e rm_Qd_fact s m args below meth c H locs 0 0 QQ (F0 m 27 ls [.int v_3])) (fun v_3 h H locs ls hw hl => ?_) (fun J_4 hJ_4 h => ?_)
  · refine xv_callv (ua := fun _ => ad) (vx_runS (As := [.int v_3]) (rest := []) ⟨hx, hb, hml, hown, hts⟩ (c_Qd_demand (D := D) (ad := ad) (CE := ((CE f)))   hlt h _) (xg_cwS 1 hts xw_239 xw_237 xw_238 xw_1 rfl rfl (by decide +kernel) ⟨Nat.le_of_ble_eq_true rfl, Nat.le_of_ble_eq_true rfl⟩) (xv_pre hw hT _) rfl rfl hl.1 rfl (lv_room (Nat.le_of_ble_eq_true rfl)) d_Qd_fact_27 ⟨Nat.le_of_ble_eq_true rfl, Nat.le_of_ble_eq_true rfl⟩) hw (fun E c9 q9 H locs hpx hw h1 h2 h3 => by subst hQQ; exact xv_out hout hlk hw hpx h1 h2 h3 (by decide) (by decide)) (fun _ H locs h hw => ?_)
    refine lv_aload_n hx hb d_Qd_fact_30 rfl (lv_at hl 0 rfl) ?_
    refine xm_get (D := D) (v := .ref (ad iP)) (C := R_Qd) (T := F_Qd) (N := 12) hx hb hts (fun w h => List.mem_cons_of_mem _ (i_Qd w h)) hown hw (k_Q f) rfl 5 (by decide) (hts _ (List.mem_cons_of_mem _ xw_112)) (fun _ h9 => h9) rfl d_Qd_fact_31 ?_
    refine lv_bipush (v := 20) hx hb d_Qd_fact_34 (by decide) ?_
    refine lv_iload_n hx hb d_Qd_fact_36 rfl (lv_at hl 1 rfl) ?_
    refine lv_iadd hx hb d_Qd_fact_37 ?_
    refine lv_iload_n hx hb d_Qd_fact_38 rfl (lv_at hl 2 rfl) ?_
    refine lv_iload_n hx hb d_Qd_fact_39 rfl (lv_at hl 3 rfl) ?_
    refine xm_calli (ua := fun _ => ad) (va_runV (As := [.int (20 + a0), .int x, .int y]) (rest := []) ⟨hx, hb, hml, hown, hts⟩ (c_Pr_put (D := D) (ad := ad) (CE := (fun f => (CE f)))  (fun f => k_P f) (fun f => k_R f) (fun f f' => u_R f f') h _) (xg_cwV 3 hts xw_321 xw_318 xw_319 xw_320 xw_5 rfl rfl (by decide +kernel) ⟨Nat.le_of_ble_eq_true rfl, Nat.le_of_ble_eq_true rfl⟩) (xm_preV hw (k_P f) rfl _) rfl rfl hl.1 rfl (lv_room (Nat.le_of_ble_eq_true rfl)) d_Qd_fact_40 ⟨Nat.le_of_ble_eq_true rfl, Nat.le_of_ble_eq_true rfl⟩) hw (fun r_7 u_8 H locs h hw => ?_)
    obtain ⟨f_9, ef_9⟩ : ∃ z, z = u_8 := ⟨_, rfl⟩
    try dsimp only at h hw
    rw [← ef_9] at h hw
    subst hQQ
    refine vx_ret (W.widen (k := 1) (n := 6) (by decide) (by decide) ?_)
    exact xm_zret hx hb hr hlk h.1 hw (f_9) rfl rfl h.2 d_Qd_fact_43
  · refine xj_use h (fun (v_10 : Unit) => ∀ (H : Heap) (locs : List Loc) (ls : Array Slot), xm_W D xcl (xT cI cZ cJ cO) (xm_A ad (CE f) s.heap.size) ad (CE f) s s.heap H locs → lv_has ls 4 [(0, .ref (ad iQ)), (1, .int a0), (2, .int x), (3, .int y)] → W p l e rm_Qd_fact s m args below meth c H locs 0 0 QQ (F0 m 26 ls [])) (fun v_10 h H locs ls hw hl => ?_) (fun J_11 hJ_11 h => ?_)
    · refine lv_iconst (v := 0) hx hb d_Qd_fact_26 (by decide) ?_
      exact hJ_4 0 h _ _ _ hw (lv_sub hl [0, 1, 2, 3] rfl)
    · refine lv_if_eq (tgt := 26) hx hb d_Qd_fact_10 (by decide) (fun hc => ?_) (fun hc => ?_)
      · have h := h.1 hc
        exact hJ_11 () h _ _ _ hw (lv_sub hl [0, 1, 2, 3] rfl)
      · have h := h.2 hc
        refine lv_aload_n hx hb d_Qd_fact_13 rfl (lv_at hl 0 rfl) ?_
        refine xm_get (D := D) (v := .ref (ad ibr)) (C := R_Qd) (T := F_Qd) (N := 12) hx hb hts (fun w h => List.mem_cons_of_mem _ (i_Qd w h)) hown hw (k_Q f) rfl 1 (by decide) (hts _ (List.mem_cons_of_mem _ xw_108)) (fun _ h9 => h9) rfl d_Qd_fact_14 ?_
        refine lv_iload_n hx hb d_Qd_fact_17 rfl (lv_at hl 1 rfl) ?_
        obtain ⟨hin, h⟩ := h
        refine xm_zald hx hb hw 1 (k_br f) rfl hin d_Qd_fact_18 ?_
        refine lv_if_ne (tgt := 26) hx hb d_Qd_fact_19 (by decide) (fun hc => ?_) (fun hc => ?_)
        · have h := h.1 hc
          exact hJ_11 () h _ _ _ hw (lv_sub hl [0, 1, 2, 3] rfl)
        · have h := h.2 hc
          refine lv_iconst (v := 1) hx hb d_Qd_fact_22 (by decide) ?_
          refine lv_goto (tgt := 27) hx hb d_Qd_fact_23 (by decide) ?_
          exact hJ_4 1 h _ _ _ hw (lv_sub hl [0, 1, 2, 3] rfl)
theorem xw_332 : (Jvm.Cond.code ({ cls := "QuestionDesk$Pairs", name := "remove", desc := "(III)Z" } : Jvm.MethodName) prog_3_method_7_code (6 : Nat) (Option.some Jvm.ClassFile.FieldType.boolean)) ∈ xg := xg_t (i := 332) (by decide +kernel) (by decide +kernel)
theorem xw_329 : (Jvm.Cond.methodLink "QuestionDesk" (79 : Nat) ({ cls := "QuestionDesk$Pairs", name := "remove", desc := "(III)Z" } : Jvm.MethodName)) ∈ xg := xg_t (i := 329) (by decide +kernel) (by decide +kernel)
theorem xw_330 : (Jvm.Cond.instanceMethod ({ cls := "QuestionDesk$Pairs", name := "remove", desc := "(III)Z" } : Jvm.MethodName)) ∈ xg := xg_t (i := 330) (by decide +kernel) (by decide +kernel)
theorem xw_331 : (Jvm.Cond.selects "QuestionDesk$Pairs" ({ cls := "QuestionDesk$Pairs", name := "remove", desc := "(III)Z" } : Jvm.MethodName) ({ cls := "QuestionDesk$Pairs", name := "remove", desc := "(III)Z" } : Jvm.MethodName)) ∈ xg := xg_t (i := 331) (by decide +kernel) (by decide +kernel)
def wp_Qd_drop (post : Int32 → (Nat → Int32) → Prop) (pex : String → Prop)  (np : Int32) (qpl : Nat → Int32) (qbr : Nat → Int32) (f : Nat → Int32) (a0 : Int32) (x : Int32) (y : Int32) : Prop :=
wp_Qd_hasPlaces (fun r_1 =>
xj (fun (v_3 : Int32) =>
wp_Qd_demand (
wp_Pr_remove (fun r_7 f_9 =>
(narrow .boolean (.int r_7) = .int r_7 ∧ post r_7 f_9)) f (20 + a0) x y) pex v_3) (fun (J_4 : Int32 → Prop) =>
xj (fun (v_10 : Unit) =>
J_4 0) (fun (J_11 : Unit → Prop) =>
((r_1 = 0 →
J_11 ()) ∧ (¬ r_1 = 0 →
vp_in a0 10 ∧
((¬ (qbr (Int32.toNatClampNeg a0)) = 0 →
J_11 ()) ∧ ((qbr (Int32.toNatClampNeg a0)) = 0 →
J_4 1))))))) np qpl a0 x y 0 9
abbrev rm_Qd_drop : Room := { frames := 7, cells := 1, slots := 6, locals := 110 }
set_option maxHeartbeats 4000000 in
set_option maxRecDepth 100000 in
theorem c_Qd_drop {l : Launch} {D : va_G} {ad : Nat → Nat} (CE : (Nat → Int32) → Nat → Option va_E) {cI cZ cJ cO : ClassId} {iQ : Nat} {ipl : Nat} {ibr : Nat} {iL : Nat} {iP : Nat} {iM : Nat} {iU : Nat} {ipt : Nat} {iR : Nat} {np : Int32} {qpl : Nat → Int32} {qbr : Nat → Int32} {bg : Value} {rw : Int32} {aq : Int32} {pn : Int32} (k_Q : ∀ (f : Nat → Int32), (CE f) iQ = some (.inr (0, [.ref (ad ipl), .ref (ad ibr), .int np, .ref (ad iL), bg, .ref (ad iP), .ref (ad iM), .ref (ad iU), .ref (ad ipt), .int rw, .int aq, .int pn]))) (k_pl : ∀ (f : Nat → Int32), (CE f) ipl = some (.inl (cI, 10, .inl qpl))) (k_br : ∀ (f : Nat → Int32), (CE f) ibr = some (.inl (cZ, 10, .inl qbr))) (k_P : ∀ (f : Nat → Int32), (CE f) iP = some (.inr (1, [.ref (ad iR)]))) (k_R : ∀ (f : Nat → Int32), (CE f) iR = some (.inl (cI, 341, .inl f))) (u_R : ∀ (f : Nat → Int32) (f' : Nat → Int32), va_up (CE f) iR (some (.inl (cI, 341, .inl f'))) = (CE f')) {post : Int32 → (Nat → Int32) → Prop} {f : Nat → Int32} {a0 : Int32} {x : Int32} {y : Int32} {pex : String → Prop} (hlt : l.stackTraces = false) (h : wp_Qd_drop post pex np qpl qbr f a0 x y) : ∀ sz, vx_Met l y_Qd_drop (Cond.code y_Qd_drop b_Qd_drop 4 (some .boolean) :: xg) rm_Qd_drop (xv_Pc D xcl (xT cI cZ cJ cO) ad (CE f) sz [.ref (ad iQ), .int a0, .int x, .int y]) (va_Qi (fun (r : Int32) (u : (Nat → Int32)) => post r u) (xm_B D xcl (xT cI cZ cJ cO) (xm_A ad (CE f) sz) (fun _ => ad) (fun u : (Nat → Int32) => CE u)) (xm_A ad (CE f) sz)) (xv_X D xcl (xT cI cZ cJ cO) (xm_A ad (CE f) sz) ad (CE f) pex) 1 6 (xm_A ad (CE f) sz) := by
  refine xv_ofW (cc := b_Qd_drop) (maxL := 4) (ret := (some .boolean)) (by decide) rfl (Nat.le_of_ble_eq_true rfl) ?_
  intro p e s m args below meth c ls QQ hQQ hT hout hx hb hml hr hown hlk hnm hts hl hw
  have hl : lv_has ls 4 [(0, .ref (ad iQ)), (1, .int a0), (2, .int x), (3, .int y)] := hl
  unfold wp_Qd_drop at h
  refine lv_aload_n hx hb d_Qd_drop_0 rfl (lv_at hl 0 rfl) ?_
  refine lv_iload_n hx hb d_Qd_drop_1 rfl (lv_at hl 1 rfl) ?_
  refine lv_iload_n hx hb d_Qd_drop_2 rfl (lv_at hl 2 rfl) ?_
  refine lv_iload_n hx hb d_Qd_drop_3 rfl (lv_at hl 3 rfl) ?_
  refine lv_iconst (v := 0) hx hb d_Qd_drop_4 (by decide) ?_
  refine lv_bipush (v := 9) hx hb d_Qd_drop_5 (by decide) ?_
  refine xm_calli (ua := fun _ => ad) (va_runV (As := [.int a0, .int x, .int y, .int 0, .int 9]) (rest := []) ⟨hx, hb, hml, hown, hts⟩ (c_Qd_hasPlaces (D := D) (ad := ad) (CE := ((CE f)))  (k_Q f) (k_pl f) h _) (xg_cwV 5 hts xw_317 xw_314 xw_316 xw_p8 xw_1 rfl rfl (by decide +kernel) ⟨Nat.le_of_ble_eq_true rfl, Nat.le_of_ble_eq_true rfl⟩) (xm_preV hw (k_Q f) rfl _) rfl rfl hl.1 rfl (lv_room (Nat.le_of_ble_eq_true rfl)) d_Qd_drop_7 ⟨Nat.le_of_ble_eq_true rfl, Nat.le_of_ble_eq_true rfl⟩) hw (fun r_1 _ H locs h hw => ?_)
  refine xj_use h (fun (v_3 : Int32) => ∀ (H : Heap) (locs : List Loc) (ls : Array Slot), xm_W D xcl (xT cI cZ cJ cO) (xm_A ad (CE f) s.heap.size) ad (CE f) s s.heap H locs → lv_has ls 4 [(0, .ref (ad iQ)), (1, .int a0), (2, .int x), (3, .int y)] → W p l e rm_Qd_drop s m args below meth c H locs 0 0 QQ (F0 m 27 ls [.int v_3])) (fun v_3 h H locs ls hw hl => ?_) (fun J_4 hJ_4 h => ?_)
  · refine xv_callv (ua := fun _ => ad) (vx_runS (As := [.int v_3]) (rest := []) ⟨hx, hb, hml, hown, hts⟩ (c_Qd_demand (D := D) (ad := ad) (CE := ((CE f)))   hlt h _) (xg_cwS 1 hts xw_239 xw_237 xw_238 xw_1 rfl rfl (by decide +kernel) ⟨Nat.le_of_ble_eq_true rfl, Nat.le_of_ble_eq_true rfl⟩) (xv_pre hw hT _) rfl rfl hl.1 rfl (lv_room (Nat.le_of_ble_eq_true rfl)) d_Qd_drop_27 ⟨Nat.le_of_ble_eq_true rfl, Nat.le_of_ble_eq_true rfl⟩) hw (fun E c9 q9 H locs hpx hw h1 h2 h3 => by subst hQQ; exact xv_out hout hlk hw hpx h1 h2 h3 (by decide) (by decide)) (fun _ H locs h hw => ?_)
    refine lv_aload_n hx hb d_Qd_drop_30 rfl (lv_at hl 0 rfl) ?_
    refine xm_get (D := D) (v := .ref (ad iP)) (C := R_Qd) (T := F_Qd) (N := 12) hx hb hts (fun w h => List.mem_cons_of_mem _ (i_Qd w h)) hown hw (k_Q f) rfl 5 (by decide) (hts _ (List.mem_cons_of_mem _ xw_112)) (fun _ h9 => h9) rfl d_Qd_drop_31 ?_
    refine lv_bipush (v := 20) hx hb d_Qd_drop_34 (by decide) ?_
    refine lv_iload_n hx hb d_Qd_drop_36 rfl (lv_at hl 1 rfl) ?_
    refine lv_iadd hx hb d_Qd_drop_37 ?_
    refine lv_iload_n hx hb d_Qd_drop_38 rfl (lv_at hl 2 rfl) ?_
    refine lv_iload_n hx hb d_Qd_drop_39 rfl (lv_at hl 3 rfl) ?_
    refine xm_calli (ua := fun _ => ad) (va_runV (As := [.int (20 + a0), .int x, .int y]) (rest := []) ⟨hx, hb, hml, hown, hts⟩ (c_Pr_remove (D := D) (ad := ad) (CE := (fun f => (CE f)))  (fun f => k_P f) (fun f => k_R f) (fun f f' => u_R f f') h _) (xg_cwV 3 hts xw_332 xw_329 xw_330 xw_331 xw_5 rfl rfl (by decide +kernel) ⟨Nat.le_of_ble_eq_true rfl, Nat.le_of_ble_eq_true rfl⟩) (xm_preV hw (k_P f) rfl _) rfl rfl hl.1 rfl (lv_room (Nat.le_of_ble_eq_true rfl)) d_Qd_drop_40 ⟨Nat.le_of_ble_eq_true rfl, Nat.le_of_ble_eq_true rfl⟩) hw (fun r_7 u_8 H locs h hw => ?_)
    obtain ⟨f_9, ef_9⟩ : ∃ z, z = u_8 := ⟨_, rfl⟩
    try dsimp only at h hw
    rw [← ef_9] at h hw
    subst hQQ
    refine vx_ret (W.widen (k := 1) (n := 6) (by decide) (by decide) ?_)
    exact xm_zret hx hb hr hlk h.1 hw (f_9) rfl rfl h.2 d_Qd_drop_43
  · refine xj_use h (fun (v_10 : Unit) => ∀ (H : Heap) (locs : List Loc) (ls : Array Slot), xm_W D xcl (xT cI cZ cJ cO) (xm_A ad (CE f) s.heap.size) ad (CE f) s s.heap H locs → lv_has ls 4 [(0, .ref (ad iQ)), (1, .int a0), (2, .int x), (3, .int y)] → W p l e rm_Qd_drop s m args below meth c H locs 0 0 QQ (F0 m 26 ls [])) (fun v_10 h H locs ls hw hl => ?_) (fun J_11 hJ_11 h => ?_)
    · refine lv_iconst (v := 0) hx hb d_Qd_drop_26 (by decide) ?_
      exact hJ_4 0 h _ _ _ hw (lv_sub hl [0, 1, 2, 3] rfl)
    · refine lv_if_eq (tgt := 26) hx hb d_Qd_drop_10 (by decide) (fun hc => ?_) (fun hc => ?_)
      · have h := h.1 hc
        exact hJ_11 () h _ _ _ hw (lv_sub hl [0, 1, 2, 3] rfl)
      · have h := h.2 hc
        refine lv_aload_n hx hb d_Qd_drop_13 rfl (lv_at hl 0 rfl) ?_
        refine xm_get (D := D) (v := .ref (ad ibr)) (C := R_Qd) (T := F_Qd) (N := 12) hx hb hts (fun w h => List.mem_cons_of_mem _ (i_Qd w h)) hown hw (k_Q f) rfl 1 (by decide) (hts _ (List.mem_cons_of_mem _ xw_108)) (fun _ h9 => h9) rfl d_Qd_drop_14 ?_
        refine lv_iload_n hx hb d_Qd_drop_17 rfl (lv_at hl 1 rfl) ?_
        obtain ⟨hin, h⟩ := h
        refine xm_zald hx hb hw 1 (k_br f) rfl hin d_Qd_drop_18 ?_
        refine lv_if_ne (tgt := 26) hx hb d_Qd_drop_19 (by decide) (fun hc => ?_) (fun hc => ?_)
        · have h := h.1 hc
          exact hJ_11 () h _ _ _ hw (lv_sub hl [0, 1, 2, 3] rfl)
        · have h := h.2 hc
          refine lv_iconst (v := 1) hx hb d_Qd_drop_22 (by decide) ?_
          refine lv_goto (tgt := 27) hx hb d_Qd_drop_23 (by decide) ?_
          exact hJ_4 1 h _ _ _ hw (lv_sub hl [0, 1, 2, 3] rfl)
def wp_Qd_holds (post : Int32 → Prop) (pex : String → Prop)  (np : Int32) (qpl : Nat → Int32) (f : Nat → Int32) (a0 : Int32) (x : Int32) (y : Int32) : Prop :=
wp_Qd_hasPlaces (fun r_1 =>
wp_Qd_demand (
wp_Pr_has (fun r_5 =>
(narrow .boolean (.int r_5) = .int r_5 ∧ post r_5)) f (0 + a0) x y) pex r_1) np qpl a0 x y 0 9
abbrev rm_Qd_holds : Room := { frames := 7, cells := 1, slots := 6, locals := 110 }
set_option maxHeartbeats 4000000 in
set_option maxRecDepth 100000 in
theorem c_Qd_holds {l : Launch} {D : va_G} {ad : Nat → Nat} (CE : Nat → Option va_E) {cI cZ cJ cO : ClassId} {iQ : Nat} {ipl : Nat} {ibr : Nat} {iL : Nat} {iP : Nat} {iM : Nat} {iU : Nat} {ipt : Nat} {iR : Nat} {np : Int32} {qpl : Nat → Int32} {f : Nat → Int32} {bg : Value} {rw : Int32} {aq : Int32} {pn : Int32} (k_Q : CE iQ = some (.inr (0, [.ref (ad ipl), .ref (ad ibr), .int np, .ref (ad iL), bg, .ref (ad iP), .ref (ad iM), .ref (ad iU), .ref (ad ipt), .int rw, .int aq, .int pn]))) (k_pl : CE ipl = some (.inl (cI, 10, .inl qpl))) (k_P : CE iP = some (.inr (1, [.ref (ad iR)]))) (k_R : CE iR = some (.inl (cI, 341, .inl f))) {post : Int32 → Prop} {a0 : Int32} {x : Int32} {y : Int32} {pex : String → Prop} (hlt : l.stackTraces = false) (h : wp_Qd_holds post pex np qpl f a0 x y) : ∀ sz, vx_Met l y_Qd_holds (Cond.code y_Qd_holds b_Qd_holds 4 (some .boolean) :: xg) rm_Qd_holds (xv_Pc D xcl (xT cI cZ cJ cO) ad CE sz [.ref (ad iQ), .int a0, .int x, .int y]) (va_Qi (fun (r : Int32) (_ : Unit) => post r) (xm_B D xcl (xT cI cZ cJ cO) (xm_A ad CE sz) (fun _ => ad) (fun _ : Unit => CE)) (xm_A ad CE sz)) (xv_X D xcl (xT cI cZ cJ cO) (xm_A ad CE sz) ad CE pex) 1 6 (xm_A ad CE sz) := by
  refine xv_ofW (cc := b_Qd_holds) (maxL := 4) (ret := (some .boolean)) (by decide) rfl (Nat.le_of_ble_eq_true rfl) ?_
  intro p e s m args below meth c ls QQ hQQ hT hout hx hb hml hr hown hlk hnm hts hl hw
  have hl : lv_has ls 4 [(0, .ref (ad iQ)), (1, .int a0), (2, .int x), (3, .int y)] := hl
  unfold wp_Qd_holds at h
  refine lv_aload_n hx hb d_Qd_holds_0 rfl (lv_at hl 0 rfl) ?_
  refine lv_iload_n hx hb d_Qd_holds_1 rfl (lv_at hl 1 rfl) ?_
  refine lv_iload_n hx hb d_Qd_holds_2 rfl (lv_at hl 2 rfl) ?_
  refine lv_iload_n hx hb d_Qd_holds_3 rfl (lv_at hl 3 rfl) ?_
  refine lv_iconst (v := 0) hx hb d_Qd_holds_4 (by decide) ?_
  refine lv_bipush (v := 9) hx hb d_Qd_holds_5 (by decide) ?_
  refine xm_calli (ua := fun _ => ad) (va_runV (As := [.int a0, .int x, .int y, .int 0, .int 9]) (rest := []) ⟨hx, hb, hml, hown, hts⟩ (c_Qd_hasPlaces (D := D) (ad := ad) (CE := (CE))  k_Q k_pl h _) (xg_cwV 5 hts xw_317 xw_314 xw_316 xw_p8 xw_1 rfl rfl (by decide +kernel) ⟨Nat.le_of_ble_eq_true rfl, Nat.le_of_ble_eq_true rfl⟩) (xm_preV hw k_Q rfl _) rfl rfl hl.1 rfl (lv_room (Nat.le_of_ble_eq_true rfl)) d_Qd_holds_7 ⟨Nat.le_of_ble_eq_true rfl, Nat.le_of_ble_eq_true rfl⟩) hw (fun r_1 _ H locs h hw => ?_)
  refine xv_callv (ua := fun _ => ad) (vx_runS (As := [.int r_1]) (rest := []) ⟨hx, hb, hml, hown, hts⟩ (c_Qd_demand (D := D) (ad := ad) (CE := (CE))   hlt h _) (xg_cwS 1 hts xw_239 xw_237 xw_238 xw_1 rfl rfl (by decide +kernel) ⟨Nat.le_of_ble_eq_true rfl, Nat.le_of_ble_eq_true rfl⟩) (xv_pre hw hT _) rfl rfl hl.1 rfl (lv_room (Nat.le_of_ble_eq_true rfl)) d_Qd_holds_10 ⟨Nat.le_of_ble_eq_true rfl, Nat.le_of_ble_eq_true rfl⟩) hw (fun E c9 q9 H locs hpx hw h1 h2 h3 => by subst hQQ; exact xv_out hout hlk hw hpx h1 h2 h3 (by decide) (by decide)) (fun _ H locs h hw => ?_)
  refine lv_aload_n hx hb d_Qd_holds_13 rfl (lv_at hl 0 rfl) ?_
  refine xm_get (D := D) (v := .ref (ad iP)) (C := R_Qd) (T := F_Qd) (N := 12) hx hb hts (fun w h => List.mem_cons_of_mem _ (i_Qd w h)) hown hw k_Q rfl 5 (by decide) (hts _ (List.mem_cons_of_mem _ xw_112)) (fun _ h9 => h9) rfl d_Qd_holds_14 ?_
  refine lv_iconst (v := 0) hx hb d_Qd_holds_17 (by decide) ?_
  refine lv_iload_n hx hb d_Qd_holds_18 rfl (lv_at hl 1 rfl) ?_
  refine lv_iadd hx hb d_Qd_holds_19 ?_
  refine lv_iload_n hx hb d_Qd_holds_20 rfl (lv_at hl 2 rfl) ?_
  refine lv_iload_n hx hb d_Qd_holds_21 rfl (lv_at hl 3 rfl) ?_
  refine xm_calli (ua := fun _ => ad) (va_runV (As := [.int (0 + a0), .int x, .int y]) (rest := []) ⟨hx, hb, hml, hown, hts⟩ (c_Pr_has (D := D) (ad := ad) (CE := (CE))  k_P k_R h _) (xg_cwV 3 hts xw_176 xw_173 xw_174 xw_175 xw_5 rfl rfl (by decide +kernel) ⟨Nat.le_of_ble_eq_true rfl, Nat.le_of_ble_eq_true rfl⟩) (xm_preV hw k_P rfl _) rfl rfl hl.1 rfl (lv_room (Nat.le_of_ble_eq_true rfl)) d_Qd_holds_22 ⟨Nat.le_of_ble_eq_true rfl, Nat.le_of_ble_eq_true rfl⟩) hw (fun r_5 _ H locs h hw => ?_)
  subst hQQ
  refine vx_ret (W.widen (k := 1) (n := 6) (by decide) (by decide) ?_)
  exact xm_zret hx hb hr hlk h.1 hw () rfl rfl h.2 d_Qd_holds_25
def wp_Qd_wanted (post : Int32 → Prop) (pex : String → Prop)  (np : Int32) (qpl : Nat → Int32) (f : Nat → Int32) (a0 : Int32) (x : Int32) (y : Int32) : Prop :=
wp_Qd_hasPlaces (fun r_1 =>
wp_Qd_demand (
wp_Qd_calledForRow (fun r_5 =>
wp_Pr_isIn (fun r_7 =>
(narrow .boolean (.int r_7) = .int r_7 ∧ post r_7)) r_5 y) f a0 x) pex r_1) np qpl a0 x y 0 9
abbrev rm_Qd_wanted : Room := { frames := 7, cells := 1, slots := 6, locals := 110 }
set_option maxHeartbeats 4000000 in
set_option maxRecDepth 100000 in
theorem c_Qd_wanted {l : Launch} {D : va_G} {ad : Nat → Nat} (CE : Nat → Option va_E) {cI cZ cJ cO : ClassId} {iQ : Nat} {ipl : Nat} {ibr : Nat} {iL : Nat} {iP : Nat} {iM : Nat} {iU : Nat} {ipt : Nat} {iR : Nat} {np : Int32} {qpl : Nat → Int32} {f : Nat → Int32} {bg : Value} {rw : Int32} {aq : Int32} {pn : Int32} (k_Q : CE iQ = some (.inr (0, [.ref (ad ipl), .ref (ad ibr), .int np, .ref (ad iL), bg, .ref (ad iP), .ref (ad iM), .ref (ad iU), .ref (ad ipt), .int rw, .int aq, .int pn]))) (k_pl : CE ipl = some (.inl (cI, 10, .inl qpl))) (k_P : CE iP = some (.inr (1, [.ref (ad iR)]))) (k_R : CE iR = some (.inl (cI, 341, .inl f))) {post : Int32 → Prop} {a0 : Int32} {x : Int32} {y : Int32} {pex : String → Prop} (hlt : l.stackTraces = false) (h : wp_Qd_wanted post pex np qpl f a0 x y) : ∀ sz, vx_Met l y_Qd_wanted (Cond.code y_Qd_wanted b_Qd_wanted 4 (some .boolean) :: xg) rm_Qd_wanted (xv_Pc D xcl (xT cI cZ cJ cO) ad CE sz [.ref (ad iQ), .int a0, .int x, .int y]) (va_Qi (fun (r : Int32) (_ : Unit) => post r) (xm_B D xcl (xT cI cZ cJ cO) (xm_A ad CE sz) (fun _ => ad) (fun _ : Unit => CE)) (xm_A ad CE sz)) (xv_X D xcl (xT cI cZ cJ cO) (xm_A ad CE sz) ad CE pex) 1 6 (xm_A ad CE sz) := by
  refine xv_ofW (cc := b_Qd_wanted) (maxL := 4) (ret := (some .boolean)) (by decide) rfl (Nat.le_of_ble_eq_true rfl) ?_
  intro p e s m args below meth c ls QQ hQQ hT hout hx hb hml hr hown hlk hnm hts hl hw
  have hl : lv_has ls 4 [(0, .ref (ad iQ)), (1, .int a0), (2, .int x), (3, .int y)] := hl
  unfold wp_Qd_wanted at h
  refine lv_aload_n hx hb d_Qd_wanted_0 rfl (lv_at hl 0 rfl) ?_
  refine lv_iload_n hx hb d_Qd_wanted_1 rfl (lv_at hl 1 rfl) ?_
  refine lv_iload_n hx hb d_Qd_wanted_2 rfl (lv_at hl 2 rfl) ?_
  refine lv_iload_n hx hb d_Qd_wanted_3 rfl (lv_at hl 3 rfl) ?_
  refine lv_iconst (v := 0) hx hb d_Qd_wanted_4 (by decide) ?_
  refine lv_bipush (v := 9) hx hb d_Qd_wanted_5 (by decide) ?_
  refine xm_calli (ua := fun _ => ad) (va_runV (As := [.int a0, .int x, .int y, .int 0, .int 9]) (rest := []) ⟨hx, hb, hml, hown, hts⟩ (c_Qd_hasPlaces (D := D) (ad := ad) (CE := (CE))  k_Q k_pl h _) (xg_cwV 5 hts xw_317 xw_314 xw_316 xw_p8 xw_1 rfl rfl (by decide +kernel) ⟨Nat.le_of_ble_eq_true rfl, Nat.le_of_ble_eq_true rfl⟩) (xm_preV hw k_Q rfl _) rfl rfl hl.1 rfl (lv_room (Nat.le_of_ble_eq_true rfl)) d_Qd_wanted_7 ⟨Nat.le_of_ble_eq_true rfl, Nat.le_of_ble_eq_true rfl⟩) hw (fun r_1 _ H locs h hw => ?_)
  refine xv_callv (ua := fun _ => ad) (vx_runS (As := [.int r_1]) (rest := []) ⟨hx, hb, hml, hown, hts⟩ (c_Qd_demand (D := D) (ad := ad) (CE := (CE))   hlt h _) (xg_cwS 1 hts xw_239 xw_237 xw_238 xw_1 rfl rfl (by decide +kernel) ⟨Nat.le_of_ble_eq_true rfl, Nat.le_of_ble_eq_true rfl⟩) (xv_pre hw hT _) rfl rfl hl.1 rfl (lv_room (Nat.le_of_ble_eq_true rfl)) d_Qd_wanted_10 ⟨Nat.le_of_ble_eq_true rfl, Nat.le_of_ble_eq_true rfl⟩) hw (fun E c9 q9 H locs hpx hw h1 h2 h3 => by subst hQQ; exact xv_out hout hlk hw hpx h1 h2 h3 (by decide) (by decide)) (fun _ H locs h hw => ?_)
  refine lv_aload_n hx hb d_Qd_wanted_13 rfl (lv_at hl 0 rfl) ?_
  refine lv_iload_n hx hb d_Qd_wanted_14 rfl (lv_at hl 1 rfl) ?_
  refine lv_iload_n hx hb d_Qd_wanted_15 rfl (lv_at hl 2 rfl) ?_
  refine xm_calli (ua := fun _ => ad) (va_runV (As := [.int a0, .int x]) (rest := []) ⟨hx, hb, hml, hown, hts⟩ (c_Qd_calledForRow (D := D) (ad := ad) (CE := (CE))  k_Q k_P k_R h _) (xg_cwV 2 hts xw_205 xw_202 xw_204 xw_p2 xw_1 rfl rfl (by decide +kernel) ⟨Nat.le_of_ble_eq_true rfl, Nat.le_of_ble_eq_true rfl⟩) (xm_preV hw k_Q rfl _) rfl rfl hl.1 rfl (lv_room (Nat.le_of_ble_eq_true rfl)) d_Qd_wanted_16 ⟨Nat.le_of_ble_eq_true rfl, Nat.le_of_ble_eq_true rfl⟩) hw (fun r_5 _ H locs h hw => ?_)
  refine lv_iload_n hx hb d_Qd_wanted_19 rfl (lv_at hl 3 rfl) ?_
  refine xm_calli (ua := fun _ => ad) (va_runS (As := [.int r_5, .int y]) (rest := []) ⟨hx, hb, hml, hown, hts⟩ (c_Pr_isIn (D := D) (ad := ad) (CE := (CE))   h _) (xg_cwS 2 hts xw_183 xw_207 xw_182 xw_5 rfl rfl (by decide +kernel) ⟨Nat.le_of_ble_eq_true rfl, Nat.le_of_ble_eq_true rfl⟩) (xm_pre hw _) rfl rfl hl.1 rfl (lv_room (Nat.le_of_ble_eq_true rfl)) d_Qd_wanted_20 ⟨Nat.le_of_ble_eq_true rfl, Nat.le_of_ble_eq_true rfl⟩) hw (fun r_7 _ H locs h hw => ?_)
  subst hQQ
  refine vx_ret (W.widen (k := 1) (n := 6) (by decide) (by decide) ?_)
  exact xm_zret hx hb hr hlk h.1 hw () rfl rfl h.2 d_Qd_wanted_23
def wp_Qd_called (post : Int32 → Prop) (pex : String → Prop)  (np : Int32) (qpl : Nat → Int32) (f : Nat → Int32) (a0 : Int32) (x : Int32) (y : Int32) : Prop :=
wp_Qd_hasPlaces (fun r_1 =>
wp_Qd_demand (
wp_Pr_has (fun r_5 =>
(narrow .boolean (.int r_5) = .int r_5 ∧ post r_5)) f (10 + a0) x y) pex r_1) np qpl a0 x y (-1) 9
abbrev rm_Qd_called : Room := { frames := 7, cells := 1, slots := 6, locals := 110 }
set_option maxHeartbeats 4000000 in
set_option maxRecDepth 100000 in
theorem c_Qd_called {l : Launch} {D : va_G} {ad : Nat → Nat} (CE : Nat → Option va_E) {cI cZ cJ cO : ClassId} {iQ : Nat} {ipl : Nat} {ibr : Nat} {iL : Nat} {iP : Nat} {iM : Nat} {iU : Nat} {ipt : Nat} {iR : Nat} {np : Int32} {qpl : Nat → Int32} {f : Nat → Int32} {bg : Value} {rw : Int32} {aq : Int32} {pn : Int32} (k_Q : CE iQ = some (.inr (0, [.ref (ad ipl), .ref (ad ibr), .int np, .ref (ad iL), bg, .ref (ad iP), .ref (ad iM), .ref (ad iU), .ref (ad ipt), .int rw, .int aq, .int pn]))) (k_pl : CE ipl = some (.inl (cI, 10, .inl qpl))) (k_P : CE iP = some (.inr (1, [.ref (ad iR)]))) (k_R : CE iR = some (.inl (cI, 341, .inl f))) {post : Int32 → Prop} {a0 : Int32} {x : Int32} {y : Int32} {pex : String → Prop} (hlt : l.stackTraces = false) (h : wp_Qd_called post pex np qpl f a0 x y) : ∀ sz, vx_Met l y_Qd_called (Cond.code y_Qd_called b_Qd_called 4 (some .boolean) :: xg) rm_Qd_called (xv_Pc D xcl (xT cI cZ cJ cO) ad CE sz [.ref (ad iQ), .int a0, .int x, .int y]) (va_Qi (fun (r : Int32) (_ : Unit) => post r) (xm_B D xcl (xT cI cZ cJ cO) (xm_A ad CE sz) (fun _ => ad) (fun _ : Unit => CE)) (xm_A ad CE sz)) (xv_X D xcl (xT cI cZ cJ cO) (xm_A ad CE sz) ad CE pex) 1 6 (xm_A ad CE sz) := by
  refine xv_ofW (cc := b_Qd_called) (maxL := 4) (ret := (some .boolean)) (by decide) rfl (Nat.le_of_ble_eq_true rfl) ?_
  intro p e s m args below meth c ls QQ hQQ hT hout hx hb hml hr hown hlk hnm hts hl hw
  have hl : lv_has ls 4 [(0, .ref (ad iQ)), (1, .int a0), (2, .int x), (3, .int y)] := hl
  unfold wp_Qd_called at h
  refine lv_aload_n hx hb d_Qd_called_0 rfl (lv_at hl 0 rfl) ?_
  refine lv_iload_n hx hb d_Qd_called_1 rfl (lv_at hl 1 rfl) ?_
  refine lv_iload_n hx hb d_Qd_called_2 rfl (lv_at hl 2 rfl) ?_
  refine lv_iload_n hx hb d_Qd_called_3 rfl (lv_at hl 3 rfl) ?_
  refine lv_iconst (v := (-1)) hx hb d_Qd_called_4 (by decide) ?_
  refine lv_bipush (v := 9) hx hb d_Qd_called_5 (by decide) ?_
  refine xm_calli (ua := fun _ => ad) (va_runV (As := [.int a0, .int x, .int y, .int (-1), .int 9]) (rest := []) ⟨hx, hb, hml, hown, hts⟩ (c_Qd_hasPlaces (D := D) (ad := ad) (CE := (CE))  k_Q k_pl h _) (xg_cwV 5 hts xw_317 xw_314 xw_316 xw_p8 xw_1 rfl rfl (by decide +kernel) ⟨Nat.le_of_ble_eq_true rfl, Nat.le_of_ble_eq_true rfl⟩) (xm_preV hw k_Q rfl _) rfl rfl hl.1 rfl (lv_room (Nat.le_of_ble_eq_true rfl)) d_Qd_called_7 ⟨Nat.le_of_ble_eq_true rfl, Nat.le_of_ble_eq_true rfl⟩) hw (fun r_1 _ H locs h hw => ?_)
  refine xv_callv (ua := fun _ => ad) (vx_runS (As := [.int r_1]) (rest := []) ⟨hx, hb, hml, hown, hts⟩ (c_Qd_demand (D := D) (ad := ad) (CE := (CE))   hlt h _) (xg_cwS 1 hts xw_239 xw_237 xw_238 xw_1 rfl rfl (by decide +kernel) ⟨Nat.le_of_ble_eq_true rfl, Nat.le_of_ble_eq_true rfl⟩) (xv_pre hw hT _) rfl rfl hl.1 rfl (lv_room (Nat.le_of_ble_eq_true rfl)) d_Qd_called_10 ⟨Nat.le_of_ble_eq_true rfl, Nat.le_of_ble_eq_true rfl⟩) hw (fun E c9 q9 H locs hpx hw h1 h2 h3 => by subst hQQ; exact xv_out hout hlk hw hpx h1 h2 h3 (by decide) (by decide)) (fun _ H locs h hw => ?_)
  refine lv_aload_n hx hb d_Qd_called_13 rfl (lv_at hl 0 rfl) ?_
  refine xm_get (D := D) (v := .ref (ad iP)) (C := R_Qd) (T := F_Qd) (N := 12) hx hb hts (fun w h => List.mem_cons_of_mem _ (i_Qd w h)) hown hw k_Q rfl 5 (by decide) (hts _ (List.mem_cons_of_mem _ xw_112)) (fun _ h9 => h9) rfl d_Qd_called_14 ?_
  refine lv_bipush (v := 10) hx hb d_Qd_called_17 (by decide) ?_
  refine lv_iload_n hx hb d_Qd_called_19 rfl (lv_at hl 1 rfl) ?_
  refine lv_iadd hx hb d_Qd_called_20 ?_
  refine lv_iload_n hx hb d_Qd_called_21 rfl (lv_at hl 2 rfl) ?_
  refine lv_iload_n hx hb d_Qd_called_22 rfl (lv_at hl 3 rfl) ?_
  refine xm_calli (ua := fun _ => ad) (va_runV (As := [.int (10 + a0), .int x, .int y]) (rest := []) ⟨hx, hb, hml, hown, hts⟩ (c_Pr_has (D := D) (ad := ad) (CE := (CE))  k_P k_R h _) (xg_cwV 3 hts xw_176 xw_173 xw_174 xw_175 xw_5 rfl rfl (by decide +kernel) ⟨Nat.le_of_ble_eq_true rfl, Nat.le_of_ble_eq_true rfl⟩) (xm_preV hw k_P rfl _) rfl rfl hl.1 rfl (lv_room (Nat.le_of_ble_eq_true rfl)) d_Qd_called_23 ⟨Nat.le_of_ble_eq_true rfl, Nat.le_of_ble_eq_true rfl⟩) hw (fun r_5 _ H locs h hw => ?_)
  subst hQQ
  refine vx_ret (W.widen (k := 1) (n := 6) (by decide) (by decide) ?_)
  exact xm_zret hx hb hr hlk h.1 hw () rfl rfl h.2 d_Qd_called_26
theorem xw_534 : (Jvm.Cond.code ({ cls := "QuestionDesk", name := "countRewrittenRules", desc := "()I" } : Jvm.MethodName) prog_1_method_28_code (6 : Nat) (Option.some Jvm.ClassFile.FieldType.int)) ∈ xg := xg_t (i := 534) (by decide +kernel) (by decide +kernel)
theorem xw_531 : (Jvm.Cond.methodLink "QuestionDesk" (134 : Nat) ({ cls := "QuestionDesk", name := "countRewrittenRules", desc := "()I" } : Jvm.MethodName)) ∈ xg := xg_t (i := 531) (by decide +kernel) (by decide +kernel)
theorem xw_533 : (Jvm.Cond.instanceMethod ({ cls := "QuestionDesk", name := "countRewrittenRules", desc := "()I" } : Jvm.MethodName)) ∈ xg := xg_t (i := 533) (by decide +kernel) (by decide +kernel)
theorem xw_p22 : Cond.selects "QuestionDesk" ⟨"QuestionDesk", "countRewrittenRules", "()I"⟩ ⟨"QuestionDesk", "countRewrittenRules", "()I"⟩ ∈ xg := xg_p (q := (⟨"QuestionDesk", "countRewrittenRules", "()I"⟩, 12)) (i := 22) (by decide +kernel) (by decide +kernel)
theorem xw_521 : (Jvm.Cond.code ({ cls := "QuestionDesk", name := "spreadCalls", desc := "()V" } : Jvm.MethodName) prog_1_method_22_code (6 : Nat) (Option.none : Option Jvm.ClassFile.FieldType)) ∈ xg := xg_t (i := 521) (by decide +kernel) (by decide +kernel)
theorem xw_518 : (Jvm.Cond.methodLink "QuestionDesk" (131 : Nat) ({ cls := "QuestionDesk", name := "spreadCalls", desc := "()V" } : Jvm.MethodName)) ∈ xg := xg_t (i := 518) (by decide +kernel) (by decide +kernel)
theorem xw_520 : (Jvm.Cond.instanceMethod ({ cls := "QuestionDesk", name := "spreadCalls", desc := "()V" } : Jvm.MethodName)) ∈ xg := xg_t (i := 520) (by decide +kernel) (by decide +kernel)
theorem xw_p20 : Cond.selects "QuestionDesk" ⟨"QuestionDesk", "spreadCalls", "()V"⟩ ⟨"QuestionDesk", "spreadCalls", "()V"⟩ ∈ xg := xg_p (q := (⟨"QuestionDesk", "spreadCalls", "()V"⟩, 12)) (i := 20) (by decide +kernel) (by decide +kernel)
theorem xw_509 : (Jvm.Cond.code ({ cls := "QuestionDesk", name := "startCalls", desc := "(III)V" } : Jvm.MethodName) prog_1_method_21_code (6 : Nat) (Option.none : Option Jvm.ClassFile.FieldType)) ∈ xg := xg_t (i := 509) (by decide +kernel) (by decide +kernel)
theorem xw_506 : (Jvm.Cond.methodLink "QuestionDesk" (128 : Nat) ({ cls := "QuestionDesk", name := "startCalls", desc := "(III)V" } : Jvm.MethodName)) ∈ xg := xg_t (i := 506) (by decide +kernel) (by decide +kernel)
theorem xw_508 : (Jvm.Cond.instanceMethod ({ cls := "QuestionDesk", name := "startCalls", desc := "(III)V" } : Jvm.MethodName)) ∈ xg := xg_t (i := 508) (by decide +kernel) (by decide +kernel)
theorem xw_p18 : Cond.selects "QuestionDesk" ⟨"QuestionDesk", "startCalls", "(III)V"⟩ ⟨"QuestionDesk", "startCalls", "(III)V"⟩ ∈ xg := xg_p (q := (⟨"QuestionDesk", "startCalls", "(III)V"⟩, 12)) (i := 18) (by decide +kernel) (by decide +kernel)
theorem xw_505 : (Jvm.Cond.code ({ cls := "QuestionDesk", name := "findAnswers", desc := "(III)V" } : Jvm.MethodName) prog_1_method_20_code (4 : Nat) (Option.none : Option Jvm.ClassFile.FieldType)) ∈ xg := xg_t (i := 505) (by decide +kernel) (by decide +kernel)
theorem xw_502 : (Jvm.Cond.methodLink "QuestionDesk" (125 : Nat) ({ cls := "QuestionDesk", name := "findAnswers", desc := "(III)V" } : Jvm.MethodName)) ∈ xg := xg_t (i := 502) (by decide +kernel) (by decide +kernel)
theorem xw_504 : (Jvm.Cond.instanceMethod ({ cls := "QuestionDesk", name := "findAnswers", desc := "(III)V" } : Jvm.MethodName)) ∈ xg := xg_t (i := 504) (by decide +kernel) (by decide +kernel)
theorem xw_p17 : Cond.selects "QuestionDesk" ⟨"QuestionDesk", "findAnswers", "(III)V"⟩ ⟨"QuestionDesk", "findAnswers", "(III)V"⟩ ∈ xg := xg_p (q := (⟨"QuestionDesk", "findAnswers", "(III)V"⟩, 12)) (i := 17) (by decide +kernel) (by decide +kernel)
theorem xw_473 : (Jvm.Cond.code ({ cls := "QuestionDesk", name := "findModel", desc := "()V" } : Jvm.MethodName) prog_1_method_19_code (4 : Nat) (Option.none : Option Jvm.ClassFile.FieldType)) ∈ xg := xg_t (i := 473) (by decide +kernel) (by decide +kernel)
theorem xw_470 : (Jvm.Cond.methodLink "QuestionDesk" (122 : Nat) ({ cls := "QuestionDesk", name := "findModel", desc := "()V" } : Jvm.MethodName)) ∈ xg := xg_t (i := 470) (by decide +kernel) (by decide +kernel)
theorem xw_472 : (Jvm.Cond.instanceMethod ({ cls := "QuestionDesk", name := "findModel", desc := "()V" } : Jvm.MethodName)) ∈ xg := xg_t (i := 472) (by decide +kernel) (by decide +kernel)
theorem xw_p14 : Cond.selects "QuestionDesk" ⟨"QuestionDesk", "findModel", "()V"⟩ ⟨"QuestionDesk", "findModel", "()V"⟩ ∈ xg := xg_p (q := (⟨"QuestionDesk", "findModel", "()V"⟩, 12)) (i := 14) (by decide +kernel) (by decide +kernel)
theorem xw_469 : (Jvm.Cond.code ({ cls := "QuestionDesk$Pairs", name := "startQuestion", desc := "()V" } : Jvm.MethodName) prog_3_method_9_code (2 : Nat) (Option.none : Option Jvm.ClassFile.FieldType)) ∈ xg := xg_t (i := 469) (by decide +kernel) (by decide +kernel)
theorem xw_466 : (Jvm.Cond.methodLink "QuestionDesk" (119 : Nat) ({ cls := "QuestionDesk$Pairs", name := "startQuestion", desc := "()V" } : Jvm.MethodName)) ∈ xg := xg_t (i := 466) (by decide +kernel) (by decide +kernel)
theorem xw_467 : (Jvm.Cond.instanceMethod ({ cls := "QuestionDesk$Pairs", name := "startQuestion", desc := "()V" } : Jvm.MethodName)) ∈ xg := xg_t (i := 467) (by decide +kernel) (by decide +kernel)
theorem xw_468 : (Jvm.Cond.selects "QuestionDesk$Pairs" ({ cls := "QuestionDesk$Pairs", name := "startQuestion", desc := "()V" } : Jvm.MethodName) ({ cls := "QuestionDesk$Pairs", name := "startQuestion", desc := "()V" } : Jvm.MethodName)) ∈ xg := xg_t (i := 468) (by decide +kernel) (by decide +kernel)
def wp_Qd_ask (post : Int32 → Int32 → Int32 → Int32 → (Nat → Int32) → (Nat → Int32) → (Nat → Int32) → (Nat → Int32) → Int32 → (Nat → Int32) → (Nat → Int32) → Prop) (pex : String → Prop) (ad : Nat → Nat)  (RV : Nat → Prop) (grs : Nat → Nat → Int32) (grf : Nat → Nat → Int32) (grc : Nat → Nat → Int32) (gna : Nat → Int32) (np : Int32) (qpl : Nat → Int32) (qbr : Nat → Int32) (nE : Nat) (ec : Nat → Option Nat) (sz : Int32) (rw : Int32) (aq : Int32) (pn : Int32) (qpt : Nat → Int32) (rs : Nat → Int32) (rf : Nat → Int32) (rc : Nat → Int32) (na : Int32) (f : Nat → Int32) (v : Nat → Int32) (a0 : Int32) (x : Int32) (y : Int32) : Prop :=
wp_Qd_hasPlaces (fun r_1 =>
wp_Qd_demand (
wp_Pr_startQuestion (fun f_7 =>
wp_Qd_findModel (fun f_10 v_11 =>
wp_Qd_findAnswers (fun rs_14 rf_15 rc_16 na_17 f_18 v_19 =>
wp_Qd_startCalls (fun qpt_22 f_23 =>
wp_Qd_spreadCalls (fun qpt_26 rs_27 rf_28 rc_29 na_30 f_31 v_32 =>
wp_Qd_countRewrittenRules (fun r_33 =>
wp_Pr_size (fun r_35 =>
post r_35 r_33 1 np qpt_26 rs_27 rf_28 rc_29 na_30 f_31 v_32) f_31 30) ad RV grs grf grc gna nE ec sz qbr qpt_26) ad RV grs grf grc gna nE ec sz qbr qpt_22 rs_14 rf_15 rc_16 na_17 f_23 v_19) qbr qpt f_18 a0 x y) rs rf rc na f_10 v_11 a0 x y) ad RV grs grf grc gna nE ec sz f_7 v) f) pex r_1) np qpl a0 x y 0 17
abbrev rm_Qd_ask : Room := { frames := 12, cells := 1, slots := 6, locals := 315 }
set_option maxHeartbeats 4000000 in
set_option maxRecDepth 100000 in
theorem c_Qd_ask {l : Launch} {D : va_G} {ad : Nat → Nat} (CE : Int32 → Int32 → Int32 → (Nat → Int32) → (Nat → Int32) → (Nat → Int32) → (Nat → Int32) → Int32 → (Nat → Int32) → (Nat → Int32) → Nat → Option va_E) {cI cZ cJ cO : ClassId} {iQ : Nat} {ipl : Nat} {ibr : Nat} {iL : Nat} {iP : Nat} {iM : Nat} {iU : Nat} {ipt : Nat} {iR : Nat} {iV : Nat} {iA : Nat} {iB : Nat} {iC : Nat} {iE : Nat} {RV : Nat → Prop} {grs : Nat → Nat → Int32} {grf : Nat → Nat → Int32} {grc : Nat → Nat → Int32} {gna : Nat → Int32} {np : Int32} {qpl : Nat → Int32} {qbr : Nat → Int32} {nE : Nat} {ec : Nat → Option Nat} {sz : Int32} {bg : Value} {mo : Int32} (k_Q : ∀ (rw : Int32) (aq : Int32) (pn : Int32) (qpt : Nat → Int32) (rs : Nat → Int32) (rf : Nat → Int32) (rc : Nat → Int32) (na : Int32) (f : Nat → Int32) (v : Nat → Int32), (CE rw aq pn qpt rs rf rc na f v) iQ = some (.inr (0, [.ref (ad ipl), .ref (ad ibr), .int np, .ref (ad iL), bg, .ref (ad iP), .ref (ad iM), .ref (ad iU), .ref (ad ipt), .int rw, .int aq, .int pn]))) (k_pl : ∀ (rw : Int32) (aq : Int32) (pn : Int32) (qpt : Nat → Int32) (rs : Nat → Int32) (rf : Nat → Int32) (rc : Nat → Int32) (na : Int32) (f : Nat → Int32) (v : Nat → Int32), (CE rw aq pn qpt rs rf rc na f v) ipl = some (.inl (cI, 10, .inl qpl))) (k_br : ∀ (rw : Int32) (aq : Int32) (pn : Int32) (qpt : Nat → Int32) (rs : Nat → Int32) (rf : Nat → Int32) (rc : Nat → Int32) (na : Int32) (f : Nat → Int32) (v : Nat → Int32), (CE rw aq pn qpt rs rf rc na f v) ibr = some (.inl (cZ, 10, .inl qbr))) (k_pt : ∀ (rw : Int32) (aq : Int32) (pn : Int32) (qpt : Nat → Int32) (rs : Nat → Int32) (rf : Nat → Int32) (rc : Nat → Int32) (na : Int32) (f : Nat → Int32) (v : Nat → Int32), (CE rw aq pn qpt rs rf rc na f v) ipt = some (.inl (cI, 10, .inl qpt))) (k_L : ∀ (rw : Int32) (aq : Int32) (pn : Int32) (qpt : Nat → Int32) (rs : Nat → Int32) (rf : Nat → Int32) (rc : Nat → Int32) (na : Int32) (f : Nat → Int32) (v : Nat → Int32), (CE rw aq pn qpt rs rf rc na f v) iL = some (.inr (5, [.ref (ad iE), .int sz, .int mo]))) (k_E : ∀ (rw : Int32) (aq : Int32) (pn : Int32) (qpt : Nat → Int32) (rs : Nat → Int32) (rf : Nat → Int32) (rc : Nat → Int32) (na : Int32) (f : Nat → Int32) (v : Nat → Int32), (CE rw aq pn qpt rs rf rc na f v) iE = some (.inl (cO, nE, .inr (.inr (.inr (.inr ec)))))) (k_P : ∀ (rw : Int32) (aq : Int32) (pn : Int32) (qpt : Nat → Int32) (rs : Nat → Int32) (rf : Nat → Int32) (rc : Nat → Int32) (na : Int32) (f : Nat → Int32) (v : Nat → Int32), (CE rw aq pn qpt rs rf rc na f v) iP = some (.inr (1, [.ref (ad iR)]))) (k_R : ∀ (rw : Int32) (aq : Int32) (pn : Int32) (qpt : Nat → Int32) (rs : Nat → Int32) (rf : Nat → Int32) (rc : Nat → Int32) (na : Int32) (f : Nat → Int32) (v : Nat → Int32), (CE rw aq pn qpt rs rf rc na f v) iR = some (.inl (cI, 341, .inl f))) (k_M : ∀ (rw : Int32) (aq : Int32) (pn : Int32) (qpt : Nat → Int32) (rs : Nat → Int32) (rf : Nat → Int32) (rc : Nat → Int32) (na : Int32) (f : Nat → Int32) (v : Nat → Int32), (CE rw aq pn qpt rs rf rc na f v) iM = some (.inr (2, [.ref (ad iP), .ref (ad iV)]))) (k_V : ∀ (rw : Int32) (aq : Int32) (pn : Int32) (qpt : Nat → Int32) (rs : Nat → Int32) (rf : Nat → Int32) (rc : Nat → Int32) (na : Int32) (f : Nat → Int32) (v : Nat → Int32), (CE rw aq pn qpt rs rf rc na f v) iV = some (.inl (cI, 20, .inl v))) (k_U : ∀ (rw : Int32) (aq : Int32) (pn : Int32) (qpt : Nat → Int32) (rs : Nat → Int32) (rf : Nat → Int32) (rc : Nat → Int32) (na : Int32) (f : Nat → Int32) (v : Nat → Int32), (CE rw aq pn qpt rs rf rc na f v) iU = some (.inr (3, [.ref (ad iA), .ref (ad iB), .ref (ad iC), .int na]))) (k_A : ∀ (rw : Int32) (aq : Int32) (pn : Int32) (qpt : Nat → Int32) (rs : Nat → Int32) (rf : Nat → Int32) (rc : Nat → Int32) (na : Int32) (f : Nat → Int32) (v : Nat → Int32), (CE rw aq pn qpt rs rf rc na f v) iA = some (.inl (cI, 4, .inl rs))) (k_B : ∀ (rw : Int32) (aq : Int32) (pn : Int32) (qpt : Nat → Int32) (rs : Nat → Int32) (rf : Nat → Int32) (rc : Nat → Int32) (na : Int32) (f : Nat → Int32) (v : Nat → Int32), (CE rw aq pn qpt rs rf rc na f v) iB = some (.inl (cI, 4, .inl rf))) (k_C : ∀ (rw : Int32) (aq : Int32) (pn : Int32) (qpt : Nat → Int32) (rs : Nat → Int32) (rf : Nat → Int32) (rc : Nat → Int32) (na : Int32) (f : Nat → Int32) (v : Nat → Int32), (CE rw aq pn qpt rs rf rc na f v) iC = some (.inl (cI, 4, .inl rc))) (kf_U : ∀ (rw : Int32) (aq : Int32) (pn : Int32) (qpt : Nat → Int32) (rs : Nat → Int32) (rf : Nat → Int32) (rc : Nat → Int32) (na : Int32) (f : Nat → Int32) (v : Nat → Int32) (ix : Nat), RV ix → (CE rw aq pn qpt rs rf rc na f v) ix = some (.inr (3, [.ref (ad (ix + 1)), .ref (ad (ix + 2)), .ref (ad (ix + 3)), .int (gna ix)]))) (kf_A : ∀ (rw : Int32) (aq : Int32) (pn : Int32) (qpt : Nat → Int32) (rs : Nat → Int32) (rf : Nat → Int32) (rc : Nat → Int32) (na : Int32) (f : Nat → Int32) (v : Nat → Int32) (ix : Nat), RV ix → (CE rw aq pn qpt rs rf rc na f v) (ix + 1) = some (.inl (cI, 4, .inl (grs ix)))) (kf_B : ∀ (rw : Int32) (aq : Int32) (pn : Int32) (qpt : Nat → Int32) (rs : Nat → Int32) (rf : Nat → Int32) (rc : Nat → Int32) (na : Int32) (f : Nat → Int32) (v : Nat → Int32) (ix : Nat), RV ix → (CE rw aq pn qpt rs rf rc na f v) (ix + 2) = some (.inl (cI, 4, .inl (grf ix)))) (kf_C : ∀ (rw : Int32) (aq : Int32) (pn : Int32) (qpt : Nat → Int32) (rs : Nat → Int32) (rf : Nat → Int32) (rc : Nat → Int32) (na : Int32) (f : Nat → Int32) (v : Nat → Int32) (ix : Nat), RV ix → (CE rw aq pn qpt rs rf rc na f v) (ix + 3) = some (.inl (cI, 4, .inl (grc ix)))) (u_Q : ∀ (rw : Int32) (aq : Int32) (pn : Int32) (qpt : Nat → Int32) (rs : Nat → Int32) (rf : Nat → Int32) (rc : Nat → Int32) (na : Int32) (f : Nat → Int32) (v : Nat → Int32) (rw' : Int32) (aq' : Int32) (pn' : Int32), va_up (CE rw aq pn qpt rs rf rc na f v) iQ (some (.inr (0, [.ref (ad ipl), .ref (ad ibr), .int np, .ref (ad iL), bg, .ref (ad iP), .ref (ad iM), .ref (ad iU), .ref (ad ipt), .int rw', .int aq', .int pn']))) = (CE rw' aq' pn' qpt rs rf rc na f v)) (u_pt : ∀ (rw : Int32) (aq : Int32) (pn : Int32) (qpt : Nat → Int32) (rs : Nat → Int32) (rf : Nat → Int32) (rc : Nat → Int32) (na : Int32) (f : Nat → Int32) (v : Nat → Int32) (qpt' : Nat → Int32), va_up (CE rw aq pn qpt rs rf rc na f v) ipt (some (.inl (cI, 10, .inl qpt'))) = (CE rw aq pn qpt' rs rf rc na f v)) (u_R : ∀ (rw : Int32) (aq : Int32) (pn : Int32) (qpt : Nat → Int32) (rs : Nat → Int32) (rf : Nat → Int32) (rc : Nat → Int32) (na : Int32) (f : Nat → Int32) (v : Nat → Int32) (f' : Nat → Int32), va_up (CE rw aq pn qpt rs rf rc na f v) iR (some (.inl (cI, 341, .inl f'))) = (CE rw aq pn qpt rs rf rc na f' v)) (u_V : ∀ (rw : Int32) (aq : Int32) (pn : Int32) (qpt : Nat → Int32) (rs : Nat → Int32) (rf : Nat → Int32) (rc : Nat → Int32) (na : Int32) (f : Nat → Int32) (v : Nat → Int32) (v' : Nat → Int32), va_up (CE rw aq pn qpt rs rf rc na f v) iV (some (.inl (cI, 20, .inl v'))) = (CE rw aq pn qpt rs rf rc na f v')) (u_U : ∀ (rw : Int32) (aq : Int32) (pn : Int32) (qpt : Nat → Int32) (rs : Nat → Int32) (rf : Nat → Int32) (rc : Nat → Int32) (na : Int32) (f : Nat → Int32) (v : Nat → Int32) (na' : Int32), va_up (CE rw aq pn qpt rs rf rc na f v) iU (some (.inr (3, [.ref (ad iA), .ref (ad iB), .ref (ad iC), .int na']))) = (CE rw aq pn qpt rs rf rc na' f v)) (u_A : ∀ (rw : Int32) (aq : Int32) (pn : Int32) (qpt : Nat → Int32) (rs : Nat → Int32) (rf : Nat → Int32) (rc : Nat → Int32) (na : Int32) (f : Nat → Int32) (v : Nat → Int32) (rs' : Nat → Int32), va_up (CE rw aq pn qpt rs rf rc na f v) iA (some (.inl (cI, 4, .inl rs'))) = (CE rw aq pn qpt rs' rf rc na f v)) (u_B : ∀ (rw : Int32) (aq : Int32) (pn : Int32) (qpt : Nat → Int32) (rs : Nat → Int32) (rf : Nat → Int32) (rc : Nat → Int32) (na : Int32) (f : Nat → Int32) (v : Nat → Int32) (rf' : Nat → Int32), va_up (CE rw aq pn qpt rs rf rc na f v) iB (some (.inl (cI, 4, .inl rf'))) = (CE rw aq pn qpt rs rf' rc na f v)) (u_C : ∀ (rw : Int32) (aq : Int32) (pn : Int32) (qpt : Nat → Int32) (rs : Nat → Int32) (rf : Nat → Int32) (rc : Nat → Int32) (na : Int32) (f : Nat → Int32) (v : Nat → Int32) (rc' : Nat → Int32), va_up (CE rw aq pn qpt rs rf rc na f v) iC (some (.inl (cI, 4, .inl rc'))) = (CE rw aq pn qpt rs rf rc' na f v)) {post : Int32 → Int32 → Int32 → Int32 → (Nat → Int32) → (Nat → Int32) → (Nat → Int32) → (Nat → Int32) → Int32 → (Nat → Int32) → (Nat → Int32) → Prop} {rw : Int32} {aq : Int32} {pn : Int32} {qpt : Nat → Int32} {rs : Nat → Int32} {rf : Nat → Int32} {rc : Nat → Int32} {na : Int32} {f : Nat → Int32} {v : Nat → Int32} {a0 : Int32} {x : Int32} {y : Int32} {pex : String → Prop} (hlt : l.stackTraces = false) (h : wp_Qd_ask post pex ad RV grs grf grc gna np qpl qbr nE ec sz rw aq pn qpt rs rf rc na f v a0 x y) : ∀ sz, vx_Met l y_Qd_ask (Cond.code y_Qd_ask b_Qd_ask 4 (some .int) :: xg) rm_Qd_ask (xv_Pc D xcl (xT cI cZ cJ cO) ad (CE rw aq pn qpt rs rf rc na f v) sz [.ref (ad iQ), .int a0, .int x, .int y]) (va_Qi (fun (r : Int32) (u : Int32 × Int32 × Int32 × (Nat → Int32) × (Nat → Int32) × (Nat → Int32) × (Nat → Int32) × Int32 × (Nat → Int32) × (Nat → Int32)) => post r u.1 u.2.1 u.2.2.1 u.2.2.2.1 u.2.2.2.2.1 u.2.2.2.2.2.1 u.2.2.2.2.2.2.1 u.2.2.2.2.2.2.2.1 u.2.2.2.2.2.2.2.2.1 u.2.2.2.2.2.2.2.2.2) (xm_B D xcl (xT cI cZ cJ cO) (xm_A ad (CE rw aq pn qpt rs rf rc na f v) sz) (fun _ => ad) (fun u : Int32 × Int32 × Int32 × (Nat → Int32) × (Nat → Int32) × (Nat → Int32) × (Nat → Int32) × Int32 × (Nat → Int32) × (Nat → Int32) => CE u.1 u.2.1 u.2.2.1 u.2.2.2.1 u.2.2.2.2.1 u.2.2.2.2.2.1 u.2.2.2.2.2.2.1 u.2.2.2.2.2.2.2.1 u.2.2.2.2.2.2.2.2.1 u.2.2.2.2.2.2.2.2.2)) (xm_A ad (CE rw aq pn qpt rs rf rc na f v) sz)) (xv_X D xcl (xT cI cZ cJ cO) (xm_A ad (CE rw aq pn qpt rs rf rc na f v) sz) ad (CE rw aq pn qpt rs rf rc na f v) pex) 1 6 (xm_A ad (CE rw aq pn qpt rs rf rc na f v) sz) := by
  refine xv_ofW (cc := b_Qd_ask) (maxL := 4) (ret := (some .int)) (by decide) rfl (Nat.le_of_ble_eq_true rfl) ?_
  intro p e s m args below meth c ls QQ hQQ hT hout hx hb hml hr hown hlk hnm hts hl hw
  have hl : lv_has ls 4 [(0, .ref (ad iQ)), (1, .int a0), (2, .int x), (3, .int y)] := hl
  unfold wp_Qd_ask at h
  refine lv_aload_n hx hb d_Qd_ask_0 rfl (lv_at hl 0 rfl) ?_
  refine lv_iload_n hx hb d_Qd_ask_1 rfl (lv_at hl 1 rfl) ?_
  refine lv_iload_n hx hb d_Qd_ask_2 rfl (lv_at hl 2 rfl) ?_
  refine lv_iload_n hx hb d_Qd_ask_3 rfl (lv_at hl 3 rfl) ?_
  refine lv_iconst (v := 0) hx hb d_Qd_ask_4 (by decide) ?_
  refine lv_bipush (v := 17) hx hb d_Qd_ask_5 (by decide) ?_
  refine xm_calli (ua := fun _ => ad) (va_runV (As := [.int a0, .int x, .int y, .int 0, .int 17]) (rest := []) ⟨hx, hb, hml, hown, hts⟩ (c_Qd_hasPlaces (D := D) (ad := ad) (CE := ((CE rw aq pn qpt rs rf rc na f v)))  (k_Q rw aq pn qpt rs rf rc na f v) (k_pl rw aq pn qpt rs rf rc na f v) h _) (xg_cwV 5 hts xw_317 xw_314 xw_316 xw_p8 xw_1 rfl rfl (by decide +kernel) ⟨Nat.le_of_ble_eq_true rfl, Nat.le_of_ble_eq_true rfl⟩) (xm_preV hw (k_Q rw aq pn qpt rs rf rc na f v) rfl _) rfl rfl hl.1 rfl (lv_room (Nat.le_of_ble_eq_true rfl)) d_Qd_ask_7 ⟨Nat.le_of_ble_eq_true rfl, Nat.le_of_ble_eq_true rfl⟩) hw (fun r_1 _ H locs h hw => ?_)
  refine xv_callv (ua := fun _ => ad) (vx_runS (As := [.int r_1]) (rest := []) ⟨hx, hb, hml, hown, hts⟩ (c_Qd_demand (D := D) (ad := ad) (CE := ((CE rw aq pn qpt rs rf rc na f v)))   hlt h _) (xg_cwS 1 hts xw_239 xw_237 xw_238 xw_1 rfl rfl (by decide +kernel) ⟨Nat.le_of_ble_eq_true rfl, Nat.le_of_ble_eq_true rfl⟩) (xv_pre hw hT _) rfl rfl hl.1 rfl (lv_room (Nat.le_of_ble_eq_true rfl)) d_Qd_ask_10 ⟨Nat.le_of_ble_eq_true rfl, Nat.le_of_ble_eq_true rfl⟩) hw (fun E c9 q9 H locs hpx hw h1 h2 h3 => by subst hQQ; exact xv_out hout hlk hw hpx h1 h2 h3 (by decide) (by decide)) (fun _ H locs h hw => ?_)
  refine lv_aload_n hx hb d_Qd_ask_13 rfl (lv_at hl 0 rfl) ?_
  refine lv_iconst (v := 1) hx hb d_Qd_ask_14 (by decide) ?_
  refine xm_put (D := D) (v := .int 1) (ty := .boolean) (C := R_Qd) (T := F_Qd) (N := 12) hx hb hts (fun w h => List.mem_cons_of_mem _ (i_Qd w h)) t_Qd o_Qd n_Qd hown hw (k_Q rw aq pn qpt rs rf rc na f v) rfl 10 (by decide) (hts _ (List.mem_cons_of_mem _ xw_117)) (fun _ h9 => h9) rfl (by decide +kernel) rfl rfl (Nat.le_of_ble_eq_true rfl) d_Qd_ask_15 (fun H locs hw => ?_)
  have hw : xm_W D xcl (xT cI cZ cJ cO) (xm_A ad (CE rw aq pn qpt rs rf rc na f v) s.heap.size) ad (CE rw 1 pn qpt rs rf rc na f v) s s.heap H locs := xm_W.cast (u_Q rw aq pn qpt rs rf rc na f v rw 1 pn) hw
  refine lv_aload_n hx hb d_Qd_ask_18 rfl (lv_at hl 0 rfl) ?_
  refine lv_aload_n hx hb d_Qd_ask_19 rfl (lv_at hl 0 rfl) ?_
  refine xm_get (D := D) (v := .int np) (C := R_Qd) (T := F_Qd) (N := 12) hx hb hts (fun w h => List.mem_cons_of_mem _ (i_Qd w h)) hown hw (k_Q rw 1 pn qpt rs rf rc na f v) rfl 2 (by decide) (hts _ (List.mem_cons_of_mem _ xw_109)) (fun _ h9 => h9) rfl d_Qd_ask_20 ?_
  refine xm_put (D := D) (v := .int np) (ty := .int) (C := R_Qd) (T := F_Qd) (N := 12) hx hb hts (fun w h => List.mem_cons_of_mem _ (i_Qd w h)) t_Qd o_Qd n_Qd hown hw (k_Q rw 1 pn qpt rs rf rc na f v) rfl 11 (by decide) (hts _ (List.mem_cons_of_mem _ xw_118)) (fun _ h9 => h9) rfl (by decide +kernel) rfl rfl (Nat.le_of_ble_eq_true rfl) d_Qd_ask_23 (fun H locs hw => ?_)
  have hw : xm_W D xcl (xT cI cZ cJ cO) (xm_A ad (CE rw aq pn qpt rs rf rc na f v) s.heap.size) ad (CE rw 1 np qpt rs rf rc na f v) s s.heap H locs := xm_W.cast (u_Q rw 1 pn qpt rs rf rc na f v rw 1 np) hw
  refine lv_aload_n hx hb d_Qd_ask_26 rfl (lv_at hl 0 rfl) ?_
  refine xm_get (D := D) (v := .ref (ad iP)) (C := R_Qd) (T := F_Qd) (N := 12) hx hb hts (fun w h => List.mem_cons_of_mem _ (i_Qd w h)) hown hw (k_Q rw 1 np qpt rs rf rc na f v) rfl 5 (by decide) (hts _ (List.mem_cons_of_mem _ xw_112)) (fun _ h9 => h9) rfl d_Qd_ask_27 ?_
  refine xm_callv (ua := fun _ => ad) (va_runV (As := []) (rest := []) ⟨hx, hb, hml, hown, hts⟩ (c_Pr_startQuestion (D := D) (ad := ad) (CE := (fun f => (CE rw 1 np qpt rs rf rc na f v)))  (fun f => k_P rw 1 np qpt rs rf rc na f v) (fun f => k_R rw 1 np qpt rs rf rc na f v) (fun f f' => u_R rw 1 np qpt rs rf rc na f v f') h _) (xg_cwV 0 hts xw_469 xw_466 xw_467 xw_468 xw_5 rfl rfl (by decide +kernel) ⟨Nat.le_of_ble_eq_true rfl, Nat.le_of_ble_eq_true rfl⟩) (xm_preV hw (k_P rw 1 np qpt rs rf rc na f v) rfl _) rfl rfl hl.1 rfl (lv_room (Nat.le_of_ble_eq_true rfl)) d_Qd_ask_30 ⟨Nat.le_of_ble_eq_true rfl, Nat.le_of_ble_eq_true rfl⟩) hw (fun u_6 H locs h hw => ?_)
  obtain ⟨f_7, ef_7⟩ : ∃ z, z = u_6 := ⟨_, rfl⟩
  try dsimp only at h hw
  rw [← ef_7] at h hw
  refine lv_aload_n hx hb d_Qd_ask_33 rfl (lv_at hl 0 rfl) ?_
  refine xm_callv (ua := fun _ => ad) (va_runV (As := []) (rest := []) ⟨hx, hb, hml, hown, hts⟩ (c_Qd_findModel (D := D) (ad := ad) (CE := (fun f v => (CE rw 1 np qpt rs rf rc na f v)))  (fun f v => k_Q rw 1 np qpt rs rf rc na f v) (fun f v => k_L rw 1 np qpt rs rf rc na f v) (fun f v => k_E rw 1 np qpt rs rf rc na f v) (fun f v => k_P rw 1 np qpt rs rf rc na f v) (fun f v => k_R rw 1 np qpt rs rf rc na f v) (fun f v => k_M rw 1 np qpt rs rf rc na f v) (fun f v => k_V rw 1 np qpt rs rf rc na f v) (fun f v => kf_U rw 1 np qpt rs rf rc na f v) (fun f v => kf_A rw 1 np qpt rs rf rc na f v) (fun f v => kf_B rw 1 np qpt rs rf rc na f v) (fun f v => kf_C rw 1 np qpt rs rf rc na f v) (fun f v f' => u_R rw 1 np qpt rs rf rc na f v f') (fun f v v' => u_V rw 1 np qpt rs rf rc na f v v') h _) (xg_cwV 0 hts xw_473 xw_470 xw_472 xw_p14 xw_1 rfl rfl (by decide +kernel) ⟨Nat.le_of_ble_eq_true rfl, Nat.le_of_ble_eq_true rfl⟩) (xm_preV hw (k_Q rw 1 np qpt rs rf rc na f_7 v) rfl _) rfl rfl hl.1 rfl (lv_room (Nat.le_of_ble_eq_true rfl)) d_Qd_ask_34 ⟨Nat.le_of_ble_eq_true rfl, Nat.le_of_ble_eq_true rfl⟩) hw (fun u_9 H locs h hw => ?_)
  obtain ⟨f_10, ef_10⟩ : ∃ z, z = u_9.1 := ⟨_, rfl⟩
  obtain ⟨v_11, ev_11⟩ : ∃ z, z = u_9.2 := ⟨_, rfl⟩
  try dsimp only at h hw
  rw [← ef_10, ← ev_11] at h hw
  refine lv_aload_n hx hb d_Qd_ask_37 rfl (lv_at hl 0 rfl) ?_
  refine lv_iload_n hx hb d_Qd_ask_38 rfl (lv_at hl 1 rfl) ?_
  refine lv_iload_n hx hb d_Qd_ask_39 rfl (lv_at hl 2 rfl) ?_
  refine lv_iload_n hx hb d_Qd_ask_40 rfl (lv_at hl 3 rfl) ?_
  refine xm_callv (ua := fun _ => ad) (va_runV (As := [.int a0, .int x, .int y]) (rest := []) ⟨hx, hb, hml, hown, hts⟩ (c_Qd_findAnswers (D := D) (ad := ad) (CE := (fun rs rf rc na f v => (CE rw 1 np qpt rs rf rc na f v)))  (fun rs rf rc na f v => k_Q rw 1 np qpt rs rf rc na f v) (fun rs rf rc na f v => k_P rw 1 np qpt rs rf rc na f v) (fun rs rf rc na f v => k_R rw 1 np qpt rs rf rc na f v) (fun rs rf rc na f v => k_M rw 1 np qpt rs rf rc na f v) (fun rs rf rc na f v => k_V rw 1 np qpt rs rf rc na f v) (fun rs rf rc na f v => k_U rw 1 np qpt rs rf rc na f v) (fun rs rf rc na f v => k_A rw 1 np qpt rs rf rc na f v) (fun rs rf rc na f v => k_B rw 1 np qpt rs rf rc na f v) (fun rs rf rc na f v => k_C rw 1 np qpt rs rf rc na f v) (fun rs rf rc na f v f' => u_R rw 1 np qpt rs rf rc na f v f') (fun rs rf rc na f v v' => u_V rw 1 np qpt rs rf rc na f v v') (fun rs rf rc na f v na' => u_U rw 1 np qpt rs rf rc na f v na') (fun rs rf rc na f v rs' => u_A rw 1 np qpt rs rf rc na f v rs') (fun rs rf rc na f v rf' => u_B rw 1 np qpt rs rf rc na f v rf') (fun rs rf rc na f v rc' => u_C rw 1 np qpt rs rf rc na f v rc') h _) (xg_cwV 3 hts xw_505 xw_502 xw_504 xw_p17 xw_1 rfl rfl (by decide +kernel) ⟨Nat.le_of_ble_eq_true rfl, Nat.le_of_ble_eq_true rfl⟩) (xm_preV hw (k_Q rw 1 np qpt rs rf rc na f_10 v_11) rfl _) rfl rfl hl.1 rfl (lv_room (Nat.le_of_ble_eq_true rfl)) d_Qd_ask_41 ⟨Nat.le_of_ble_eq_true rfl, Nat.le_of_ble_eq_true rfl⟩) hw (fun u_13 H locs h hw => ?_)
  obtain ⟨rs_14, ers_14⟩ : ∃ z, z = u_13.1 := ⟨_, rfl⟩
  obtain ⟨rf_15, erf_15⟩ : ∃ z, z = u_13.2.1 := ⟨_, rfl⟩
  obtain ⟨rc_16, erc_16⟩ : ∃ z, z = u_13.2.2.1 := ⟨_, rfl⟩
  obtain ⟨na_17, ena_17⟩ : ∃ z, z = u_13.2.2.2.1 := ⟨_, rfl⟩
  obtain ⟨f_18, ef_18⟩ : ∃ z, z = u_13.2.2.2.2.1 := ⟨_, rfl⟩
  obtain ⟨v_19, ev_19⟩ : ∃ z, z = u_13.2.2.2.2.2 := ⟨_, rfl⟩
  try dsimp only at h hw
  rw [← ers_14, ← erf_15, ← erc_16, ← ena_17, ← ef_18, ← ev_19] at h hw
  refine lv_aload_n hx hb d_Qd_ask_44 rfl (lv_at hl 0 rfl) ?_
  refine lv_iload_n hx hb d_Qd_ask_45 rfl (lv_at hl 1 rfl) ?_
  refine lv_iload_n hx hb d_Qd_ask_46 rfl (lv_at hl 2 rfl) ?_
  refine lv_iload_n hx hb d_Qd_ask_47 rfl (lv_at hl 3 rfl) ?_
  refine xm_callv (ua := fun _ => ad) (va_runV (As := [.int a0, .int x, .int y]) (rest := []) ⟨hx, hb, hml, hown, hts⟩ (c_Qd_startCalls (D := D) (ad := ad) (CE := (fun qpt f => (CE rw 1 np qpt rs_14 rf_15 rc_16 na_17 f v_19)))  (fun qpt f => k_Q rw 1 np qpt rs_14 rf_15 rc_16 na_17 f v_19) (fun qpt f => k_br rw 1 np qpt rs_14 rf_15 rc_16 na_17 f v_19) (fun qpt f => k_pt rw 1 np qpt rs_14 rf_15 rc_16 na_17 f v_19) (fun qpt f => k_P rw 1 np qpt rs_14 rf_15 rc_16 na_17 f v_19) (fun qpt f => k_R rw 1 np qpt rs_14 rf_15 rc_16 na_17 f v_19) (fun qpt f qpt' => u_pt rw 1 np qpt rs_14 rf_15 rc_16 na_17 f v_19 qpt') (fun qpt f f' => u_R rw 1 np qpt rs_14 rf_15 rc_16 na_17 f v_19 f') h _) (xg_cwV 3 hts xw_509 xw_506 xw_508 xw_p18 xw_1 rfl rfl (by decide +kernel) ⟨Nat.le_of_ble_eq_true rfl, Nat.le_of_ble_eq_true rfl⟩) (xm_preV hw (k_Q rw 1 np qpt rs_14 rf_15 rc_16 na_17 f_18 v_19) rfl _) rfl rfl hl.1 rfl (lv_room (Nat.le_of_ble_eq_true rfl)) d_Qd_ask_48 ⟨Nat.le_of_ble_eq_true rfl, Nat.le_of_ble_eq_true rfl⟩) hw (fun u_21 H locs h hw => ?_)
  obtain ⟨qpt_22, eqpt_22⟩ : ∃ z, z = u_21.1 := ⟨_, rfl⟩
  obtain ⟨f_23, ef_23⟩ : ∃ z, z = u_21.2 := ⟨_, rfl⟩
  try dsimp only at h hw
  rw [← eqpt_22, ← ef_23] at h hw
  refine lv_aload_n hx hb d_Qd_ask_51 rfl (lv_at hl 0 rfl) ?_
  refine xm_callv (ua := fun _ => ad) (va_runV (As := []) (rest := []) ⟨hx, hb, hml, hown, hts⟩ (c_Qd_spreadCalls (D := D) (ad := ad) (CE := (fun qpt rs rf rc na f v => (CE rw 1 np qpt rs rf rc na f v)))  (fun qpt rs rf rc na f v => k_Q rw 1 np qpt rs rf rc na f v) (fun qpt rs rf rc na f v => k_br rw 1 np qpt rs rf rc na f v) (fun qpt rs rf rc na f v => k_pt rw 1 np qpt rs rf rc na f v) (fun qpt rs rf rc na f v => k_L rw 1 np qpt rs rf rc na f v) (fun qpt rs rf rc na f v => k_E rw 1 np qpt rs rf rc na f v) (fun qpt rs rf rc na f v => k_P rw 1 np qpt rs rf rc na f v) (fun qpt rs rf rc na f v => k_R rw 1 np qpt rs rf rc na f v) (fun qpt rs rf rc na f v => k_M rw 1 np qpt rs rf rc na f v) (fun qpt rs rf rc na f v => k_V rw 1 np qpt rs rf rc na f v) (fun qpt rs rf rc na f v => k_U rw 1 np qpt rs rf rc na f v) (fun qpt rs rf rc na f v => k_A rw 1 np qpt rs rf rc na f v) (fun qpt rs rf rc na f v => k_B rw 1 np qpt rs rf rc na f v) (fun qpt rs rf rc na f v => k_C rw 1 np qpt rs rf rc na f v) (fun qpt rs rf rc na f v => kf_U rw 1 np qpt rs rf rc na f v) (fun qpt rs rf rc na f v => kf_A rw 1 np qpt rs rf rc na f v) (fun qpt rs rf rc na f v => kf_B rw 1 np qpt rs rf rc na f v) (fun qpt rs rf rc na f v => kf_C rw 1 np qpt rs rf rc na f v) (fun qpt rs rf rc na f v qpt' => u_pt rw 1 np qpt rs rf rc na f v qpt') (fun qpt rs rf rc na f v f' => u_R rw 1 np qpt rs rf rc na f v f') (fun qpt rs rf rc na f v v' => u_V rw 1 np qpt rs rf rc na f v v') (fun qpt rs rf rc na f v na' => u_U rw 1 np qpt rs rf rc na f v na') (fun qpt rs rf rc na f v rs' => u_A rw 1 np qpt rs rf rc na f v rs') (fun qpt rs rf rc na f v rf' => u_B rw 1 np qpt rs rf rc na f v rf') (fun qpt rs rf rc na f v rc' => u_C rw 1 np qpt rs rf rc na f v rc') h _) (xg_cwV 0 hts xw_521 xw_518 xw_520 xw_p20 xw_1 rfl rfl (by decide +kernel) ⟨Nat.le_of_ble_eq_true rfl, Nat.le_of_ble_eq_true rfl⟩) (xm_preV hw (k_Q rw 1 np qpt_22 rs_14 rf_15 rc_16 na_17 f_23 v_19) rfl _) rfl rfl hl.1 rfl (lv_room (Nat.le_of_ble_eq_true rfl)) d_Qd_ask_52 ⟨Nat.le_of_ble_eq_true rfl, Nat.le_of_ble_eq_true rfl⟩) hw (fun u_25 H locs h hw => ?_)
  obtain ⟨qpt_26, eqpt_26⟩ : ∃ z, z = u_25.1 := ⟨_, rfl⟩
  obtain ⟨rs_27, ers_27⟩ : ∃ z, z = u_25.2.1 := ⟨_, rfl⟩
  obtain ⟨rf_28, erf_28⟩ : ∃ z, z = u_25.2.2.1 := ⟨_, rfl⟩
  obtain ⟨rc_29, erc_29⟩ : ∃ z, z = u_25.2.2.2.1 := ⟨_, rfl⟩
  obtain ⟨na_30, ena_30⟩ : ∃ z, z = u_25.2.2.2.2.1 := ⟨_, rfl⟩
  obtain ⟨f_31, ef_31⟩ : ∃ z, z = u_25.2.2.2.2.2.1 := ⟨_, rfl⟩
  obtain ⟨v_32, ev_32⟩ : ∃ z, z = u_25.2.2.2.2.2.2 := ⟨_, rfl⟩
  try dsimp only at h hw
  rw [← eqpt_26, ← ers_27, ← erf_28, ← erc_29, ← ena_30, ← ef_31, ← ev_32] at h hw
  refine lv_aload_n hx hb d_Qd_ask_55 rfl (lv_at hl 0 rfl) ?_
  refine lv_aload_n hx hb d_Qd_ask_56 rfl (lv_at hl 0 rfl) ?_
  refine xm_calli (ua := fun _ => ad) (va_runV (As := []) (rest := [.ref (ad iQ)]) ⟨hx, hb, hml, hown, hts⟩ (c_Qd_countRewrittenRules (D := D) (ad := ad) (CE := ((CE rw 1 np qpt_26 rs_27 rf_28 rc_29 na_30 f_31 v_32)))  (k_Q rw 1 np qpt_26 rs_27 rf_28 rc_29 na_30 f_31 v_32) (k_br rw 1 np qpt_26 rs_27 rf_28 rc_29 na_30 f_31 v_32) (k_pt rw 1 np qpt_26 rs_27 rf_28 rc_29 na_30 f_31 v_32) (k_L rw 1 np qpt_26 rs_27 rf_28 rc_29 na_30 f_31 v_32) (k_E rw 1 np qpt_26 rs_27 rf_28 rc_29 na_30 f_31 v_32) (kf_U rw 1 np qpt_26 rs_27 rf_28 rc_29 na_30 f_31 v_32) (kf_A rw 1 np qpt_26 rs_27 rf_28 rc_29 na_30 f_31 v_32) (kf_B rw 1 np qpt_26 rs_27 rf_28 rc_29 na_30 f_31 v_32) (kf_C rw 1 np qpt_26 rs_27 rf_28 rc_29 na_30 f_31 v_32) h _) (xg_cwV 0 hts xw_534 xw_531 xw_533 xw_p22 xw_1 rfl rfl (by decide +kernel) ⟨Nat.le_of_ble_eq_true rfl, Nat.le_of_ble_eq_true rfl⟩) (xm_preV hw (k_Q rw 1 np qpt_26 rs_27 rf_28 rc_29 na_30 f_31 v_32) rfl _) rfl rfl hl.1 rfl (lv_room (Nat.le_of_ble_eq_true rfl)) d_Qd_ask_57 ⟨Nat.le_of_ble_eq_true rfl, Nat.le_of_ble_eq_true rfl⟩) hw (fun r_33 _ H locs h hw => ?_)
  refine xm_put (D := D) (v := .int r_33) (ty := .int) (C := R_Qd) (T := F_Qd) (N := 12) hx hb hts (fun w h => List.mem_cons_of_mem _ (i_Qd w h)) t_Qd o_Qd n_Qd hown hw (k_Q rw 1 np qpt_26 rs_27 rf_28 rc_29 na_30 f_31 v_32) rfl 9 (by decide) (hts _ (List.mem_cons_of_mem _ xw_116)) (fun _ h9 => h9) rfl (by decide +kernel) rfl rfl (Nat.le_of_ble_eq_true rfl) d_Qd_ask_60 (fun H locs hw => ?_)
  have hw : xm_W D xcl (xT cI cZ cJ cO) (xm_A ad (CE rw aq pn qpt rs rf rc na f v) s.heap.size) ad (CE r_33 1 np qpt_26 rs_27 rf_28 rc_29 na_30 f_31 v_32) s s.heap H locs := xm_W.cast (u_Q rw 1 np qpt_26 rs_27 rf_28 rc_29 na_30 f_31 v_32 r_33 1 np) hw
  refine lv_aload_n hx hb d_Qd_ask_63 rfl (lv_at hl 0 rfl) ?_
  refine xm_get (D := D) (v := .ref (ad iP)) (C := R_Qd) (T := F_Qd) (N := 12) hx hb hts (fun w h => List.mem_cons_of_mem _ (i_Qd w h)) hown hw (k_Q r_33 1 np qpt_26 rs_27 rf_28 rc_29 na_30 f_31 v_32) rfl 5 (by decide) (hts _ (List.mem_cons_of_mem _ xw_112)) (fun _ h9 => h9) rfl d_Qd_ask_64 ?_
  refine lv_bipush (v := 30) hx hb d_Qd_ask_67 (by decide) ?_
  refine xm_calli (ua := fun _ => ad) (va_runV (As := [.int 30]) (rest := []) ⟨hx, hb, hml, hown, hts⟩ (c_Pr_size (D := D) (ad := ad) (CE := ((CE r_33 1 np qpt_26 rs_27 rf_28 rc_29 na_30 f_31 v_32)))  (k_P r_33 1 np qpt_26 rs_27 rf_28 rc_29 na_30 f_31 v_32) (k_R r_33 1 np qpt_26 rs_27 rf_28 rc_29 na_30 f_31 v_32) h _) (xg_cwV 1 hts xw_191 xw_188 xw_189 xw_190 xw_5 rfl rfl (by decide +kernel) ⟨Nat.le_of_ble_eq_true rfl, Nat.le_of_ble_eq_true rfl⟩) (xm_preV hw (k_P r_33 1 np qpt_26 rs_27 rf_28 rc_29 na_30 f_31 v_32) rfl _) rfl rfl hl.1 rfl (lv_room (Nat.le_of_ble_eq_true rfl)) d_Qd_ask_69 ⟨Nat.le_of_ble_eq_true rfl, Nat.le_of_ble_eq_true rfl⟩) hw (fun r_35 _ H locs h hw => ?_)
  subst hQQ
  refine vx_ret (W.widen (k := 1) (n := 6) (by decide) (by decide) ?_)
  exact xm_iret hx hb hr hlk hw (r_33, 1, np, qpt_26, rs_27, rf_28, rc_29, na_30, f_31, v_32) rfl rfl h d_Qd_ask_72
