abbrev b_Mo_thrown : ByteArray := prog_6_method_2_code
def y_Mo_thrown : MethodName := ⟨"QuestionDeskModel", "thrown", "()I"⟩
theorem d_Mo_thrown_0 : decode b_Mo_thrown 0 = .ok (.aload_n 0, 1) := by decide +kernel
theorem d_Mo_thrown_1 : decode b_Mo_thrown 1 = .ok (.getfield 53, 3) := by decide +kernel
theorem d_Mo_thrown_4 : decode b_Mo_thrown 4 = .ok (.ireturn, 1) := by decide +kernel
abbrev b_Mo_in : ByteArray := prog_6_method_3_code
def y_Mo_in : MethodName := ⟨"QuestionDeskModel", "in", "(III)Z"⟩
theorem d_Mo_in_0 : decode b_Mo_in 0 = .ok (.iload_n 0, 1) := by decide +kernel
theorem d_Mo_in_1 : decode b_Mo_in 1 = .ok (.iload_n 1, 1) := by decide +kernel
theorem d_Mo_in_2 : decode b_Mo_in 2 = .ok (.if_icmp .lt 12, 3) := by decide +kernel
theorem d_Mo_in_5 : decode b_Mo_in 5 = .ok (.iload_n 0, 1) := by decide +kernel
theorem d_Mo_in_6 : decode b_Mo_in 6 = .ok (.iload_n 2, 1) := by decide +kernel
theorem d_Mo_in_7 : decode b_Mo_in 7 = .ok (.if_icmp .gt 7, 3) := by decide +kernel
theorem d_Mo_in_10 : decode b_Mo_in 10 = .ok (.iconst 1, 1) := by decide +kernel
theorem d_Mo_in_11 : decode b_Mo_in 11 = .ok (.goto 4, 3) := by decide +kernel
theorem d_Mo_in_14 : decode b_Mo_in 14 = .ok (.iconst 0, 1) := by decide +kernel
theorem d_Mo_in_15 : decode b_Mo_in 15 = .ok (.ireturn, 1) := by decide +kernel
abbrev b_Mo_isPredicate : ByteArray := prog_6_method_4_code
def y_Mo_isPredicate : MethodName := ⟨"QuestionDeskModel", "isPredicate", "(I)Z"⟩
theorem d_Mo_isPredicate_0 : decode b_Mo_isPredicate 0 = .ok (.iload_n 1, 1) := by decide +kernel
theorem d_Mo_isPredicate_1 : decode b_Mo_isPredicate 1 = .ok (.iconst 0, 1) := by decide +kernel
theorem d_Mo_isPredicate_2 : decode b_Mo_isPredicate 2 = .ok (.aload_n 0, 1) := by decide +kernel
theorem d_Mo_isPredicate_3 : decode b_Mo_isPredicate 3 = .ok (.getfield 57, 3) := by decide +kernel
theorem d_Mo_isPredicate_6 : decode b_Mo_isPredicate 6 = .ok (.iconst 1, 1) := by decide +kernel
theorem d_Mo_isPredicate_7 : decode b_Mo_isPredicate 7 = .ok (.isub, 1) := by decide +kernel
theorem d_Mo_isPredicate_8 : decode b_Mo_isPredicate 8 = .ok (.invokestatic 60, 3) := by decide +kernel
theorem d_Mo_isPredicate_11 : decode b_Mo_isPredicate 11 = .ok (.ireturn, 1) := by decide +kernel
abbrev b_Mo_fit : ByteArray := prog_6_method_5_code
def y_Mo_fit : MethodName := ⟨"QuestionDeskModel", "fit", "(IIII)Z"⟩
theorem d_Mo_fit_0 : decode b_Mo_fit 0 = .ok (.iload_n 2, 1) := by decide +kernel
theorem d_Mo_fit_1 : decode b_Mo_fit 1 = .ok (.iconst 0, 1) := by decide +kernel
theorem d_Mo_fit_2 : decode b_Mo_fit 2 = .ok (.iload 4, 2) := by decide +kernel
theorem d_Mo_fit_4 : decode b_Mo_fit 4 = .ok (.invokestatic 60, 3) := by decide +kernel
theorem d_Mo_fit_7 : decode b_Mo_fit 7 = .ok (.ifCond .eq 35, 3) := by decide +kernel
theorem d_Mo_fit_10 : decode b_Mo_fit 10 = .ok (.aload_n 0, 1) := by decide +kernel
theorem d_Mo_fit_11 : decode b_Mo_fit 11 = .ok (.getfield 7, 3) := by decide +kernel
theorem d_Mo_fit_14 : decode b_Mo_fit 14 = .ok (.iload_n 1, 1) := by decide +kernel
theorem d_Mo_fit_15 : decode b_Mo_fit 15 = .ok (.iaload, 1) := by decide +kernel
theorem d_Mo_fit_16 : decode b_Mo_fit 16 = .ok (.iconst 1, 1) := by decide +kernel
theorem d_Mo_fit_17 : decode b_Mo_fit 17 = .ok (.if_icmp .ne 11, 3) := by decide +kernel
theorem d_Mo_fit_20 : decode b_Mo_fit 20 = .ok (.iload_n 3, 1) := by decide +kernel
theorem d_Mo_fit_21 : decode b_Mo_fit 21 = .ok (.iconst (-1), 1) := by decide +kernel
theorem d_Mo_fit_22 : decode b_Mo_fit 22 = .ok (.if_icmp .ne 20, 3) := by decide +kernel
theorem d_Mo_fit_25 : decode b_Mo_fit 25 = .ok (.goto 13, 3) := by decide +kernel
theorem d_Mo_fit_28 : decode b_Mo_fit 28 = .ok (.iload_n 3, 1) := by decide +kernel
theorem d_Mo_fit_29 : decode b_Mo_fit 29 = .ok (.iconst 0, 1) := by decide +kernel
theorem d_Mo_fit_30 : decode b_Mo_fit 30 = .ok (.iload 4, 2) := by decide +kernel
theorem d_Mo_fit_32 : decode b_Mo_fit 32 = .ok (.invokestatic 60, 3) := by decide +kernel
theorem d_Mo_fit_35 : decode b_Mo_fit 35 = .ok (.ifCond .eq 7, 3) := by decide +kernel
theorem d_Mo_fit_38 : decode b_Mo_fit 38 = .ok (.iconst 1, 1) := by decide +kernel
theorem d_Mo_fit_39 : decode b_Mo_fit 39 = .ok (.goto 4, 3) := by decide +kernel
theorem d_Mo_fit_42 : decode b_Mo_fit 42 = .ok (.iconst 0, 1) := by decide +kernel
theorem d_Mo_fit_43 : decode b_Mo_fit 43 = .ok (.ireturn, 1) := by decide +kernel
abbrev b_Mo_place : ByteArray := prog_6_method_6_code
def y_Mo_place : MethodName := ⟨"QuestionDeskModel", "place", "(III)I"⟩
theorem d_Mo_place_0 : decode b_Mo_place 0 = .ok (.bipush 100, 2) := by decide +kernel
theorem d_Mo_place_2 : decode b_Mo_place 2 = .ok (.iload_n 0, 1) := by decide +kernel
theorem d_Mo_place_3 : decode b_Mo_place 3 = .ok (.imul, 1) := by decide +kernel
theorem d_Mo_place_4 : decode b_Mo_place 4 = .ok (.bipush 10, 2) := by decide +kernel
theorem d_Mo_place_6 : decode b_Mo_place 6 = .ok (.iload_n 1, 1) := by decide +kernel
theorem d_Mo_place_7 : decode b_Mo_place 7 = .ok (.imul, 1) := by decide +kernel
theorem d_Mo_place_8 : decode b_Mo_place 8 = .ok (.iadd, 1) := by decide +kernel
theorem d_Mo_place_9 : decode b_Mo_place 9 = .ok (.iload_n 2, 1) := by decide +kernel
theorem d_Mo_place_10 : decode b_Mo_place 10 = .ok (.ifCond .ge 7, 3) := by decide +kernel
theorem d_Mo_place_13 : decode b_Mo_place 13 = .ok (.iconst 0, 1) := by decide +kernel
theorem d_Mo_place_14 : decode b_Mo_place 14 = .ok (.goto 4, 3) := by decide +kernel
theorem d_Mo_place_17 : decode b_Mo_place 17 = .ok (.iload_n 2, 1) := by decide +kernel
theorem d_Mo_place_18 : decode b_Mo_place 18 = .ok (.iadd, 1) := by decide +kernel
theorem d_Mo_place_19 : decode b_Mo_place 19 = .ok (.ireturn, 1) := by decide +kernel
abbrev b_Mo_predicate : ByteArray := prog_6_method_7_code
def y_Mo_predicate : MethodName := ⟨"QuestionDeskModel", "predicate", "(IZ)I"⟩
theorem d_Mo_predicate_0 : decode b_Mo_predicate 0 = .ok (.aload_n 0, 1) := by decide +kernel
theorem d_Mo_predicate_1 : decode b_Mo_predicate 1 = .ok (.iload_n 1, 1) := by decide +kernel
theorem d_Mo_predicate_2 : decode b_Mo_predicate 2 = .ok (.iconst 1, 1) := by decide +kernel
theorem d_Mo_predicate_3 : decode b_Mo_predicate 3 = .ok (.iconst 2, 1) := by decide +kernel
theorem d_Mo_predicate_4 : decode b_Mo_predicate 4 = .ok (.invokestatic 60, 3) := by decide +kernel
theorem d_Mo_predicate_7 : decode b_Mo_predicate 7 = .ok (.ifCond .eq 7, 3) := by decide +kernel
theorem d_Mo_predicate_10 : decode b_Mo_predicate 10 = .ok (.iconst 0, 1) := by decide +kernel
theorem d_Mo_predicate_11 : decode b_Mo_predicate 11 = .ok (.goto 4, 3) := by decide +kernel
theorem d_Mo_predicate_14 : decode b_Mo_predicate 14 = .ok (.iconst 1, 1) := by decide +kernel
theorem d_Mo_predicate_15 : decode b_Mo_predicate 15 = .ok (.putfield 53, 3) := by decide +kernel
theorem d_Mo_predicate_18 : decode b_Mo_predicate 18 = .ok (.aload_n 0, 1) := by decide +kernel
theorem d_Mo_predicate_19 : decode b_Mo_predicate 19 = .ok (.getfield 53, 3) := by decide +kernel
theorem d_Mo_predicate_22 : decode b_Mo_predicate 22 = .ok (.ifCond .le 5, 3) := by decide +kernel
theorem d_Mo_predicate_25 : decode b_Mo_predicate 25 = .ok (.iconst 0, 1) := by decide +kernel
theorem d_Mo_predicate_26 : decode b_Mo_predicate 26 = .ok (.ireturn, 1) := by decide +kernel
theorem d_Mo_predicate_27 : decode b_Mo_predicate 27 = .ok (.aload_n 0, 1) := by decide +kernel
theorem d_Mo_predicate_28 : decode b_Mo_predicate 28 = .ok (.getfield 57, 3) := by decide +kernel
theorem d_Mo_predicate_31 : decode b_Mo_predicate 31 = .ok (.bipush 10, 2) := by decide +kernel
theorem d_Mo_predicate_33 : decode b_Mo_predicate 33 = .ok (.if_icmp .ne 5, 3) := by decide +kernel
theorem d_Mo_predicate_36 : decode b_Mo_predicate 36 = .ok (.iconst (-1), 1) := by decide +kernel
theorem d_Mo_predicate_37 : decode b_Mo_predicate 37 = .ok (.ireturn, 1) := by decide +kernel
theorem d_Mo_predicate_38 : decode b_Mo_predicate 38 = .ok (.aload_n 0, 1) := by decide +kernel
theorem d_Mo_predicate_39 : decode b_Mo_predicate 39 = .ok (.getfield 7, 3) := by decide +kernel
theorem d_Mo_predicate_42 : decode b_Mo_predicate 42 = .ok (.aload_n 0, 1) := by decide +kernel
theorem d_Mo_predicate_43 : decode b_Mo_predicate 43 = .ok (.getfield 57, 3) := by decide +kernel
theorem d_Mo_predicate_46 : decode b_Mo_predicate 46 = .ok (.iload_n 1, 1) := by decide +kernel
theorem d_Mo_predicate_47 : decode b_Mo_predicate 47 = .ok (.iastore, 1) := by decide +kernel
theorem d_Mo_predicate_48 : decode b_Mo_predicate 48 = .ok (.aload_n 0, 1) := by decide +kernel
theorem d_Mo_predicate_49 : decode b_Mo_predicate 49 = .ok (.getfield 13, 3) := by decide +kernel
theorem d_Mo_predicate_52 : decode b_Mo_predicate 52 = .ok (.aload_n 0, 1) := by decide +kernel
theorem d_Mo_predicate_53 : decode b_Mo_predicate 53 = .ok (.getfield 57, 3) := by decide +kernel
theorem d_Mo_predicate_56 : decode b_Mo_predicate 56 = .ok (.iload_n 2, 1) := by decide +kernel
theorem d_Mo_predicate_57 : decode b_Mo_predicate 57 = .ok (.bastore, 1) := by decide +kernel
theorem d_Mo_predicate_58 : decode b_Mo_predicate 58 = .ok (.aload_n 0, 1) := by decide +kernel
theorem d_Mo_predicate_59 : decode b_Mo_predicate 59 = .ok (.dup, 1) := by decide +kernel
theorem d_Mo_predicate_60 : decode b_Mo_predicate 60 = .ok (.getfield 57, 3) := by decide +kernel
theorem d_Mo_predicate_63 : decode b_Mo_predicate 63 = .ok (.iconst 1, 1) := by decide +kernel
theorem d_Mo_predicate_64 : decode b_Mo_predicate 64 = .ok (.iadd, 1) := by decide +kernel
theorem d_Mo_predicate_65 : decode b_Mo_predicate 65 = .ok (.putfield 57, 3) := by decide +kernel
theorem d_Mo_predicate_68 : decode b_Mo_predicate 68 = .ok (.aload_n 0, 1) := by decide +kernel
theorem d_Mo_predicate_69 : decode b_Mo_predicate 69 = .ok (.getfield 57, 3) := by decide +kernel
theorem d_Mo_predicate_72 : decode b_Mo_predicate 72 = .ok (.iconst 1, 1) := by decide +kernel
theorem d_Mo_predicate_73 : decode b_Mo_predicate 73 = .ok (.isub, 1) := by decide +kernel
theorem d_Mo_predicate_74 : decode b_Mo_predicate 74 = .ok (.ireturn, 1) := by decide +kernel
abbrev b_Mo_tells : ByteArray := prog_6_method_8_code
def y_Mo_tells : MethodName := ⟨"QuestionDeskModel", "tells", "(IIIZ)Z"⟩
theorem d_Mo_tells_0 : decode b_Mo_tells 0 = .ok (.aload_n 0, 1) := by decide +kernel
theorem d_Mo_tells_1 : decode b_Mo_tells 1 = .ok (.aload_n 0, 1) := by decide +kernel
theorem d_Mo_tells_2 : decode b_Mo_tells 2 = .ok (.iload_n 1, 1) := by decide +kernel
theorem d_Mo_tells_3 : decode b_Mo_tells 3 = .ok (.invokevirtual 64, 3) := by decide +kernel
theorem d_Mo_tells_6 : decode b_Mo_tells 6 = .ok (.ifCond .eq 28, 3) := by decide +kernel
theorem d_Mo_tells_9 : decode b_Mo_tells 9 = .ok (.aload_n 0, 1) := by decide +kernel
theorem d_Mo_tells_10 : decode b_Mo_tells 10 = .ok (.getfield 13, 3) := by decide +kernel
theorem d_Mo_tells_13 : decode b_Mo_tells 13 = .ok (.iload_n 1, 1) := by decide +kernel
theorem d_Mo_tells_14 : decode b_Mo_tells 14 = .ok (.baload, 1) := by decide +kernel
theorem d_Mo_tells_15 : decode b_Mo_tells 15 = .ok (.ifCond .ne 19, 3) := by decide +kernel
theorem d_Mo_tells_18 : decode b_Mo_tells 18 = .ok (.aload_n 0, 1) := by decide +kernel
theorem d_Mo_tells_19 : decode b_Mo_tells 19 = .ok (.iload_n 1, 1) := by decide +kernel
theorem d_Mo_tells_20 : decode b_Mo_tells 20 = .ok (.iload_n 2, 1) := by decide +kernel
theorem d_Mo_tells_21 : decode b_Mo_tells 21 = .ok (.iload_n 3, 1) := by decide +kernel
theorem d_Mo_tells_22 : decode b_Mo_tells 22 = .ok (.bipush 9, 2) := by decide +kernel
theorem d_Mo_tells_24 : decode b_Mo_tells 24 = .ok (.invokevirtual 68, 3) := by decide +kernel
theorem d_Mo_tells_27 : decode b_Mo_tells 27 = .ok (.ifCond .eq 7, 3) := by decide +kernel
theorem d_Mo_tells_30 : decode b_Mo_tells 30 = .ok (.iconst 0, 1) := by decide +kernel
theorem d_Mo_tells_31 : decode b_Mo_tells 31 = .ok (.goto 4, 3) := by decide +kernel
theorem d_Mo_tells_34 : decode b_Mo_tells 34 = .ok (.iconst 1, 1) := by decide +kernel
theorem d_Mo_tells_35 : decode b_Mo_tells 35 = .ok (.putfield 53, 3) := by decide +kernel
theorem d_Mo_tells_38 : decode b_Mo_tells 38 = .ok (.aload_n 0, 1) := by decide +kernel
theorem d_Mo_tells_39 : decode b_Mo_tells 39 = .ok (.getfield 53, 3) := by decide +kernel
theorem d_Mo_tells_42 : decode b_Mo_tells 42 = .ok (.ifCond .gt 19, 3) := by decide +kernel
theorem d_Mo_tells_45 : decode b_Mo_tells 45 = .ok (.aload_n 0, 1) := by decide +kernel
theorem d_Mo_tells_46 : decode b_Mo_tells 46 = .ok (.getfield 17, 3) := by decide +kernel
theorem d_Mo_tells_49 : decode b_Mo_tells 49 = .ok (.iload_n 1, 1) := by decide +kernel
theorem d_Mo_tells_50 : decode b_Mo_tells 50 = .ok (.iload_n 2, 1) := by decide +kernel
theorem d_Mo_tells_51 : decode b_Mo_tells 51 = .ok (.iload_n 3, 1) := by decide +kernel
theorem d_Mo_tells_52 : decode b_Mo_tells 52 = .ok (.invokestatic 72, 3) := by decide +kernel
theorem d_Mo_tells_55 : decode b_Mo_tells 55 = .ok (.baload, 1) := by decide +kernel
theorem d_Mo_tells_56 : decode b_Mo_tells 56 = .ok (.iload 4, 2) := by decide +kernel
theorem d_Mo_tells_58 : decode b_Mo_tells 58 = .ok (.if_icmp .ne 5, 3) := by decide +kernel
theorem d_Mo_tells_61 : decode b_Mo_tells 61 = .ok (.iconst 0, 1) := by decide +kernel
theorem d_Mo_tells_62 : decode b_Mo_tells 62 = .ok (.ireturn, 1) := by decide +kernel
theorem d_Mo_tells_63 : decode b_Mo_tells 63 = .ok (.aload_n 0, 1) := by decide +kernel
theorem d_Mo_tells_64 : decode b_Mo_tells 64 = .ok (.getfield 17, 3) := by decide +kernel
theorem d_Mo_tells_67 : decode b_Mo_tells 67 = .ok (.iload_n 1, 1) := by decide +kernel
theorem d_Mo_tells_68 : decode b_Mo_tells 68 = .ok (.iload_n 2, 1) := by decide +kernel
theorem d_Mo_tells_69 : decode b_Mo_tells 69 = .ok (.iload_n 3, 1) := by decide +kernel
theorem d_Mo_tells_70 : decode b_Mo_tells 70 = .ok (.invokestatic 72, 3) := by decide +kernel
theorem d_Mo_tells_73 : decode b_Mo_tells 73 = .ok (.iload 4, 2) := by decide +kernel
theorem d_Mo_tells_75 : decode b_Mo_tells 75 = .ok (.bastore, 1) := by decide +kernel
theorem d_Mo_tells_76 : decode b_Mo_tells 76 = .ok (.iconst 1, 1) := by decide +kernel
theorem d_Mo_tells_77 : decode b_Mo_tells 77 = .ok (.ireturn, 1) := by decide +kernel
abbrev b_Mo_fact : ByteArray := prog_6_method_9_code
def y_Mo_fact : MethodName := ⟨"QuestionDeskModel", "fact", "(III)Z"⟩
theorem d_Mo_fact_0 : decode b_Mo_fact 0 = .ok (.aload_n 0, 1) := by decide +kernel
theorem d_Mo_fact_1 : decode b_Mo_fact 1 = .ok (.iload_n 1, 1) := by decide +kernel
theorem d_Mo_fact_2 : decode b_Mo_fact 2 = .ok (.iload_n 2, 1) := by decide +kernel
theorem d_Mo_fact_3 : decode b_Mo_fact 3 = .ok (.iload_n 3, 1) := by decide +kernel
theorem d_Mo_fact_4 : decode b_Mo_fact 4 = .ok (.iconst 1, 1) := by decide +kernel
theorem d_Mo_fact_5 : decode b_Mo_fact 5 = .ok (.invokevirtual 76, 3) := by decide +kernel
theorem d_Mo_fact_8 : decode b_Mo_fact 8 = .ok (.ireturn, 1) := by decide +kernel
abbrev b_Mo_drop : ByteArray := prog_6_method_10_code
def y_Mo_drop : MethodName := ⟨"QuestionDeskModel", "drop", "(III)Z"⟩
theorem d_Mo_drop_0 : decode b_Mo_drop 0 = .ok (.aload_n 0, 1) := by decide +kernel
theorem d_Mo_drop_1 : decode b_Mo_drop 1 = .ok (.iload_n 1, 1) := by decide +kernel
theorem d_Mo_drop_2 : decode b_Mo_drop 2 = .ok (.iload_n 2, 1) := by decide +kernel
theorem d_Mo_drop_3 : decode b_Mo_drop 3 = .ok (.iload_n 3, 1) := by decide +kernel
theorem d_Mo_drop_4 : decode b_Mo_drop 4 = .ok (.iconst 0, 1) := by decide +kernel
theorem d_Mo_drop_5 : decode b_Mo_drop 5 = .ok (.invokevirtual 76, 3) := by decide +kernel
theorem d_Mo_drop_8 : decode b_Mo_drop 8 = .ok (.ireturn, 1) := by decide +kernel
abbrev b_Mo_atom : ByteArray := prog_6_method_11_code
def y_Mo_atom : MethodName := ⟨"QuestionDeskModel", "atom", "(IIII)V"⟩
theorem d_Mo_atom_0 : decode b_Mo_atom 0 = .ok (.aload_n 0, 1) := by decide +kernel
theorem d_Mo_atom_1 : decode b_Mo_atom 1 = .ok (.getfield 23, 3) := by decide +kernel
theorem d_Mo_atom_4 : decode b_Mo_atom 4 = .ok (.iload_n 1, 1) := by decide +kernel
theorem d_Mo_atom_5 : decode b_Mo_atom 5 = .ok (.iload_n 2, 1) := by decide +kernel
theorem d_Mo_atom_6 : decode b_Mo_atom 6 = .ok (.iastore, 1) := by decide +kernel
theorem d_Mo_atom_7 : decode b_Mo_atom 7 = .ok (.aload_n 0, 1) := by decide +kernel
theorem d_Mo_atom_8 : decode b_Mo_atom 8 = .ok (.getfield 26, 3) := by decide +kernel
theorem d_Mo_atom_11 : decode b_Mo_atom 11 = .ok (.iload_n 1, 1) := by decide +kernel
theorem d_Mo_atom_12 : decode b_Mo_atom 12 = .ok (.iload_n 3, 1) := by decide +kernel
theorem d_Mo_atom_13 : decode b_Mo_atom 13 = .ok (.iastore, 1) := by decide +kernel
theorem d_Mo_atom_14 : decode b_Mo_atom 14 = .ok (.aload_n 0, 1) := by decide +kernel
theorem d_Mo_atom_15 : decode b_Mo_atom 15 = .ok (.getfield 29, 3) := by decide +kernel
theorem d_Mo_atom_18 : decode b_Mo_atom 18 = .ok (.iload_n 1, 1) := by decide +kernel
theorem d_Mo_atom_19 : decode b_Mo_atom 19 = .ok (.iload 4, 2) := by decide +kernel
theorem d_Mo_atom_21 : decode b_Mo_atom 21 = .ok (.iastore, 1) := by decide +kernel
theorem d_Mo_atom_22 : decode b_Mo_atom 22 = .ok (.return_, 1) := by decide +kernel
abbrev b_Mo_head : ByteArray := prog_6_method_12_code
def y_Mo_head : MethodName := ⟨"QuestionDeskModel", "head", "(III)V"⟩
theorem d_Mo_head_0 : decode b_Mo_head 0 = .ok (.aload_n 0, 1) := by decide +kernel
theorem d_Mo_head_1 : decode b_Mo_head 1 = .ok (.aload_n 0, 1) := by decide +kernel
theorem d_Mo_head_2 : decode b_Mo_head 2 = .ok (.iload_n 1, 1) := by decide +kernel
theorem d_Mo_head_3 : decode b_Mo_head 3 = .ok (.invokevirtual 64, 3) := by decide +kernel
theorem d_Mo_head_6 : decode b_Mo_head 6 = .ok (.ifCond .eq 28, 3) := by decide +kernel
theorem d_Mo_head_9 : decode b_Mo_head 9 = .ok (.aload_n 0, 1) := by decide +kernel
theorem d_Mo_head_10 : decode b_Mo_head 10 = .ok (.getfield 13, 3) := by decide +kernel
theorem d_Mo_head_13 : decode b_Mo_head 13 = .ok (.iload_n 1, 1) := by decide +kernel
theorem d_Mo_head_14 : decode b_Mo_head 14 = .ok (.baload, 1) := by decide +kernel
theorem d_Mo_head_15 : decode b_Mo_head 15 = .ok (.ifCond .eq 19, 3) := by decide +kernel
theorem d_Mo_head_18 : decode b_Mo_head 18 = .ok (.aload_n 0, 1) := by decide +kernel
theorem d_Mo_head_19 : decode b_Mo_head 19 = .ok (.iload_n 1, 1) := by decide +kernel
theorem d_Mo_head_20 : decode b_Mo_head 20 = .ok (.iload_n 2, 1) := by decide +kernel
theorem d_Mo_head_21 : decode b_Mo_head 21 = .ok (.iload_n 3, 1) := by decide +kernel
theorem d_Mo_head_22 : decode b_Mo_head 22 = .ok (.bipush 17, 2) := by decide +kernel
theorem d_Mo_head_24 : decode b_Mo_head 24 = .ok (.invokevirtual 68, 3) := by decide +kernel
theorem d_Mo_head_27 : decode b_Mo_head 27 = .ok (.ifCond .eq 7, 3) := by decide +kernel
theorem d_Mo_head_30 : decode b_Mo_head 30 = .ok (.iconst 0, 1) := by decide +kernel
theorem d_Mo_head_31 : decode b_Mo_head 31 = .ok (.goto 4, 3) := by decide +kernel
theorem d_Mo_head_34 : decode b_Mo_head 34 = .ok (.iconst 1, 1) := by decide +kernel
theorem d_Mo_head_35 : decode b_Mo_head 35 = .ok (.putfield 53, 3) := by decide +kernel
theorem d_Mo_head_38 : decode b_Mo_head 38 = .ok (.aload_n 0, 1) := by decide +kernel
theorem d_Mo_head_39 : decode b_Mo_head 39 = .ok (.getfield 53, 3) := by decide +kernel
theorem d_Mo_head_42 : decode b_Mo_head 42 = .ok (.ifCond .le 4, 3) := by decide +kernel
theorem d_Mo_head_45 : decode b_Mo_head 45 = .ok (.return_, 1) := by decide +kernel
theorem d_Mo_head_46 : decode b_Mo_head 46 = .ok (.aload_n 0, 1) := by decide +kernel
theorem d_Mo_head_47 : decode b_Mo_head 47 = .ok (.bipush 120, 2) := by decide +kernel
theorem d_Mo_head_49 : decode b_Mo_head 49 = .ok (.iload_n 1, 1) := by decide +kernel
theorem d_Mo_head_50 : decode b_Mo_head 50 = .ok (.iload_n 2, 1) := by decide +kernel
theorem d_Mo_head_51 : decode b_Mo_head 51 = .ok (.iload_n 3, 1) := by decide +kernel
theorem d_Mo_head_52 : decode b_Mo_head 52 = .ok (.invokevirtual 80, 3) := by decide +kernel
theorem d_Mo_head_55 : decode b_Mo_head 55 = .ok (.aload_n 0, 1) := by decide +kernel
theorem d_Mo_head_56 : decode b_Mo_head 56 = .ok (.getfield 32, 3) := by decide +kernel
theorem d_Mo_head_59 : decode b_Mo_head 59 = .ok (.bipush 30, 2) := by decide +kernel
theorem d_Mo_head_61 : decode b_Mo_head 61 = .ok (.iconst 0, 1) := by decide +kernel
theorem d_Mo_head_62 : decode b_Mo_head 62 = .ok (.iastore, 1) := by decide +kernel
theorem d_Mo_head_63 : decode b_Mo_head 63 = .ok (.aload_n 0, 1) := by decide +kernel
theorem d_Mo_head_64 : decode b_Mo_head 64 = .ok (.iconst 1, 1) := by decide +kernel
theorem d_Mo_head_65 : decode b_Mo_head 65 = .ok (.putfield 84, 3) := by decide +kernel
theorem d_Mo_head_68 : decode b_Mo_head 68 = .ok (.return_, 1) := by decide +kernel
abbrev b_Mo_body : ByteArray := prog_6_method_13_code
def y_Mo_body : MethodName := ⟨"QuestionDeskModel", "body", "(III)I"⟩
theorem d_Mo_body_0 : decode b_Mo_body 0 = .ok (.aload_n 0, 1) := by decide +kernel
theorem d_Mo_body_1 : decode b_Mo_body 1 = .ok (.aload_n 0, 1) := by decide +kernel
theorem d_Mo_body_2 : decode b_Mo_body 2 = .ok (.getfield 84, 3) := by decide +kernel
theorem d_Mo_body_5 : decode b_Mo_body 5 = .ok (.ifCond .eq 14, 3) := by decide +kernel
theorem d_Mo_body_8 : decode b_Mo_body 8 = .ok (.aload_n 0, 1) := by decide +kernel
theorem d_Mo_body_9 : decode b_Mo_body 9 = .ok (.getfield 32, 3) := by decide +kernel
theorem d_Mo_body_12 : decode b_Mo_body 12 = .ok (.bipush 30, 2) := by decide +kernel
theorem d_Mo_body_14 : decode b_Mo_body 14 = .ok (.iaload, 1) := by decide +kernel
theorem d_Mo_body_15 : decode b_Mo_body 15 = .ok (.iconst 3, 1) := by decide +kernel
theorem d_Mo_body_16 : decode b_Mo_body 16 = .ok (.if_icmp .ne 7, 3) := by decide +kernel
theorem d_Mo_body_19 : decode b_Mo_body 19 = .ok (.iconst 1, 1) := by decide +kernel
theorem d_Mo_body_20 : decode b_Mo_body 20 = .ok (.goto 28, 3) := by decide +kernel
theorem d_Mo_body_23 : decode b_Mo_body 23 = .ok (.aload_n 0, 1) := by decide +kernel
theorem d_Mo_body_24 : decode b_Mo_body 24 = .ok (.iload_n 1, 1) := by decide +kernel
theorem d_Mo_body_25 : decode b_Mo_body 25 = .ok (.invokevirtual 64, 3) := by decide +kernel
theorem d_Mo_body_28 : decode b_Mo_body 28 = .ok (.ifCond .eq 15, 3) := by decide +kernel
theorem d_Mo_body_31 : decode b_Mo_body 31 = .ok (.aload_n 0, 1) := by decide +kernel
theorem d_Mo_body_32 : decode b_Mo_body 32 = .ok (.iload_n 1, 1) := by decide +kernel
theorem d_Mo_body_33 : decode b_Mo_body 33 = .ok (.iload_n 2, 1) := by decide +kernel
theorem d_Mo_body_34 : decode b_Mo_body 34 = .ok (.iload_n 3, 1) := by decide +kernel
theorem d_Mo_body_35 : decode b_Mo_body 35 = .ok (.bipush 17, 2) := by decide +kernel
theorem d_Mo_body_37 : decode b_Mo_body 37 = .ok (.invokevirtual 68, 3) := by decide +kernel
theorem d_Mo_body_40 : decode b_Mo_body 40 = .ok (.ifCond .ne 7, 3) := by decide +kernel
theorem d_Mo_body_43 : decode b_Mo_body 43 = .ok (.iconst 2, 1) := by decide +kernel
theorem d_Mo_body_44 : decode b_Mo_body 44 = .ok (.goto 4, 3) := by decide +kernel
theorem d_Mo_body_47 : decode b_Mo_body 47 = .ok (.iconst 0, 1) := by decide +kernel
theorem d_Mo_body_48 : decode b_Mo_body 48 = .ok (.putfield 53, 3) := by decide +kernel
theorem d_Mo_body_51 : decode b_Mo_body 51 = .ok (.aload_n 0, 1) := by decide +kernel
theorem d_Mo_body_52 : decode b_Mo_body 52 = .ok (.getfield 53, 3) := by decide +kernel
theorem d_Mo_body_55 : decode b_Mo_body 55 = .ok (.ifCond .le 5, 3) := by decide +kernel
theorem d_Mo_body_58 : decode b_Mo_body 58 = .ok (.iconst 0, 1) := by decide +kernel
theorem d_Mo_body_59 : decode b_Mo_body 59 = .ok (.ireturn, 1) := by decide +kernel
theorem d_Mo_body_60 : decode b_Mo_body 60 = .ok (.aload_n 0, 1) := by decide +kernel
theorem d_Mo_body_61 : decode b_Mo_body 61 = .ok (.getfield 32, 3) := by decide +kernel
theorem d_Mo_body_64 : decode b_Mo_body 64 = .ok (.bipush 30, 2) := by decide +kernel
theorem d_Mo_body_66 : decode b_Mo_body 66 = .ok (.dup2, 1) := by decide +kernel
theorem d_Mo_body_67 : decode b_Mo_body 67 = .ok (.iaload, 1) := by decide +kernel
theorem d_Mo_body_68 : decode b_Mo_body 68 = .ok (.iconst 1, 1) := by decide +kernel
theorem d_Mo_body_69 : decode b_Mo_body 69 = .ok (.iadd, 1) := by decide +kernel
theorem d_Mo_body_70 : decode b_Mo_body 70 = .ok (.iastore, 1) := by decide +kernel
theorem d_Mo_body_71 : decode b_Mo_body 71 = .ok (.aload_n 0, 1) := by decide +kernel
theorem d_Mo_body_72 : decode b_Mo_body 72 = .ok (.bipush 120, 2) := by decide +kernel
theorem d_Mo_body_74 : decode b_Mo_body 74 = .ok (.aload_n 0, 1) := by decide +kernel
theorem d_Mo_body_75 : decode b_Mo_body 75 = .ok (.getfield 32, 3) := by decide +kernel
theorem d_Mo_body_78 : decode b_Mo_body 78 = .ok (.bipush 30, 2) := by decide +kernel
theorem d_Mo_body_80 : decode b_Mo_body 80 = .ok (.iaload, 1) := by decide +kernel
theorem d_Mo_body_81 : decode b_Mo_body 81 = .ok (.iadd, 1) := by decide +kernel
theorem d_Mo_body_82 : decode b_Mo_body 82 = .ok (.iload_n 1, 1) := by decide +kernel
theorem d_Mo_body_83 : decode b_Mo_body 83 = .ok (.iload_n 2, 1) := by decide +kernel
theorem d_Mo_body_84 : decode b_Mo_body 84 = .ok (.iload_n 3, 1) := by decide +kernel
theorem d_Mo_body_85 : decode b_Mo_body 85 = .ok (.invokevirtual 80, 3) := by decide +kernel
theorem d_Mo_body_88 : decode b_Mo_body 88 = .ok (.aload_n 0, 1) := by decide +kernel
theorem d_Mo_body_89 : decode b_Mo_body 89 = .ok (.getfield 32, 3) := by decide +kernel
theorem d_Mo_body_92 : decode b_Mo_body 92 = .ok (.bipush 30, 2) := by decide +kernel
theorem d_Mo_body_94 : decode b_Mo_body 94 = .ok (.iaload, 1) := by decide +kernel
theorem d_Mo_body_95 : decode b_Mo_body 95 = .ok (.ireturn, 1) := by decide +kernel
abbrev b_Mo_isSafe : ByteArray := prog_6_method_14_code
def y_Mo_isSafe : MethodName := ⟨"QuestionDeskModel", "isSafe", "(I)Z"⟩
theorem d_Mo_isSafe_0 : decode b_Mo_isSafe 0 = .ok (.iload_n 1, 1) := by decide +kernel
theorem d_Mo_isSafe_1 : decode b_Mo_isSafe 1 = .ok (.bipush 10, 2) := by decide +kernel
theorem d_Mo_isSafe_3 : decode b_Mo_isSafe 3 = .ok (.if_icmp .ge 7, 3) := by decide +kernel
theorem d_Mo_isSafe_6 : decode b_Mo_isSafe 6 = .ok (.iconst 1, 1) := by decide +kernel
theorem d_Mo_isSafe_7 : decode b_Mo_isSafe 7 = .ok (.goto 4, 3) := by decide +kernel
theorem d_Mo_isSafe_10 : decode b_Mo_isSafe 10 = .ok (.iconst 0, 1) := by decide +kernel
theorem d_Mo_isSafe_11 : decode b_Mo_isSafe 11 = .ok (.istore_n 2, 1) := by decide +kernel
theorem d_Mo_isSafe_12 : decode b_Mo_isSafe 12 = .ok (.iconst 1, 1) := by decide +kernel
theorem d_Mo_isSafe_13 : decode b_Mo_isSafe 13 = .ok (.istore_n 3, 1) := by decide +kernel
theorem d_Mo_isSafe_14 : decode b_Mo_isSafe 14 = .ok (.iload_n 3, 1) := by decide +kernel
theorem d_Mo_isSafe_15 : decode b_Mo_isSafe 15 = .ok (.aload_n 0, 1) := by decide +kernel
theorem d_Mo_isSafe_16 : decode b_Mo_isSafe 16 = .ok (.getfield 32, 3) := by decide +kernel
theorem d_Mo_isSafe_19 : decode b_Mo_isSafe 19 = .ok (.bipush 30, 2) := by decide +kernel
theorem d_Mo_isSafe_21 : decode b_Mo_isSafe 21 = .ok (.iaload, 1) := by decide +kernel
theorem d_Mo_isSafe_22 : decode b_Mo_isSafe 22 = .ok (.if_icmp .gt 45, 3) := by decide +kernel
theorem d_Mo_isSafe_25 : decode b_Mo_isSafe 25 = .ok (.iload_n 2, 1) := by decide +kernel
theorem d_Mo_isSafe_26 : decode b_Mo_isSafe 26 = .ok (.ifCond .ne 29, 3) := by decide +kernel
theorem d_Mo_isSafe_29 : decode b_Mo_isSafe 29 = .ok (.aload_n 0, 1) := by decide +kernel
theorem d_Mo_isSafe_30 : decode b_Mo_isSafe 30 = .ok (.getfield 26, 3) := by decide +kernel
theorem d_Mo_isSafe_33 : decode b_Mo_isSafe 33 = .ok (.bipush 120, 2) := by decide +kernel
theorem d_Mo_isSafe_35 : decode b_Mo_isSafe 35 = .ok (.iload_n 3, 1) := by decide +kernel
theorem d_Mo_isSafe_36 : decode b_Mo_isSafe 36 = .ok (.iadd, 1) := by decide +kernel
theorem d_Mo_isSafe_37 : decode b_Mo_isSafe 37 = .ok (.iaload, 1) := by decide +kernel
theorem d_Mo_isSafe_38 : decode b_Mo_isSafe 38 = .ok (.iload_n 1, 1) := by decide +kernel
theorem d_Mo_isSafe_39 : decode b_Mo_isSafe 39 = .ok (.if_icmp .eq 16, 3) := by decide +kernel
theorem d_Mo_isSafe_42 : decode b_Mo_isSafe 42 = .ok (.aload_n 0, 1) := by decide +kernel
theorem d_Mo_isSafe_43 : decode b_Mo_isSafe 43 = .ok (.getfield 29, 3) := by decide +kernel
theorem d_Mo_isSafe_46 : decode b_Mo_isSafe 46 = .ok (.bipush 120, 2) := by decide +kernel
theorem d_Mo_isSafe_48 : decode b_Mo_isSafe 48 = .ok (.iload_n 3, 1) := by decide +kernel
theorem d_Mo_isSafe_49 : decode b_Mo_isSafe 49 = .ok (.iadd, 1) := by decide +kernel
theorem d_Mo_isSafe_50 : decode b_Mo_isSafe 50 = .ok (.iaload, 1) := by decide +kernel
theorem d_Mo_isSafe_51 : decode b_Mo_isSafe 51 = .ok (.iload_n 1, 1) := by decide +kernel
theorem d_Mo_isSafe_52 : decode b_Mo_isSafe 52 = .ok (.if_icmp .ne 7, 3) := by decide +kernel
theorem d_Mo_isSafe_55 : decode b_Mo_isSafe 55 = .ok (.iconst 1, 1) := by decide +kernel
theorem d_Mo_isSafe_56 : decode b_Mo_isSafe 56 = .ok (.goto 4, 3) := by decide +kernel
theorem d_Mo_isSafe_59 : decode b_Mo_isSafe 59 = .ok (.iconst 0, 1) := by decide +kernel
theorem d_Mo_isSafe_60 : decode b_Mo_isSafe 60 = .ok (.istore_n 2, 1) := by decide +kernel
theorem d_Mo_isSafe_61 : decode b_Mo_isSafe 61 = .ok (.iinc 3 1, 3) := by decide +kernel
theorem d_Mo_isSafe_64 : decode b_Mo_isSafe 64 = .ok (.goto (-50), 3) := by decide +kernel
theorem d_Mo_isSafe_67 : decode b_Mo_isSafe 67 = .ok (.iload_n 2, 1) := by decide +kernel
theorem d_Mo_isSafe_68 : decode b_Mo_isSafe 68 = .ok (.ireturn, 1) := by decide +kernel
abbrev b_Mo_copies : ByteArray := prog_6_method_15_code
def y_Mo_copies : MethodName := ⟨"QuestionDeskModel", "copies", "(II)V"⟩
theorem d_Mo_copies_0 : decode b_Mo_copies 0 = .ok (.aload_n 0, 1) := by decide +kernel
theorem d_Mo_copies_1 : decode b_Mo_copies 1 = .ok (.getfield 32, 3) := by decide +kernel
theorem d_Mo_copies_4 : decode b_Mo_copies 4 = .ok (.iload_n 2, 1) := by decide +kernel
theorem d_Mo_copies_5 : decode b_Mo_copies 5 = .ok (.aload_n 0, 1) := by decide +kernel
theorem d_Mo_copies_6 : decode b_Mo_copies 6 = .ok (.getfield 32, 3) := by decide +kernel
theorem d_Mo_copies_9 : decode b_Mo_copies 9 = .ok (.iload_n 1, 1) := by decide +kernel
theorem d_Mo_copies_10 : decode b_Mo_copies 10 = .ok (.iaload, 1) := by decide +kernel
theorem d_Mo_copies_11 : decode b_Mo_copies 11 = .ok (.iastore, 1) := by decide +kernel
theorem d_Mo_copies_12 : decode b_Mo_copies 12 = .ok (.iconst 0, 1) := by decide +kernel
theorem d_Mo_copies_13 : decode b_Mo_copies 13 = .ok (.istore_n 3, 1) := by decide +kernel
theorem d_Mo_copies_14 : decode b_Mo_copies 14 = .ok (.iload_n 3, 1) := by decide +kernel
theorem d_Mo_copies_15 : decode b_Mo_copies 15 = .ok (.iconst 4, 1) := by decide +kernel
theorem d_Mo_copies_16 : decode b_Mo_copies 16 = .ok (.if_icmp .ge 48, 3) := by decide +kernel
theorem d_Mo_copies_19 : decode b_Mo_copies 19 = .ok (.aload_n 0, 1) := by decide +kernel
theorem d_Mo_copies_20 : decode b_Mo_copies 20 = .ok (.iconst 4, 1) := by decide +kernel
theorem d_Mo_copies_21 : decode b_Mo_copies 21 = .ok (.iload_n 2, 1) := by decide +kernel
theorem d_Mo_copies_22 : decode b_Mo_copies 22 = .ok (.imul, 1) := by decide +kernel
theorem d_Mo_copies_23 : decode b_Mo_copies 23 = .ok (.iload_n 3, 1) := by decide +kernel
theorem d_Mo_copies_24 : decode b_Mo_copies 24 = .ok (.iadd, 1) := by decide +kernel
theorem d_Mo_copies_25 : decode b_Mo_copies 25 = .ok (.aload_n 0, 1) := by decide +kernel
theorem d_Mo_copies_26 : decode b_Mo_copies 26 = .ok (.getfield 23, 3) := by decide +kernel
theorem d_Mo_copies_29 : decode b_Mo_copies 29 = .ok (.iconst 4, 1) := by decide +kernel
theorem d_Mo_copies_30 : decode b_Mo_copies 30 = .ok (.iload_n 1, 1) := by decide +kernel
theorem d_Mo_copies_31 : decode b_Mo_copies 31 = .ok (.imul, 1) := by decide +kernel
theorem d_Mo_copies_32 : decode b_Mo_copies 32 = .ok (.iload_n 3, 1) := by decide +kernel
theorem d_Mo_copies_33 : decode b_Mo_copies 33 = .ok (.iadd, 1) := by decide +kernel
theorem d_Mo_copies_34 : decode b_Mo_copies 34 = .ok (.iaload, 1) := by decide +kernel
theorem d_Mo_copies_35 : decode b_Mo_copies 35 = .ok (.aload_n 0, 1) := by decide +kernel
theorem d_Mo_copies_36 : decode b_Mo_copies 36 = .ok (.getfield 26, 3) := by decide +kernel
theorem d_Mo_copies_39 : decode b_Mo_copies 39 = .ok (.iconst 4, 1) := by decide +kernel
theorem d_Mo_copies_40 : decode b_Mo_copies 40 = .ok (.iload_n 1, 1) := by decide +kernel
theorem d_Mo_copies_41 : decode b_Mo_copies 41 = .ok (.imul, 1) := by decide +kernel
theorem d_Mo_copies_42 : decode b_Mo_copies 42 = .ok (.iload_n 3, 1) := by decide +kernel
theorem d_Mo_copies_43 : decode b_Mo_copies 43 = .ok (.iadd, 1) := by decide +kernel
theorem d_Mo_copies_44 : decode b_Mo_copies 44 = .ok (.iaload, 1) := by decide +kernel
theorem d_Mo_copies_45 : decode b_Mo_copies 45 = .ok (.aload_n 0, 1) := by decide +kernel
theorem d_Mo_copies_46 : decode b_Mo_copies 46 = .ok (.getfield 29, 3) := by decide +kernel
theorem d_Mo_copies_49 : decode b_Mo_copies 49 = .ok (.iconst 4, 1) := by decide +kernel
theorem d_Mo_copies_50 : decode b_Mo_copies 50 = .ok (.iload_n 1, 1) := by decide +kernel
theorem d_Mo_copies_51 : decode b_Mo_copies 51 = .ok (.imul, 1) := by decide +kernel
theorem d_Mo_copies_52 : decode b_Mo_copies 52 = .ok (.iload_n 3, 1) := by decide +kernel
theorem d_Mo_copies_53 : decode b_Mo_copies 53 = .ok (.iadd, 1) := by decide +kernel
theorem d_Mo_copies_54 : decode b_Mo_copies 54 = .ok (.iaload, 1) := by decide +kernel
theorem d_Mo_copies_55 : decode b_Mo_copies 55 = .ok (.invokevirtual 80, 3) := by decide +kernel
theorem d_Mo_copies_58 : decode b_Mo_copies 58 = .ok (.iinc 3 1, 3) := by decide +kernel
theorem d_Mo_copies_61 : decode b_Mo_copies 61 = .ok (.goto (-47), 3) := by decide +kernel
theorem d_Mo_copies_64 : decode b_Mo_copies 64 = .ok (.return_, 1) := by decide +kernel
abbrev b_Mo_done : ByteArray := prog_6_method_16_code
def y_Mo_done : MethodName := ⟨"QuestionDeskModel", "done", "()I"⟩
theorem d_Mo_done_0 : decode b_Mo_done 0 = .ok (.aload_n 0, 1) := by decide +kernel
theorem d_Mo_done_1 : decode b_Mo_done 1 = .ok (.aload_n 0, 1) := by decide +kernel
theorem d_Mo_done_2 : decode b_Mo_done 2 = .ok (.getfield 84, 3) := by decide +kernel
theorem d_Mo_done_5 : decode b_Mo_done 5 = .ok (.ifCond .eq 7, 3) := by decide +kernel
theorem d_Mo_done_8 : decode b_Mo_done 8 = .ok (.iconst 0, 1) := by decide +kernel
theorem d_Mo_done_9 : decode b_Mo_done 9 = .ok (.goto 4, 3) := by decide +kernel
theorem d_Mo_done_12 : decode b_Mo_done 12 = .ok (.iconst 1, 1) := by decide +kernel
theorem d_Mo_done_13 : decode b_Mo_done 13 = .ok (.putfield 53, 3) := by decide +kernel
theorem d_Mo_done_16 : decode b_Mo_done 16 = .ok (.aload_n 0, 1) := by decide +kernel
theorem d_Mo_done_17 : decode b_Mo_done 17 = .ok (.getfield 53, 3) := by decide +kernel
theorem d_Mo_done_20 : decode b_Mo_done 20 = .ok (.ifCond .le 5, 3) := by decide +kernel
theorem d_Mo_done_23 : decode b_Mo_done 23 = .ok (.iconst 0, 1) := by decide +kernel
theorem d_Mo_done_24 : decode b_Mo_done 24 = .ok (.ireturn, 1) := by decide +kernel
theorem d_Mo_done_25 : decode b_Mo_done 25 = .ok (.aload_n 0, 1) := by decide +kernel
theorem d_Mo_done_26 : decode b_Mo_done 26 = .ok (.iconst 0, 1) := by decide +kernel
theorem d_Mo_done_27 : decode b_Mo_done 27 = .ok (.putfield 84, 3) := by decide +kernel
theorem d_Mo_done_30 : decode b_Mo_done 30 = .ok (.aload_n 0, 1) := by decide +kernel
theorem d_Mo_done_31 : decode b_Mo_done 31 = .ok (.getfield 32, 3) := by decide +kernel
theorem d_Mo_done_34 : decode b_Mo_done 34 = .ok (.bipush 30, 2) := by decide +kernel
theorem d_Mo_done_36 : decode b_Mo_done 36 = .ok (.iaload, 1) := by decide +kernel
theorem d_Mo_done_37 : decode b_Mo_done 37 = .ok (.ifCond .eq 40, 3) := by decide +kernel
theorem d_Mo_done_40 : decode b_Mo_done 40 = .ok (.aload_n 0, 1) := by decide +kernel
theorem d_Mo_done_41 : decode b_Mo_done 41 = .ok (.getfield 88, 3) := by decide +kernel
theorem d_Mo_done_44 : decode b_Mo_done 44 = .ok (.bipush 30, 2) := by decide +kernel
theorem d_Mo_done_46 : decode b_Mo_done 46 = .ok (.if_icmp .eq 31, 3) := by decide +kernel
theorem d_Mo_done_49 : decode b_Mo_done 49 = .ok (.aload_n 0, 1) := by decide +kernel
theorem d_Mo_done_50 : decode b_Mo_done 50 = .ok (.aload_n 0, 1) := by decide +kernel
theorem d_Mo_done_51 : decode b_Mo_done 51 = .ok (.getfield 26, 3) := by decide +kernel
theorem d_Mo_done_54 : decode b_Mo_done 54 = .ok (.bipush 120, 2) := by decide +kernel
theorem d_Mo_done_56 : decode b_Mo_done 56 = .ok (.iaload, 1) := by decide +kernel
theorem d_Mo_done_57 : decode b_Mo_done 57 = .ok (.invokevirtual 91, 3) := by decide +kernel
theorem d_Mo_done_60 : decode b_Mo_done 60 = .ok (.ifCond .eq 17, 3) := by decide +kernel
theorem d_Mo_done_63 : decode b_Mo_done 63 = .ok (.aload_n 0, 1) := by decide +kernel
theorem d_Mo_done_64 : decode b_Mo_done 64 = .ok (.aload_n 0, 1) := by decide +kernel
theorem d_Mo_done_65 : decode b_Mo_done 65 = .ok (.getfield 29, 3) := by decide +kernel
theorem d_Mo_done_68 : decode b_Mo_done 68 = .ok (.bipush 120, 2) := by decide +kernel
theorem d_Mo_done_70 : decode b_Mo_done 70 = .ok (.iaload, 1) := by decide +kernel
theorem d_Mo_done_71 : decode b_Mo_done 71 = .ok (.invokevirtual 91, 3) := by decide +kernel
theorem d_Mo_done_74 : decode b_Mo_done 74 = .ok (.ifCond .ne 5, 3) := by decide +kernel
theorem d_Mo_done_77 : decode b_Mo_done 77 = .ok (.iconst (-1), 1) := by decide +kernel
theorem d_Mo_done_78 : decode b_Mo_done 78 = .ok (.ireturn, 1) := by decide +kernel
theorem d_Mo_done_79 : decode b_Mo_done 79 = .ok (.aload_n 0, 1) := by decide +kernel
theorem d_Mo_done_80 : decode b_Mo_done 80 = .ok (.bipush 30, 2) := by decide +kernel
theorem d_Mo_done_82 : decode b_Mo_done 82 = .ok (.aload_n 0, 1) := by decide +kernel
theorem d_Mo_done_83 : decode b_Mo_done 83 = .ok (.getfield 88, 3) := by decide +kernel
theorem d_Mo_done_86 : decode b_Mo_done 86 = .ok (.invokevirtual 94, 3) := by decide +kernel
theorem d_Mo_done_89 : decode b_Mo_done 89 = .ok (.aload_n 0, 1) := by decide +kernel
theorem d_Mo_done_90 : decode b_Mo_done 90 = .ok (.dup, 1) := by decide +kernel
theorem d_Mo_done_91 : decode b_Mo_done 91 = .ok (.getfield 88, 3) := by decide +kernel
theorem d_Mo_done_94 : decode b_Mo_done 94 = .ok (.iconst 1, 1) := by decide +kernel
theorem d_Mo_done_95 : decode b_Mo_done 95 = .ok (.iadd, 1) := by decide +kernel
theorem d_Mo_done_96 : decode b_Mo_done 96 = .ok (.putfield 88, 3) := by decide +kernel
theorem d_Mo_done_99 : decode b_Mo_done 99 = .ok (.aload_n 0, 1) := by decide +kernel
theorem d_Mo_done_100 : decode b_Mo_done 100 = .ok (.getfield 88, 3) := by decide +kernel
theorem d_Mo_done_103 : decode b_Mo_done 103 = .ok (.iconst 1, 1) := by decide +kernel
theorem d_Mo_done_104 : decode b_Mo_done 104 = .ok (.isub, 1) := by decide +kernel
theorem d_Mo_done_105 : decode b_Mo_done 105 = .ok (.ireturn, 1) := by decide +kernel
abbrev b_Mo_take : ByteArray := prog_6_method_17_code
def y_Mo_take : MethodName := ⟨"QuestionDeskModel", "take", "(I)Z"⟩
theorem d_Mo_take_0 : decode b_Mo_take 0 = .ok (.aload_n 0, 1) := by decide +kernel
theorem d_Mo_take_1 : decode b_Mo_take 1 = .ok (.iconst 0, 1) := by decide +kernel
theorem d_Mo_take_2 : decode b_Mo_take 2 = .ok (.putfield 53, 3) := by decide +kernel
theorem d_Mo_take_5 : decode b_Mo_take 5 = .ok (.iload_n 1, 1) := by decide +kernel
theorem d_Mo_take_6 : decode b_Mo_take 6 = .ok (.iconst 0, 1) := by decide +kernel
theorem d_Mo_take_7 : decode b_Mo_take 7 = .ok (.aload_n 0, 1) := by decide +kernel
theorem d_Mo_take_8 : decode b_Mo_take 8 = .ok (.getfield 88, 3) := by decide +kernel
theorem d_Mo_take_11 : decode b_Mo_take 11 = .ok (.iconst 1, 1) := by decide +kernel
theorem d_Mo_take_12 : decode b_Mo_take 12 = .ok (.isub, 1) := by decide +kernel
theorem d_Mo_take_13 : decode b_Mo_take 13 = .ok (.invokestatic 60, 3) := by decide +kernel
theorem d_Mo_take_16 : decode b_Mo_take 16 = .ok (.ifCond .ne 5, 3) := by decide +kernel
theorem d_Mo_take_19 : decode b_Mo_take 19 = .ok (.iconst 0, 1) := by decide +kernel
theorem d_Mo_take_20 : decode b_Mo_take 20 = .ok (.ireturn, 1) := by decide +kernel
theorem d_Mo_take_21 : decode b_Mo_take 21 = .ok (.aload_n 0, 1) := by decide +kernel
theorem d_Mo_take_22 : decode b_Mo_take 22 = .ok (.dup, 1) := by decide +kernel
theorem d_Mo_take_23 : decode b_Mo_take 23 = .ok (.getfield 88, 3) := by decide +kernel
theorem d_Mo_take_26 : decode b_Mo_take 26 = .ok (.iconst 1, 1) := by decide +kernel
theorem d_Mo_take_27 : decode b_Mo_take 27 = .ok (.isub, 1) := by decide +kernel
theorem d_Mo_take_28 : decode b_Mo_take 28 = .ok (.putfield 88, 3) := by decide +kernel
theorem d_Mo_take_31 : decode b_Mo_take 31 = .ok (.iload_n 1, 1) := by decide +kernel
theorem d_Mo_take_32 : decode b_Mo_take 32 = .ok (.istore_n 2, 1) := by decide +kernel
theorem d_Mo_take_33 : decode b_Mo_take 33 = .ok (.iload_n 2, 1) := by decide +kernel
theorem d_Mo_take_34 : decode b_Mo_take 34 = .ok (.aload_n 0, 1) := by decide +kernel
theorem d_Mo_take_35 : decode b_Mo_take 35 = .ok (.getfield 88, 3) := by decide +kernel
theorem d_Mo_take_38 : decode b_Mo_take 38 = .ok (.if_icmp .ge 17, 3) := by decide +kernel
theorem d_Mo_take_41 : decode b_Mo_take 41 = .ok (.aload_n 0, 1) := by decide +kernel
theorem d_Mo_take_42 : decode b_Mo_take 42 = .ok (.iload_n 2, 1) := by decide +kernel
theorem d_Mo_take_43 : decode b_Mo_take 43 = .ok (.iconst 1, 1) := by decide +kernel
theorem d_Mo_take_44 : decode b_Mo_take 44 = .ok (.iadd, 1) := by decide +kernel
theorem d_Mo_take_45 : decode b_Mo_take 45 = .ok (.iload_n 2, 1) := by decide +kernel
theorem d_Mo_take_46 : decode b_Mo_take 46 = .ok (.invokevirtual 94, 3) := by decide +kernel
theorem d_Mo_take_49 : decode b_Mo_take 49 = .ok (.iinc 2 1, 3) := by decide +kernel
theorem d_Mo_take_52 : decode b_Mo_take 52 = .ok (.goto (-19), 3) := by decide +kernel
theorem d_Mo_take_55 : decode b_Mo_take 55 = .ok (.iconst 1, 1) := by decide +kernel
theorem d_Mo_take_56 : decode b_Mo_take 56 = .ok (.ireturn, 1) := by decide +kernel
abbrev b_Mo_frees : ByteArray := prog_6_method_18_code
def y_Mo_frees : MethodName := ⟨"QuestionDeskModel", "frees", "(I)V"⟩
theorem d_Mo_frees_0 : decode b_Mo_frees 0 = .ok (.iconst 0, 1) := by decide +kernel
theorem d_Mo_frees_1 : decode b_Mo_frees 1 = .ok (.istore_n 2, 1) := by decide +kernel
theorem d_Mo_frees_2 : decode b_Mo_frees 2 = .ok (.iload_n 2, 1) := by decide +kernel
theorem d_Mo_frees_3 : decode b_Mo_frees 3 = .ok (.bipush 8, 2) := by decide +kernel
theorem d_Mo_frees_5 : decode b_Mo_frees 5 = .ok (.if_icmp .ge 33, 3) := by decide +kernel
theorem d_Mo_frees_8 : decode b_Mo_frees 8 = .ok (.aload_n 0, 1) := by decide +kernel
theorem d_Mo_frees_9 : decode b_Mo_frees 9 = .ok (.getfield 47, 3) := by decide +kernel
theorem d_Mo_frees_12 : decode b_Mo_frees 12 = .ok (.iload_n 2, 1) := by decide +kernel
theorem d_Mo_frees_13 : decode b_Mo_frees 13 = .ok (.iaload, 1) := by decide +kernel
theorem d_Mo_frees_14 : decode b_Mo_frees 14 = .ok (.iload_n 1, 1) := by decide +kernel
theorem d_Mo_frees_15 : decode b_Mo_frees 15 = .ok (.if_icmp .ne 17, 3) := by decide +kernel
theorem d_Mo_frees_18 : decode b_Mo_frees 18 = .ok (.aload_n 0, 1) := by decide +kernel
theorem d_Mo_frees_19 : decode b_Mo_frees 19 = .ok (.getfield 44, 3) := by decide +kernel
theorem d_Mo_frees_22 : decode b_Mo_frees 22 = .ok (.iload_n 2, 1) := by decide +kernel
theorem d_Mo_frees_23 : decode b_Mo_frees 23 = .ok (.iconst (-1), 1) := by decide +kernel
theorem d_Mo_frees_24 : decode b_Mo_frees 24 = .ok (.iastore, 1) := by decide +kernel
theorem d_Mo_frees_25 : decode b_Mo_frees 25 = .ok (.aload_n 0, 1) := by decide +kernel
theorem d_Mo_frees_26 : decode b_Mo_frees 26 = .ok (.getfield 47, 3) := by decide +kernel
theorem d_Mo_frees_29 : decode b_Mo_frees 29 = .ok (.iload_n 2, 1) := by decide +kernel
theorem d_Mo_frees_30 : decode b_Mo_frees 30 = .ok (.iconst (-1), 1) := by decide +kernel
theorem d_Mo_frees_31 : decode b_Mo_frees 31 = .ok (.iastore, 1) := by decide +kernel
theorem d_Mo_frees_32 : decode b_Mo_frees 32 = .ok (.iinc 2 1, 3) := by decide +kernel
theorem d_Mo_frees_35 : decode b_Mo_frees 35 = .ok (.goto (-33), 3) := by decide +kernel
theorem d_Mo_frees_38 : decode b_Mo_frees 38 = .ok (.return_, 1) := by decide +kernel
abbrev b_Mo_takes : ByteArray := prog_6_method_19_code
def y_Mo_takes : MethodName := ⟨"QuestionDeskModel", "takes", "(III)Z"⟩
theorem d_Mo_takes_0 : decode b_Mo_takes 0 = .ok (.iload_n 1, 1) := by decide +kernel
theorem d_Mo_takes_1 : decode b_Mo_takes 1 = .ok (.bipush 10, 2) := by decide +kernel
theorem d_Mo_takes_3 : decode b_Mo_takes 3 = .ok (.if_icmp .ge 18, 3) := by decide +kernel
theorem d_Mo_takes_6 : decode b_Mo_takes 6 = .ok (.iload_n 1, 1) := by decide +kernel
theorem d_Mo_takes_7 : decode b_Mo_takes 7 = .ok (.ifCond .lt 8, 3) := by decide +kernel
theorem d_Mo_takes_10 : decode b_Mo_takes 10 = .ok (.iload_n 1, 1) := by decide +kernel
theorem d_Mo_takes_11 : decode b_Mo_takes 11 = .ok (.iload_n 2, 1) := by decide +kernel
theorem d_Mo_takes_12 : decode b_Mo_takes 12 = .ok (.if_icmp .ne 7, 3) := by decide +kernel
theorem d_Mo_takes_15 : decode b_Mo_takes 15 = .ok (.iconst 1, 1) := by decide +kernel
theorem d_Mo_takes_16 : decode b_Mo_takes 16 = .ok (.goto 4, 3) := by decide +kernel
theorem d_Mo_takes_19 : decode b_Mo_takes 19 = .ok (.iconst 0, 1) := by decide +kernel
theorem d_Mo_takes_20 : decode b_Mo_takes 20 = .ok (.ireturn, 1) := by decide +kernel
theorem d_Mo_takes_21 : decode b_Mo_takes 21 = .ok (.iload_n 1, 1) := by decide +kernel
theorem d_Mo_takes_22 : decode b_Mo_takes 22 = .ok (.bipush 10, 2) := by decide +kernel
theorem d_Mo_takes_24 : decode b_Mo_takes 24 = .ok (.isub, 1) := by decide +kernel
theorem d_Mo_takes_25 : decode b_Mo_takes 25 = .ok (.istore 4, 2) := by decide +kernel
theorem d_Mo_takes_27 : decode b_Mo_takes 27 = .ok (.aload_n 0, 1) := by decide +kernel
theorem d_Mo_takes_28 : decode b_Mo_takes 28 = .ok (.getfield 44, 3) := by decide +kernel
theorem d_Mo_takes_31 : decode b_Mo_takes 31 = .ok (.iload 4, 2) := by decide +kernel
theorem d_Mo_takes_33 : decode b_Mo_takes 33 = .ok (.iaload, 1) := by decide +kernel
theorem d_Mo_takes_34 : decode b_Mo_takes 34 = .ok (.iconst (-1), 1) := by decide +kernel
theorem d_Mo_takes_35 : decode b_Mo_takes 35 = .ok (.if_icmp .ne 19, 3) := by decide +kernel
theorem d_Mo_takes_38 : decode b_Mo_takes 38 = .ok (.aload_n 0, 1) := by decide +kernel
theorem d_Mo_takes_39 : decode b_Mo_takes 39 = .ok (.getfield 44, 3) := by decide +kernel
theorem d_Mo_takes_42 : decode b_Mo_takes 42 = .ok (.iload 4, 2) := by decide +kernel
theorem d_Mo_takes_44 : decode b_Mo_takes 44 = .ok (.iload_n 2, 1) := by decide +kernel
theorem d_Mo_takes_45 : decode b_Mo_takes 45 = .ok (.iastore, 1) := by decide +kernel
theorem d_Mo_takes_46 : decode b_Mo_takes 46 = .ok (.aload_n 0, 1) := by decide +kernel
theorem d_Mo_takes_47 : decode b_Mo_takes 47 = .ok (.getfield 47, 3) := by decide +kernel
theorem d_Mo_takes_50 : decode b_Mo_takes 50 = .ok (.iload 4, 2) := by decide +kernel
theorem d_Mo_takes_52 : decode b_Mo_takes 52 = .ok (.iload_n 3, 1) := by decide +kernel
theorem d_Mo_takes_53 : decode b_Mo_takes 53 = .ok (.iastore, 1) := by decide +kernel
theorem d_Mo_takes_54 : decode b_Mo_takes 54 = .ok (.aload_n 0, 1) := by decide +kernel
theorem d_Mo_takes_55 : decode b_Mo_takes 55 = .ok (.getfield 44, 3) := by decide +kernel
theorem d_Mo_takes_58 : decode b_Mo_takes 58 = .ok (.iload 4, 2) := by decide +kernel
theorem d_Mo_takes_60 : decode b_Mo_takes 60 = .ok (.iaload, 1) := by decide +kernel
theorem d_Mo_takes_61 : decode b_Mo_takes 61 = .ok (.iload_n 2, 1) := by decide +kernel
theorem d_Mo_takes_62 : decode b_Mo_takes 62 = .ok (.if_icmp .ne 7, 3) := by decide +kernel
theorem d_Mo_takes_65 : decode b_Mo_takes 65 = .ok (.iconst 1, 1) := by decide +kernel
theorem d_Mo_takes_66 : decode b_Mo_takes 66 = .ok (.goto 4, 3) := by decide +kernel
theorem d_Mo_takes_69 : decode b_Mo_takes 69 = .ok (.iconst 0, 1) := by decide +kernel
theorem d_Mo_takes_70 : decode b_Mo_takes 70 = .ok (.ireturn, 1) := by decide +kernel
abbrev b_Mo_begins : ByteArray := prog_6_method_20_code
def y_Mo_begins : MethodName := ⟨"QuestionDeskModel", "begins", "(II)V"⟩
theorem d_Mo_begins_0 : decode b_Mo_begins 0 = .ok (.aload_n 0, 1) := by decide +kernel
theorem d_Mo_begins_1 : decode b_Mo_begins 1 = .ok (.iload_n 1, 1) := by decide +kernel
theorem d_Mo_begins_2 : decode b_Mo_begins 2 = .ok (.putfield 98, 3) := by decide +kernel
theorem d_Mo_begins_5 : decode b_Mo_begins 5 = .ok (.aload_n 0, 1) := by decide +kernel
theorem d_Mo_begins_6 : decode b_Mo_begins 6 = .ok (.iload_n 2, 1) := by decide +kernel
theorem d_Mo_begins_7 : decode b_Mo_begins 7 = .ok (.putfield 101, 3) := by decide +kernel
theorem d_Mo_begins_10 : decode b_Mo_begins 10 = .ok (.aload_n 0, 1) := by decide +kernel
theorem d_Mo_begins_11 : decode b_Mo_begins 11 = .ok (.iconst 0, 1) := by decide +kernel
theorem d_Mo_begins_12 : decode b_Mo_begins 12 = .ok (.putfield 104, 3) := by decide +kernel
theorem d_Mo_begins_15 : decode b_Mo_begins 15 = .ok (.aload_n 0, 1) := by decide +kernel
theorem d_Mo_begins_16 : decode b_Mo_begins 16 = .ok (.getfield 50, 3) := by decide +kernel
theorem d_Mo_begins_19 : decode b_Mo_begins 19 = .ok (.iconst 0, 1) := by decide +kernel
theorem d_Mo_begins_20 : decode b_Mo_begins 20 = .ok (.iconst (-1), 1) := by decide +kernel
theorem d_Mo_begins_21 : decode b_Mo_begins 21 = .ok (.iastore, 1) := by decide +kernel
theorem d_Mo_begins_22 : decode b_Mo_begins 22 = .ok (.iconst 0, 1) := by decide +kernel
theorem d_Mo_begins_23 : decode b_Mo_begins 23 = .ok (.istore_n 3, 1) := by decide +kernel
theorem d_Mo_begins_24 : decode b_Mo_begins 24 = .ok (.iload_n 3, 1) := by decide +kernel
theorem d_Mo_begins_25 : decode b_Mo_begins 25 = .ok (.bipush 8, 2) := by decide +kernel
theorem d_Mo_begins_27 : decode b_Mo_begins 27 = .ok (.if_icmp .ge 23, 3) := by decide +kernel
theorem d_Mo_begins_30 : decode b_Mo_begins 30 = .ok (.aload_n 0, 1) := by decide +kernel
theorem d_Mo_begins_31 : decode b_Mo_begins 31 = .ok (.getfield 44, 3) := by decide +kernel
theorem d_Mo_begins_34 : decode b_Mo_begins 34 = .ok (.iload_n 3, 1) := by decide +kernel
theorem d_Mo_begins_35 : decode b_Mo_begins 35 = .ok (.iconst (-1), 1) := by decide +kernel
theorem d_Mo_begins_36 : decode b_Mo_begins 36 = .ok (.iastore, 1) := by decide +kernel
theorem d_Mo_begins_37 : decode b_Mo_begins 37 = .ok (.aload_n 0, 1) := by decide +kernel
theorem d_Mo_begins_38 : decode b_Mo_begins 38 = .ok (.getfield 47, 3) := by decide +kernel
theorem d_Mo_begins_41 : decode b_Mo_begins 41 = .ok (.iload_n 3, 1) := by decide +kernel
theorem d_Mo_begins_42 : decode b_Mo_begins 42 = .ok (.iconst (-1), 1) := by decide +kernel
theorem d_Mo_begins_43 : decode b_Mo_begins 43 = .ok (.iastore, 1) := by decide +kernel
theorem d_Mo_begins_44 : decode b_Mo_begins 44 = .ok (.iinc 3 1, 3) := by decide +kernel
theorem d_Mo_begins_47 : decode b_Mo_begins 47 = .ok (.goto (-23), 3) := by decide +kernel
theorem d_Mo_begins_50 : decode b_Mo_begins 50 = .ok (.return_, 1) := by decide +kernel
abbrev b_Mo_finds : ByteArray := prog_6_method_21_code
def y_Mo_finds : MethodName := ⟨"QuestionDeskModel", "finds", "()Z"⟩
theorem d_Mo_finds_0 : decode b_Mo_finds 0 = .ok (.iconst 4, 1) := by decide +kernel
theorem d_Mo_finds_1 : decode b_Mo_finds 1 = .ok (.aload_n 0, 1) := by decide +kernel
theorem d_Mo_finds_2 : decode b_Mo_finds 2 = .ok (.getfield 98, 3) := by decide +kernel
theorem d_Mo_finds_5 : decode b_Mo_finds 5 = .ok (.imul, 1) := by decide +kernel
theorem d_Mo_finds_6 : decode b_Mo_finds 6 = .ok (.iconst 1, 1) := by decide +kernel
theorem d_Mo_finds_7 : decode b_Mo_finds 7 = .ok (.iadd, 1) := by decide +kernel
theorem d_Mo_finds_8 : decode b_Mo_finds 8 = .ok (.aload_n 0, 1) := by decide +kernel
theorem d_Mo_finds_9 : decode b_Mo_finds 9 = .ok (.getfield 104, 3) := by decide +kernel
theorem d_Mo_finds_12 : decode b_Mo_finds 12 = .ok (.iadd, 1) := by decide +kernel
theorem d_Mo_finds_13 : decode b_Mo_finds 13 = .ok (.istore_n 1, 1) := by decide +kernel
theorem d_Mo_finds_14 : decode b_Mo_finds 14 = .ok (.aload_n 0, 1) := by decide +kernel
theorem d_Mo_finds_15 : decode b_Mo_finds 15 = .ok (.getfield 50, 3) := by decide +kernel
theorem d_Mo_finds_18 : decode b_Mo_finds 18 = .ok (.aload_n 0, 1) := by decide +kernel
theorem d_Mo_finds_19 : decode b_Mo_finds 19 = .ok (.getfield 104, 3) := by decide +kernel
theorem d_Mo_finds_22 : decode b_Mo_finds 22 = .ok (.iaload, 1) := by decide +kernel
theorem d_Mo_finds_23 : decode b_Mo_finds 23 = .ok (.bipush 99, 2) := by decide +kernel
theorem d_Mo_finds_25 : decode b_Mo_finds 25 = .ok (.if_icmp .ge 103, 3) := by decide +kernel
theorem d_Mo_finds_28 : decode b_Mo_finds 28 = .ok (.aload_n 0, 1) := by decide +kernel
theorem d_Mo_finds_29 : decode b_Mo_finds 29 = .ok (.getfield 50, 3) := by decide +kernel
theorem d_Mo_finds_32 : decode b_Mo_finds 32 = .ok (.aload_n 0, 1) := by decide +kernel
theorem d_Mo_finds_33 : decode b_Mo_finds 33 = .ok (.getfield 104, 3) := by decide +kernel
theorem d_Mo_finds_36 : decode b_Mo_finds 36 = .ok (.dup2, 1) := by decide +kernel
theorem d_Mo_finds_37 : decode b_Mo_finds 37 = .ok (.iaload, 1) := by decide +kernel
theorem d_Mo_finds_38 : decode b_Mo_finds 38 = .ok (.iconst 1, 1) := by decide +kernel
theorem d_Mo_finds_39 : decode b_Mo_finds 39 = .ok (.iadd, 1) := by decide +kernel
theorem d_Mo_finds_40 : decode b_Mo_finds 40 = .ok (.iastore, 1) := by decide +kernel
theorem d_Mo_finds_41 : decode b_Mo_finds 41 = .ok (.aload_n 0, 1) := by decide +kernel
theorem d_Mo_finds_42 : decode b_Mo_finds 42 = .ok (.getfield 50, 3) := by decide +kernel
theorem d_Mo_finds_45 : decode b_Mo_finds 45 = .ok (.aload_n 0, 1) := by decide +kernel
theorem d_Mo_finds_46 : decode b_Mo_finds 46 = .ok (.getfield 104, 3) := by decide +kernel
theorem d_Mo_finds_49 : decode b_Mo_finds 49 = .ok (.iaload, 1) := by decide +kernel
theorem d_Mo_finds_50 : decode b_Mo_finds 50 = .ok (.istore_n 2, 1) := by decide +kernel
theorem d_Mo_finds_51 : decode b_Mo_finds 51 = .ok (.aload_n 0, 1) := by decide +kernel
theorem d_Mo_finds_52 : decode b_Mo_finds 52 = .ok (.getfield 20, 3) := by decide +kernel
theorem d_Mo_finds_55 : decode b_Mo_finds 55 = .ok (.bipush 100, 2) := by decide +kernel
theorem d_Mo_finds_57 : decode b_Mo_finds 57 = .ok (.aload_n 0, 1) := by decide +kernel
theorem d_Mo_finds_58 : decode b_Mo_finds 58 = .ok (.getfield 23, 3) := by decide +kernel
theorem d_Mo_finds_61 : decode b_Mo_finds 61 = .ok (.iload_n 1, 1) := by decide +kernel
theorem d_Mo_finds_62 : decode b_Mo_finds 62 = .ok (.iaload, 1) := by decide +kernel
theorem d_Mo_finds_63 : decode b_Mo_finds 63 = .ok (.imul, 1) := by decide +kernel
theorem d_Mo_finds_64 : decode b_Mo_finds 64 = .ok (.iload_n 2, 1) := by decide +kernel
theorem d_Mo_finds_65 : decode b_Mo_finds 65 = .ok (.iadd, 1) := by decide +kernel
theorem d_Mo_finds_66 : decode b_Mo_finds 66 = .ok (.baload, 1) := by decide +kernel
theorem d_Mo_finds_67 : decode b_Mo_finds 67 = .ok (.ifCond .ne 6, 3) := by decide +kernel
theorem d_Mo_finds_70 : decode b_Mo_finds 70 = .ok (.goto (-56), 3) := by decide +kernel
theorem d_Mo_finds_73 : decode b_Mo_finds 73 = .ok (.aload_n 0, 1) := by decide +kernel
theorem d_Mo_finds_74 : decode b_Mo_finds 74 = .ok (.aload_n 0, 1) := by decide +kernel
theorem d_Mo_finds_75 : decode b_Mo_finds 75 = .ok (.getfield 26, 3) := by decide +kernel
theorem d_Mo_finds_78 : decode b_Mo_finds 78 = .ok (.iload_n 1, 1) := by decide +kernel
theorem d_Mo_finds_79 : decode b_Mo_finds 79 = .ok (.iaload, 1) := by decide +kernel
theorem d_Mo_finds_80 : decode b_Mo_finds 80 = .ok (.iload_n 2, 1) := by decide +kernel
theorem d_Mo_finds_81 : decode b_Mo_finds 81 = .ok (.bipush 10, 2) := by decide +kernel
theorem d_Mo_finds_83 : decode b_Mo_finds 83 = .ok (.idiv, 1) := by decide +kernel
theorem d_Mo_finds_84 : decode b_Mo_finds 84 = .ok (.aload_n 0, 1) := by decide +kernel
theorem d_Mo_finds_85 : decode b_Mo_finds 85 = .ok (.getfield 104, 3) := by decide +kernel
theorem d_Mo_finds_88 : decode b_Mo_finds 88 = .ok (.invokevirtual 107, 3) := by decide +kernel
theorem d_Mo_finds_91 : decode b_Mo_finds 91 = .ok (.ifCond .eq 26, 3) := by decide +kernel
theorem d_Mo_finds_94 : decode b_Mo_finds 94 = .ok (.aload_n 0, 1) := by decide +kernel
theorem d_Mo_finds_95 : decode b_Mo_finds 95 = .ok (.aload_n 0, 1) := by decide +kernel
theorem d_Mo_finds_96 : decode b_Mo_finds 96 = .ok (.getfield 29, 3) := by decide +kernel
theorem d_Mo_finds_99 : decode b_Mo_finds 99 = .ok (.iload_n 1, 1) := by decide +kernel
theorem d_Mo_finds_100 : decode b_Mo_finds 100 = .ok (.iaload, 1) := by decide +kernel
theorem d_Mo_finds_101 : decode b_Mo_finds 101 = .ok (.iload_n 2, 1) := by decide +kernel
theorem d_Mo_finds_102 : decode b_Mo_finds 102 = .ok (.bipush 10, 2) := by decide +kernel
theorem d_Mo_finds_104 : decode b_Mo_finds 104 = .ok (.irem, 1) := by decide +kernel
theorem d_Mo_finds_105 : decode b_Mo_finds 105 = .ok (.aload_n 0, 1) := by decide +kernel
theorem d_Mo_finds_106 : decode b_Mo_finds 106 = .ok (.getfield 104, 3) := by decide +kernel
theorem d_Mo_finds_109 : decode b_Mo_finds 109 = .ok (.invokevirtual 107, 3) := by decide +kernel
theorem d_Mo_finds_112 : decode b_Mo_finds 112 = .ok (.ifCond .eq 5, 3) := by decide +kernel
theorem d_Mo_finds_115 : decode b_Mo_finds 115 = .ok (.iconst 1, 1) := by decide +kernel
theorem d_Mo_finds_116 : decode b_Mo_finds 116 = .ok (.ireturn, 1) := by decide +kernel
theorem d_Mo_finds_117 : decode b_Mo_finds 117 = .ok (.aload_n 0, 1) := by decide +kernel
theorem d_Mo_finds_118 : decode b_Mo_finds 118 = .ok (.aload_n 0, 1) := by decide +kernel
theorem d_Mo_finds_119 : decode b_Mo_finds 119 = .ok (.getfield 104, 3) := by decide +kernel
theorem d_Mo_finds_122 : decode b_Mo_finds 122 = .ok (.invokevirtual 110, 3) := by decide +kernel
theorem d_Mo_finds_125 : decode b_Mo_finds 125 = .ok (.goto (-111), 3) := by decide +kernel
theorem d_Mo_finds_128 : decode b_Mo_finds 128 = .ok (.iconst 0, 1) := by decide +kernel
theorem d_Mo_finds_129 : decode b_Mo_finds 129 = .ok (.ireturn, 1) := by decide +kernel
abbrev b_Mo_goes : ByteArray := prog_6_method_22_code
def y_Mo_goes : MethodName := ⟨"QuestionDeskModel", "goes", "()Z"⟩
theorem d_Mo_goes_0 : decode b_Mo_goes 0 = .ok (.aload_n 0, 1) := by decide +kernel
theorem d_Mo_goes_1 : decode b_Mo_goes 1 = .ok (.getfield 104, 3) := by decide +kernel
theorem d_Mo_goes_4 : decode b_Mo_goes 4 = .ok (.aload_n 0, 1) := by decide +kernel
theorem d_Mo_goes_5 : decode b_Mo_goes 5 = .ok (.getfield 101, 3) := by decide +kernel
theorem d_Mo_goes_8 : decode b_Mo_goes 8 = .ok (.if_icmp .ne 30, 3) := by decide +kernel
theorem d_Mo_goes_11 : decode b_Mo_goes 11 = .ok (.aload_n 0, 1) := by decide +kernel
theorem d_Mo_goes_12 : decode b_Mo_goes 12 = .ok (.dup, 1) := by decide +kernel
theorem d_Mo_goes_13 : decode b_Mo_goes 13 = .ok (.getfield 104, 3) := by decide +kernel
theorem d_Mo_goes_16 : decode b_Mo_goes 16 = .ok (.iconst 1, 1) := by decide +kernel
theorem d_Mo_goes_17 : decode b_Mo_goes 17 = .ok (.isub, 1) := by decide +kernel
theorem d_Mo_goes_18 : decode b_Mo_goes 18 = .ok (.putfield 104, 3) := by decide +kernel
theorem d_Mo_goes_21 : decode b_Mo_goes 21 = .ok (.aload_n 0, 1) := by decide +kernel
theorem d_Mo_goes_22 : decode b_Mo_goes 22 = .ok (.getfield 104, 3) := by decide +kernel
theorem d_Mo_goes_25 : decode b_Mo_goes 25 = .ok (.ifCond .ge 5, 3) := by decide +kernel
theorem d_Mo_goes_28 : decode b_Mo_goes 28 = .ok (.iconst 0, 1) := by decide +kernel
theorem d_Mo_goes_29 : decode b_Mo_goes 29 = .ok (.ireturn, 1) := by decide +kernel
theorem d_Mo_goes_30 : decode b_Mo_goes 30 = .ok (.aload_n 0, 1) := by decide +kernel
theorem d_Mo_goes_31 : decode b_Mo_goes 31 = .ok (.aload_n 0, 1) := by decide +kernel
theorem d_Mo_goes_32 : decode b_Mo_goes 32 = .ok (.getfield 104, 3) := by decide +kernel
theorem d_Mo_goes_35 : decode b_Mo_goes 35 = .ok (.invokevirtual 110, 3) := by decide +kernel
theorem d_Mo_goes_38 : decode b_Mo_goes 38 = .ok (.aload_n 0, 1) := by decide +kernel
theorem d_Mo_goes_39 : decode b_Mo_goes 39 = .ok (.getfield 104, 3) := by decide +kernel
theorem d_Mo_goes_42 : decode b_Mo_goes 42 = .ok (.aload_n 0, 1) := by decide +kernel
theorem d_Mo_goes_43 : decode b_Mo_goes 43 = .ok (.getfield 101, 3) := by decide +kernel
theorem d_Mo_goes_46 : decode b_Mo_goes 46 = .ok (.if_icmp .ge 73, 3) := by decide +kernel
theorem d_Mo_goes_49 : decode b_Mo_goes 49 = .ok (.aload_n 0, 1) := by decide +kernel
theorem d_Mo_goes_50 : decode b_Mo_goes 50 = .ok (.invokevirtual 114, 3) := by decide +kernel
theorem d_Mo_goes_53 : decode b_Mo_goes 53 = .ok (.ifCond .eq 26, 3) := by decide +kernel
theorem d_Mo_goes_56 : decode b_Mo_goes 56 = .ok (.aload_n 0, 1) := by decide +kernel
theorem d_Mo_goes_57 : decode b_Mo_goes 57 = .ok (.dup, 1) := by decide +kernel
theorem d_Mo_goes_58 : decode b_Mo_goes 58 = .ok (.getfield 104, 3) := by decide +kernel
theorem d_Mo_goes_61 : decode b_Mo_goes 61 = .ok (.iconst 1, 1) := by decide +kernel
theorem d_Mo_goes_62 : decode b_Mo_goes 62 = .ok (.iadd, 1) := by decide +kernel
theorem d_Mo_goes_63 : decode b_Mo_goes 63 = .ok (.putfield 104, 3) := by decide +kernel
theorem d_Mo_goes_66 : decode b_Mo_goes 66 = .ok (.aload_n 0, 1) := by decide +kernel
theorem d_Mo_goes_67 : decode b_Mo_goes 67 = .ok (.getfield 50, 3) := by decide +kernel
theorem d_Mo_goes_70 : decode b_Mo_goes 70 = .ok (.aload_n 0, 1) := by decide +kernel
theorem d_Mo_goes_71 : decode b_Mo_goes 71 = .ok (.getfield 104, 3) := by decide +kernel
theorem d_Mo_goes_74 : decode b_Mo_goes 74 = .ok (.iconst (-1), 1) := by decide +kernel
theorem d_Mo_goes_75 : decode b_Mo_goes 75 = .ok (.iastore, 1) := by decide +kernel
theorem d_Mo_goes_76 : decode b_Mo_goes 76 = .ok (.goto (-38), 3) := by decide +kernel
theorem d_Mo_goes_79 : decode b_Mo_goes 79 = .ok (.aload_n 0, 1) := by decide +kernel
theorem d_Mo_goes_80 : decode b_Mo_goes 80 = .ok (.dup, 1) := by decide +kernel
theorem d_Mo_goes_81 : decode b_Mo_goes 81 = .ok (.getfield 104, 3) := by decide +kernel
theorem d_Mo_goes_84 : decode b_Mo_goes 84 = .ok (.iconst 1, 1) := by decide +kernel
theorem d_Mo_goes_85 : decode b_Mo_goes 85 = .ok (.isub, 1) := by decide +kernel
theorem d_Mo_goes_86 : decode b_Mo_goes 86 = .ok (.putfield 104, 3) := by decide +kernel
theorem d_Mo_goes_89 : decode b_Mo_goes 89 = .ok (.aload_n 0, 1) := by decide +kernel
theorem d_Mo_goes_90 : decode b_Mo_goes 90 = .ok (.getfield 104, 3) := by decide +kernel
theorem d_Mo_goes_93 : decode b_Mo_goes 93 = .ok (.ifCond .ge 15, 3) := by decide +kernel
theorem d_Mo_goes_96 : decode b_Mo_goes 96 = .ok (.aload_n 0, 1) := by decide +kernel
theorem d_Mo_goes_97 : decode b_Mo_goes 97 = .ok (.iconst 0, 1) := by decide +kernel
theorem d_Mo_goes_98 : decode b_Mo_goes 98 = .ok (.putfield 104, 3) := by decide +kernel
theorem d_Mo_goes_101 : decode b_Mo_goes 101 = .ok (.aload_n 0, 1) := by decide +kernel
theorem d_Mo_goes_102 : decode b_Mo_goes 102 = .ok (.iconst 0, 1) := by decide +kernel
theorem d_Mo_goes_103 : decode b_Mo_goes 103 = .ok (.putfield 101, 3) := by decide +kernel
theorem d_Mo_goes_106 : decode b_Mo_goes 106 = .ok (.iconst 0, 1) := by decide +kernel
theorem d_Mo_goes_107 : decode b_Mo_goes 107 = .ok (.ireturn, 1) := by decide +kernel
theorem d_Mo_goes_108 : decode b_Mo_goes 108 = .ok (.aload_n 0, 1) := by decide +kernel
theorem d_Mo_goes_109 : decode b_Mo_goes 109 = .ok (.aload_n 0, 1) := by decide +kernel
theorem d_Mo_goes_110 : decode b_Mo_goes 110 = .ok (.getfield 104, 3) := by decide +kernel
theorem d_Mo_goes_113 : decode b_Mo_goes 113 = .ok (.invokevirtual 110, 3) := by decide +kernel
theorem d_Mo_goes_116 : decode b_Mo_goes 116 = .ok (.goto (-78), 3) := by decide +kernel
theorem d_Mo_goes_119 : decode b_Mo_goes 119 = .ok (.iconst 1, 1) := by decide +kernel
theorem d_Mo_goes_120 : decode b_Mo_goes 120 = .ok (.ireturn, 1) := by decide +kernel
abbrev b_Mo_value : ByteArray := prog_6_method_23_code
def y_Mo_value : MethodName := ⟨"QuestionDeskModel", "value", "(I)I"⟩
theorem d_Mo_value_0 : decode b_Mo_value 0 = .ok (.iload_n 1, 1) := by decide +kernel
theorem d_Mo_value_1 : decode b_Mo_value 1 = .ok (.bipush 10, 2) := by decide +kernel
theorem d_Mo_value_3 : decode b_Mo_value 3 = .ok (.if_icmp .ge 7, 3) := by decide +kernel
theorem d_Mo_value_6 : decode b_Mo_value 6 = .ok (.iload_n 1, 1) := by decide +kernel
theorem d_Mo_value_7 : decode b_Mo_value 7 = .ok (.goto 12, 3) := by decide +kernel
theorem d_Mo_value_10 : decode b_Mo_value 10 = .ok (.aload_n 0, 1) := by decide +kernel
theorem d_Mo_value_11 : decode b_Mo_value 11 = .ok (.getfield 44, 3) := by decide +kernel
theorem d_Mo_value_14 : decode b_Mo_value 14 = .ok (.iload_n 1, 1) := by decide +kernel
theorem d_Mo_value_15 : decode b_Mo_value 15 = .ok (.bipush 10, 2) := by decide +kernel
theorem d_Mo_value_17 : decode b_Mo_value 17 = .ok (.isub, 1) := by decide +kernel
theorem d_Mo_value_18 : decode b_Mo_value 18 = .ok (.iaload, 1) := by decide +kernel
theorem d_Mo_value_19 : decode b_Mo_value 19 = .ok (.ireturn, 1) := by decide +kernel
abbrev b_Mo_models : ByteArray := prog_6_method_24_code
def y_Mo_models : MethodName := ⟨"QuestionDeskModel", "models", "()V"⟩
theorem d_Mo_models_0 : decode b_Mo_models 0 = .ok (.iconst 0, 1) := by decide +kernel
theorem d_Mo_models_1 : decode b_Mo_models 1 = .ok (.istore_n 1, 1) := by decide +kernel
theorem d_Mo_models_2 : decode b_Mo_models 2 = .ok (.iload_n 1, 1) := by decide +kernel
theorem d_Mo_models_3 : decode b_Mo_models 3 = .ok (.sipush 1000, 3) := by decide +kernel
theorem d_Mo_models_6 : decode b_Mo_models 6 = .ok (.if_icmp .ge 21, 3) := by decide +kernel
theorem d_Mo_models_9 : decode b_Mo_models 9 = .ok (.aload_n 0, 1) := by decide +kernel
theorem d_Mo_models_10 : decode b_Mo_models 10 = .ok (.getfield 20, 3) := by decide +kernel
theorem d_Mo_models_13 : decode b_Mo_models 13 = .ok (.iload_n 1, 1) := by decide +kernel
theorem d_Mo_models_14 : decode b_Mo_models 14 = .ok (.aload_n 0, 1) := by decide +kernel
theorem d_Mo_models_15 : decode b_Mo_models 15 = .ok (.getfield 17, 3) := by decide +kernel
theorem d_Mo_models_18 : decode b_Mo_models 18 = .ok (.iload_n 1, 1) := by decide +kernel
theorem d_Mo_models_19 : decode b_Mo_models 19 = .ok (.baload, 1) := by decide +kernel
theorem d_Mo_models_20 : decode b_Mo_models 20 = .ok (.bastore, 1) := by decide +kernel
theorem d_Mo_models_21 : decode b_Mo_models 21 = .ok (.iinc 1 1, 3) := by decide +kernel
theorem d_Mo_models_24 : decode b_Mo_models 24 = .ok (.goto (-22), 3) := by decide +kernel
theorem d_Mo_models_27 : decode b_Mo_models 27 = .ok (.iconst 1, 1) := by decide +kernel
theorem d_Mo_models_28 : decode b_Mo_models 28 = .ok (.istore_n 1, 1) := by decide +kernel
theorem d_Mo_models_29 : decode b_Mo_models 29 = .ok (.iload_n 1, 1) := by decide +kernel
theorem d_Mo_models_30 : decode b_Mo_models 30 = .ok (.ifCond .eq 107, 3) := by decide +kernel
theorem d_Mo_models_33 : decode b_Mo_models 33 = .ok (.iconst 0, 1) := by decide +kernel
theorem d_Mo_models_34 : decode b_Mo_models 34 = .ok (.istore_n 1, 1) := by decide +kernel
theorem d_Mo_models_35 : decode b_Mo_models 35 = .ok (.iconst 0, 1) := by decide +kernel
theorem d_Mo_models_36 : decode b_Mo_models 36 = .ok (.istore_n 2, 1) := by decide +kernel
theorem d_Mo_models_37 : decode b_Mo_models 37 = .ok (.iload_n 2, 1) := by decide +kernel
theorem d_Mo_models_38 : decode b_Mo_models 38 = .ok (.aload_n 0, 1) := by decide +kernel
theorem d_Mo_models_39 : decode b_Mo_models 39 = .ok (.getfield 88, 3) := by decide +kernel
theorem d_Mo_models_42 : decode b_Mo_models 42 = .ok (.if_icmp .ge 92, 3) := by decide +kernel
theorem d_Mo_models_45 : decode b_Mo_models 45 = .ok (.aload_n 0, 1) := by decide +kernel
theorem d_Mo_models_46 : decode b_Mo_models 46 = .ok (.iload_n 2, 1) := by decide +kernel
theorem d_Mo_models_47 : decode b_Mo_models 47 = .ok (.aload_n 0, 1) := by decide +kernel
theorem d_Mo_models_48 : decode b_Mo_models 48 = .ok (.getfield 32, 3) := by decide +kernel
theorem d_Mo_models_51 : decode b_Mo_models 51 = .ok (.iload_n 2, 1) := by decide +kernel
theorem d_Mo_models_52 : decode b_Mo_models 52 = .ok (.iaload, 1) := by decide +kernel
theorem d_Mo_models_53 : decode b_Mo_models 53 = .ok (.invokevirtual 118, 3) := by decide +kernel
theorem d_Mo_models_56 : decode b_Mo_models 56 = .ok (.aload_n 0, 1) := by decide +kernel
theorem d_Mo_models_57 : decode b_Mo_models 57 = .ok (.invokevirtual 121, 3) := by decide +kernel
theorem d_Mo_models_60 : decode b_Mo_models 60 = .ok (.ifCond .eq 68, 3) := by decide +kernel
theorem d_Mo_models_63 : decode b_Mo_models 63 = .ok (.aload_n 0, 1) := by decide +kernel
theorem d_Mo_models_64 : decode b_Mo_models 64 = .ok (.getfield 23, 3) := by decide +kernel
theorem d_Mo_models_67 : decode b_Mo_models 67 = .ok (.iconst 4, 1) := by decide +kernel
theorem d_Mo_models_68 : decode b_Mo_models 68 = .ok (.iload_n 2, 1) := by decide +kernel
theorem d_Mo_models_69 : decode b_Mo_models 69 = .ok (.imul, 1) := by decide +kernel
theorem d_Mo_models_70 : decode b_Mo_models 70 = .ok (.iaload, 1) := by decide +kernel
theorem d_Mo_models_71 : decode b_Mo_models 71 = .ok (.aload_n 0, 1) := by decide +kernel
theorem d_Mo_models_72 : decode b_Mo_models 72 = .ok (.aload_n 0, 1) := by decide +kernel
theorem d_Mo_models_73 : decode b_Mo_models 73 = .ok (.getfield 26, 3) := by decide +kernel
theorem d_Mo_models_76 : decode b_Mo_models 76 = .ok (.iconst 4, 1) := by decide +kernel
theorem d_Mo_models_77 : decode b_Mo_models 77 = .ok (.iload_n 2, 1) := by decide +kernel
theorem d_Mo_models_78 : decode b_Mo_models 78 = .ok (.imul, 1) := by decide +kernel
theorem d_Mo_models_79 : decode b_Mo_models 79 = .ok (.iaload, 1) := by decide +kernel
theorem d_Mo_models_80 : decode b_Mo_models 80 = .ok (.invokevirtual 124, 3) := by decide +kernel
theorem d_Mo_models_83 : decode b_Mo_models 83 = .ok (.aload_n 0, 1) := by decide +kernel
theorem d_Mo_models_84 : decode b_Mo_models 84 = .ok (.aload_n 0, 1) := by decide +kernel
theorem d_Mo_models_85 : decode b_Mo_models 85 = .ok (.getfield 29, 3) := by decide +kernel
theorem d_Mo_models_88 : decode b_Mo_models 88 = .ok (.iconst 4, 1) := by decide +kernel
theorem d_Mo_models_89 : decode b_Mo_models 89 = .ok (.iload_n 2, 1) := by decide +kernel
theorem d_Mo_models_90 : decode b_Mo_models 90 = .ok (.imul, 1) := by decide +kernel
theorem d_Mo_models_91 : decode b_Mo_models 91 = .ok (.iaload, 1) := by decide +kernel
theorem d_Mo_models_92 : decode b_Mo_models 92 = .ok (.invokevirtual 124, 3) := by decide +kernel
theorem d_Mo_models_95 : decode b_Mo_models 95 = .ok (.invokestatic 72, 3) := by decide +kernel
theorem d_Mo_models_98 : decode b_Mo_models 98 = .ok (.istore_n 3, 1) := by decide +kernel
theorem d_Mo_models_99 : decode b_Mo_models 99 = .ok (.iload_n 1, 1) := by decide +kernel
theorem d_Mo_models_100 : decode b_Mo_models 100 = .ok (.ifCond .ne 12, 3) := by decide +kernel
theorem d_Mo_models_103 : decode b_Mo_models 103 = .ok (.aload_n 0, 1) := by decide +kernel
theorem d_Mo_models_104 : decode b_Mo_models 104 = .ok (.getfield 20, 3) := by decide +kernel
theorem d_Mo_models_107 : decode b_Mo_models 107 = .ok (.iload_n 3, 1) := by decide +kernel
theorem d_Mo_models_108 : decode b_Mo_models 108 = .ok (.baload, 1) := by decide +kernel
theorem d_Mo_models_109 : decode b_Mo_models 109 = .ok (.ifCond .ne 7, 3) := by decide +kernel
theorem d_Mo_models_112 : decode b_Mo_models 112 = .ok (.iconst 1, 1) := by decide +kernel
theorem d_Mo_models_113 : decode b_Mo_models 113 = .ok (.goto 4, 3) := by decide +kernel
theorem d_Mo_models_116 : decode b_Mo_models 116 = .ok (.iconst 0, 1) := by decide +kernel
theorem d_Mo_models_117 : decode b_Mo_models 117 = .ok (.istore_n 1, 1) := by decide +kernel
theorem d_Mo_models_118 : decode b_Mo_models 118 = .ok (.aload_n 0, 1) := by decide +kernel
theorem d_Mo_models_119 : decode b_Mo_models 119 = .ok (.getfield 20, 3) := by decide +kernel
theorem d_Mo_models_122 : decode b_Mo_models 122 = .ok (.iload_n 3, 1) := by decide +kernel
theorem d_Mo_models_123 : decode b_Mo_models 123 = .ok (.iconst 1, 1) := by decide +kernel
theorem d_Mo_models_124 : decode b_Mo_models 124 = .ok (.bastore, 1) := by decide +kernel
theorem d_Mo_models_125 : decode b_Mo_models 125 = .ok (.goto (-69), 3) := by decide +kernel
theorem d_Mo_models_128 : decode b_Mo_models 128 = .ok (.iinc 2 1, 3) := by decide +kernel
theorem d_Mo_models_131 : decode b_Mo_models 131 = .ok (.goto (-94), 3) := by decide +kernel
theorem d_Mo_models_134 : decode b_Mo_models 134 = .ok (.goto (-105), 3) := by decide +kernel
theorem d_Mo_models_137 : decode b_Mo_models 137 = .ok (.return_, 1) := by decide +kernel
abbrev b_Mo_calls : ByteArray := prog_6_method_25_code
def y_Mo_calls : MethodName := ⟨"QuestionDeskModel", "calls", "(III)V"⟩
theorem d_Mo_calls_0 : decode b_Mo_calls 0 = .ok (.bipush 121, 2) := by decide +kernel
theorem d_Mo_calls_2 : decode b_Mo_calls 2 = .ok (.iload_n 1, 1) := by decide +kernel
theorem d_Mo_calls_3 : decode b_Mo_calls 3 = .ok (.imul, 1) := by decide +kernel
theorem d_Mo_calls_4 : decode b_Mo_calls 4 = .ok (.bipush 11, 2) := by decide +kernel
theorem d_Mo_calls_6 : decode b_Mo_calls 6 = .ok (.iload_n 2, 1) := by decide +kernel
theorem d_Mo_calls_7 : decode b_Mo_calls 7 = .ok (.imul, 1) := by decide +kernel
theorem d_Mo_calls_8 : decode b_Mo_calls 8 = .ok (.iadd, 1) := by decide +kernel
theorem d_Mo_calls_9 : decode b_Mo_calls 9 = .ok (.iload_n 3, 1) := by decide +kernel
theorem d_Mo_calls_10 : decode b_Mo_calls 10 = .ok (.iadd, 1) := by decide +kernel
theorem d_Mo_calls_11 : decode b_Mo_calls 11 = .ok (.istore 4, 2) := by decide +kernel
theorem d_Mo_calls_13 : decode b_Mo_calls 13 = .ok (.aload_n 0, 1) := by decide +kernel
theorem d_Mo_calls_14 : decode b_Mo_calls 14 = .ok (.getfield 35, 3) := by decide +kernel
theorem d_Mo_calls_17 : decode b_Mo_calls 17 = .ok (.iload 4, 2) := by decide +kernel
theorem d_Mo_calls_19 : decode b_Mo_calls 19 = .ok (.baload, 1) := by decide +kernel
theorem d_Mo_calls_20 : decode b_Mo_calls 20 = .ok (.ifCond .ne 32, 3) := by decide +kernel
theorem d_Mo_calls_23 : decode b_Mo_calls 23 = .ok (.aload_n 0, 1) := by decide +kernel
theorem d_Mo_calls_24 : decode b_Mo_calls 24 = .ok (.getfield 35, 3) := by decide +kernel
theorem d_Mo_calls_27 : decode b_Mo_calls 27 = .ok (.iload 4, 2) := by decide +kernel
theorem d_Mo_calls_29 : decode b_Mo_calls 29 = .ok (.iconst 1, 1) := by decide +kernel
theorem d_Mo_calls_30 : decode b_Mo_calls 30 = .ok (.bastore, 1) := by decide +kernel
theorem d_Mo_calls_31 : decode b_Mo_calls 31 = .ok (.aload_n 0, 1) := by decide +kernel
theorem d_Mo_calls_32 : decode b_Mo_calls 32 = .ok (.getfield 38, 3) := by decide +kernel
theorem d_Mo_calls_35 : decode b_Mo_calls 35 = .ok (.aload_n 0, 1) := by decide +kernel
theorem d_Mo_calls_36 : decode b_Mo_calls 36 = .ok (.getfield 128, 3) := by decide +kernel
theorem d_Mo_calls_39 : decode b_Mo_calls 39 = .ok (.iload 4, 2) := by decide +kernel
theorem d_Mo_calls_41 : decode b_Mo_calls 41 = .ok (.iastore, 1) := by decide +kernel
theorem d_Mo_calls_42 : decode b_Mo_calls 42 = .ok (.aload_n 0, 1) := by decide +kernel
theorem d_Mo_calls_43 : decode b_Mo_calls 43 = .ok (.dup, 1) := by decide +kernel
theorem d_Mo_calls_44 : decode b_Mo_calls 44 = .ok (.getfield 128, 3) := by decide +kernel
theorem d_Mo_calls_47 : decode b_Mo_calls 47 = .ok (.iconst 1, 1) := by decide +kernel
theorem d_Mo_calls_48 : decode b_Mo_calls 48 = .ok (.iadd, 1) := by decide +kernel
theorem d_Mo_calls_49 : decode b_Mo_calls 49 = .ok (.putfield 128, 3) := by decide +kernel
theorem d_Mo_calls_52 : decode b_Mo_calls 52 = .ok (.return_, 1) := by decide +kernel
abbrev b_Mo_called_II : ByteArray := prog_6_method_26_code
def y_Mo_called_II : MethodName := ⟨"QuestionDeskModel", "called", "(I)I"⟩
theorem d_Mo_called_II_0 : decode b_Mo_called_II 0 = .ok (.iload_n 1, 1) := by decide +kernel
theorem d_Mo_called_II_1 : decode b_Mo_called_II 1 = .ok (.ifCond .ge 6, 3) := by decide +kernel
theorem d_Mo_called_II_4 : decode b_Mo_called_II 4 = .ok (.bipush 10, 2) := by decide +kernel
theorem d_Mo_called_II_6 : decode b_Mo_called_II 6 = .ok (.ireturn, 1) := by decide +kernel
theorem d_Mo_called_II_7 : decode b_Mo_called_II 7 = .ok (.aload_n 0, 1) := by decide +kernel
theorem d_Mo_called_II_8 : decode b_Mo_called_II 8 = .ok (.iload_n 1, 1) := by decide +kernel
theorem d_Mo_called_II_9 : decode b_Mo_called_II 9 = .ok (.invokevirtual 124, 3) := by decide +kernel
theorem d_Mo_called_II_12 : decode b_Mo_called_II 12 = .ok (.istore_n 2, 1) := by decide +kernel
theorem d_Mo_called_II_13 : decode b_Mo_called_II 13 = .ok (.iload_n 2, 1) := by decide +kernel
theorem d_Mo_called_II_14 : decode b_Mo_called_II 14 = .ok (.iconst (-1), 1) := by decide +kernel
theorem d_Mo_called_II_15 : decode b_Mo_called_II 15 = .ok (.if_icmp .ne 8, 3) := by decide +kernel
theorem d_Mo_called_II_18 : decode b_Mo_called_II 18 = .ok (.bipush 10, 2) := by decide +kernel
theorem d_Mo_called_II_20 : decode b_Mo_called_II 20 = .ok (.goto 4, 3) := by decide +kernel
theorem d_Mo_called_II_23 : decode b_Mo_called_II 23 = .ok (.iload_n 2, 1) := by decide +kernel
theorem d_Mo_called_II_24 : decode b_Mo_called_II 24 = .ok (.ireturn, 1) := by decide +kernel
abbrev b_Mo_follows : ByteArray := prog_6_method_27_code
def y_Mo_follows : MethodName := ⟨"QuestionDeskModel", "follows", "(IIII)V"⟩
theorem d_Mo_follows_0 : decode b_Mo_follows 0 = .ok (.iconst 4, 1) := by decide +kernel
theorem d_Mo_follows_1 : decode b_Mo_follows 1 = .ok (.iload_n 1, 1) := by decide +kernel
theorem d_Mo_follows_2 : decode b_Mo_follows 2 = .ok (.imul, 1) := by decide +kernel
theorem d_Mo_follows_3 : decode b_Mo_follows 3 = .ok (.istore 5, 2) := by decide +kernel
theorem d_Mo_follows_5 : decode b_Mo_follows 5 = .ok (.iload 5, 2) := by decide +kernel
theorem d_Mo_follows_7 : decode b_Mo_follows 7 = .ok (.iconst 1, 1) := by decide +kernel
theorem d_Mo_follows_8 : decode b_Mo_follows 8 = .ok (.iadd, 1) := by decide +kernel
theorem d_Mo_follows_9 : decode b_Mo_follows 9 = .ok (.iload_n 2, 1) := by decide +kernel
theorem d_Mo_follows_10 : decode b_Mo_follows 10 = .ok (.iadd, 1) := by decide +kernel
theorem d_Mo_follows_11 : decode b_Mo_follows 11 = .ok (.istore 6, 2) := by decide +kernel
theorem d_Mo_follows_13 : decode b_Mo_follows 13 = .ok (.aload_n 0, 1) := by decide +kernel
theorem d_Mo_follows_14 : decode b_Mo_follows 14 = .ok (.iload_n 1, 1) := by decide +kernel
theorem d_Mo_follows_15 : decode b_Mo_follows 15 = .ok (.iload_n 2, 1) := by decide +kernel
theorem d_Mo_follows_16 : decode b_Mo_follows 16 = .ok (.invokevirtual 118, 3) := by decide +kernel
theorem d_Mo_follows_19 : decode b_Mo_follows 19 = .ok (.iload_n 3, 1) := by decide +kernel
theorem d_Mo_follows_20 : decode b_Mo_follows 20 = .ok (.bipush 10, 2) := by decide +kernel
theorem d_Mo_follows_22 : decode b_Mo_follows 22 = .ok (.if_icmp .eq 19, 3) := by decide +kernel
theorem d_Mo_follows_25 : decode b_Mo_follows 25 = .ok (.aload_n 0, 1) := by decide +kernel
theorem d_Mo_follows_26 : decode b_Mo_follows 26 = .ok (.aload_n 0, 1) := by decide +kernel
theorem d_Mo_follows_27 : decode b_Mo_follows 27 = .ok (.getfield 26, 3) := by decide +kernel
theorem d_Mo_follows_30 : decode b_Mo_follows 30 = .ok (.iload 5, 2) := by decide +kernel
theorem d_Mo_follows_32 : decode b_Mo_follows 32 = .ok (.iaload, 1) := by decide +kernel
theorem d_Mo_follows_33 : decode b_Mo_follows 33 = .ok (.iload_n 3, 1) := by decide +kernel
theorem d_Mo_follows_34 : decode b_Mo_follows 34 = .ok (.iconst (-1), 1) := by decide +kernel
theorem d_Mo_follows_35 : decode b_Mo_follows 35 = .ok (.invokevirtual 107, 3) := by decide +kernel
theorem d_Mo_follows_38 : decode b_Mo_follows 38 = .ok (.ifCond .eq 31, 3) := by decide +kernel
theorem d_Mo_follows_41 : decode b_Mo_follows 41 = .ok (.iload 4, 2) := by decide +kernel
theorem d_Mo_follows_43 : decode b_Mo_follows 43 = .ok (.bipush 10, 2) := by decide +kernel
theorem d_Mo_follows_45 : decode b_Mo_follows 45 = .ok (.if_icmp .eq 20, 3) := by decide +kernel
theorem d_Mo_follows_48 : decode b_Mo_follows 48 = .ok (.aload_n 0, 1) := by decide +kernel
theorem d_Mo_follows_49 : decode b_Mo_follows 49 = .ok (.aload_n 0, 1) := by decide +kernel
theorem d_Mo_follows_50 : decode b_Mo_follows 50 = .ok (.getfield 29, 3) := by decide +kernel
theorem d_Mo_follows_53 : decode b_Mo_follows 53 = .ok (.iload 5, 2) := by decide +kernel
theorem d_Mo_follows_55 : decode b_Mo_follows 55 = .ok (.iaload, 1) := by decide +kernel
theorem d_Mo_follows_56 : decode b_Mo_follows 56 = .ok (.iload 4, 2) := by decide +kernel
theorem d_Mo_follows_58 : decode b_Mo_follows 58 = .ok (.iconst (-1), 1) := by decide +kernel
theorem d_Mo_follows_59 : decode b_Mo_follows 59 = .ok (.invokevirtual 107, 3) := by decide +kernel
theorem d_Mo_follows_62 : decode b_Mo_follows 62 = .ok (.ifCond .eq 7, 3) := by decide +kernel
theorem d_Mo_follows_65 : decode b_Mo_follows 65 = .ok (.iconst 1, 1) := by decide +kernel
theorem d_Mo_follows_66 : decode b_Mo_follows 66 = .ok (.goto 4, 3) := by decide +kernel
theorem d_Mo_follows_69 : decode b_Mo_follows 69 = .ok (.iconst 0, 1) := by decide +kernel
theorem d_Mo_follows_70 : decode b_Mo_follows 70 = .ok (.istore 7, 2) := by decide +kernel
theorem d_Mo_follows_72 : decode b_Mo_follows 72 = .ok (.iload 7, 2) := by decide +kernel
theorem d_Mo_follows_74 : decode b_Mo_follows 74 = .ok (.ifCond .ne 4, 3) := by decide +kernel
theorem d_Mo_follows_77 : decode b_Mo_follows 77 = .ok (.return_, 1) := by decide +kernel
theorem d_Mo_follows_78 : decode b_Mo_follows 78 = .ok (.iload_n 2, 1) := by decide +kernel
theorem d_Mo_follows_79 : decode b_Mo_follows 79 = .ok (.ifCond .ne 37, 3) := by decide +kernel
theorem d_Mo_follows_82 : decode b_Mo_follows 82 = .ok (.aload_n 0, 1) := by decide +kernel
theorem d_Mo_follows_83 : decode b_Mo_follows 83 = .ok (.aload_n 0, 1) := by decide +kernel
theorem d_Mo_follows_84 : decode b_Mo_follows 84 = .ok (.getfield 23, 3) := by decide +kernel
theorem d_Mo_follows_87 : decode b_Mo_follows 87 = .ok (.iload 6, 2) := by decide +kernel
theorem d_Mo_follows_89 : decode b_Mo_follows 89 = .ok (.iaload, 1) := by decide +kernel
theorem d_Mo_follows_90 : decode b_Mo_follows 90 = .ok (.aload_n 0, 1) := by decide +kernel
theorem d_Mo_follows_91 : decode b_Mo_follows 91 = .ok (.aload_n 0, 1) := by decide +kernel
theorem d_Mo_follows_92 : decode b_Mo_follows 92 = .ok (.getfield 26, 3) := by decide +kernel
theorem d_Mo_follows_95 : decode b_Mo_follows 95 = .ok (.iload 6, 2) := by decide +kernel
theorem d_Mo_follows_97 : decode b_Mo_follows 97 = .ok (.iaload, 1) := by decide +kernel
theorem d_Mo_follows_98 : decode b_Mo_follows 98 = .ok (.invokevirtual 131, 3) := by decide +kernel
theorem d_Mo_follows_101 : decode b_Mo_follows 101 = .ok (.aload_n 0, 1) := by decide +kernel
theorem d_Mo_follows_102 : decode b_Mo_follows 102 = .ok (.aload_n 0, 1) := by decide +kernel
theorem d_Mo_follows_103 : decode b_Mo_follows 103 = .ok (.getfield 29, 3) := by decide +kernel
theorem d_Mo_follows_106 : decode b_Mo_follows 106 = .ok (.iload 6, 2) := by decide +kernel
theorem d_Mo_follows_108 : decode b_Mo_follows 108 = .ok (.iaload, 1) := by decide +kernel
theorem d_Mo_follows_109 : decode b_Mo_follows 109 = .ok (.invokevirtual 131, 3) := by decide +kernel
theorem d_Mo_follows_112 : decode b_Mo_follows 112 = .ok (.invokevirtual 134, 3) := by decide +kernel
theorem d_Mo_follows_115 : decode b_Mo_follows 115 = .ok (.return_, 1) := by decide +kernel
theorem d_Mo_follows_116 : decode b_Mo_follows 116 = .ok (.aload_n 0, 1) := by decide +kernel
theorem d_Mo_follows_117 : decode b_Mo_follows 117 = .ok (.invokevirtual 121, 3) := by decide +kernel
theorem d_Mo_follows_120 : decode b_Mo_follows 120 = .ok (.ifCond .eq 39, 3) := by decide +kernel
theorem d_Mo_follows_123 : decode b_Mo_follows 123 = .ok (.aload_n 0, 1) := by decide +kernel
theorem d_Mo_follows_124 : decode b_Mo_follows 124 = .ok (.aload_n 0, 1) := by decide +kernel
theorem d_Mo_follows_125 : decode b_Mo_follows 125 = .ok (.getfield 23, 3) := by decide +kernel
theorem d_Mo_follows_128 : decode b_Mo_follows 128 = .ok (.iload 6, 2) := by decide +kernel
theorem d_Mo_follows_130 : decode b_Mo_follows 130 = .ok (.iaload, 1) := by decide +kernel
theorem d_Mo_follows_131 : decode b_Mo_follows 131 = .ok (.aload_n 0, 1) := by decide +kernel
theorem d_Mo_follows_132 : decode b_Mo_follows 132 = .ok (.aload_n 0, 1) := by decide +kernel
theorem d_Mo_follows_133 : decode b_Mo_follows 133 = .ok (.getfield 26, 3) := by decide +kernel
theorem d_Mo_follows_136 : decode b_Mo_follows 136 = .ok (.iload 6, 2) := by decide +kernel
theorem d_Mo_follows_138 : decode b_Mo_follows 138 = .ok (.iaload, 1) := by decide +kernel
theorem d_Mo_follows_139 : decode b_Mo_follows 139 = .ok (.invokevirtual 131, 3) := by decide +kernel
theorem d_Mo_follows_142 : decode b_Mo_follows 142 = .ok (.aload_n 0, 1) := by decide +kernel
theorem d_Mo_follows_143 : decode b_Mo_follows 143 = .ok (.aload_n 0, 1) := by decide +kernel
theorem d_Mo_follows_144 : decode b_Mo_follows 144 = .ok (.getfield 29, 3) := by decide +kernel
theorem d_Mo_follows_147 : decode b_Mo_follows 147 = .ok (.iload 6, 2) := by decide +kernel
theorem d_Mo_follows_149 : decode b_Mo_follows 149 = .ok (.iaload, 1) := by decide +kernel
theorem d_Mo_follows_150 : decode b_Mo_follows 150 = .ok (.invokevirtual 131, 3) := by decide +kernel
theorem d_Mo_follows_153 : decode b_Mo_follows 153 = .ok (.invokevirtual 134, 3) := by decide +kernel
theorem d_Mo_follows_156 : decode b_Mo_follows 156 = .ok (.goto (-40), 3) := by decide +kernel
theorem d_Mo_follows_159 : decode b_Mo_follows 159 = .ok (.return_, 1) := by decide +kernel
abbrev b_Mo_asks : ByteArray := prog_6_method_28_code
def y_Mo_asks : MethodName := ⟨"QuestionDeskModel", "asks", "()V"⟩
theorem d_Mo_asks_0 : decode b_Mo_asks 0 = .ok (.iconst 0, 1) := by decide +kernel
theorem d_Mo_asks_1 : decode b_Mo_asks 1 = .ok (.istore_n 1, 1) := by decide +kernel
theorem d_Mo_asks_2 : decode b_Mo_asks 2 = .ok (.iload_n 1, 1) := by decide +kernel
theorem d_Mo_asks_3 : decode b_Mo_asks 3 = .ok (.sipush 1210, 3) := by decide +kernel
theorem d_Mo_asks_6 : decode b_Mo_asks 6 = .ok (.if_icmp .ge 16, 3) := by decide +kernel
theorem d_Mo_asks_9 : decode b_Mo_asks 9 = .ok (.aload_n 0, 1) := by decide +kernel
theorem d_Mo_asks_10 : decode b_Mo_asks 10 = .ok (.getfield 35, 3) := by decide +kernel
theorem d_Mo_asks_13 : decode b_Mo_asks 13 = .ok (.iload_n 1, 1) := by decide +kernel
theorem d_Mo_asks_14 : decode b_Mo_asks 14 = .ok (.iconst 0, 1) := by decide +kernel
theorem d_Mo_asks_15 : decode b_Mo_asks 15 = .ok (.bastore, 1) := by decide +kernel
theorem d_Mo_asks_16 : decode b_Mo_asks 16 = .ok (.iinc 1 1, 3) := by decide +kernel
theorem d_Mo_asks_19 : decode b_Mo_asks 19 = .ok (.goto (-17), 3) := by decide +kernel
theorem d_Mo_asks_22 : decode b_Mo_asks 22 = .ok (.aload_n 0, 1) := by decide +kernel
theorem d_Mo_asks_23 : decode b_Mo_asks 23 = .ok (.iconst 0, 1) := by decide +kernel
theorem d_Mo_asks_24 : decode b_Mo_asks 24 = .ok (.putfield 128, 3) := by decide +kernel
theorem d_Mo_asks_27 : decode b_Mo_asks 27 = .ok (.aload_n 0, 1) := by decide +kernel
theorem d_Mo_asks_28 : decode b_Mo_asks 28 = .ok (.getfield 13, 3) := by decide +kernel
theorem d_Mo_asks_31 : decode b_Mo_asks 31 = .ok (.aload_n 0, 1) := by decide +kernel
theorem d_Mo_asks_32 : decode b_Mo_asks 32 = .ok (.getfield 137, 3) := by decide +kernel
theorem d_Mo_asks_35 : decode b_Mo_asks 35 = .ok (.baload, 1) := by decide +kernel
theorem d_Mo_asks_36 : decode b_Mo_asks 36 = .ok (.ifCond .ne 4, 3) := by decide +kernel
theorem d_Mo_asks_39 : decode b_Mo_asks 39 = .ok (.return_, 1) := by decide +kernel
theorem d_Mo_asks_40 : decode b_Mo_asks 40 = .ok (.aload_n 0, 1) := by decide +kernel
theorem d_Mo_asks_41 : decode b_Mo_asks 41 = .ok (.aload_n 0, 1) := by decide +kernel
theorem d_Mo_asks_42 : decode b_Mo_asks 42 = .ok (.getfield 137, 3) := by decide +kernel
theorem d_Mo_asks_45 : decode b_Mo_asks 45 = .ok (.aload_n 0, 1) := by decide +kernel
theorem d_Mo_asks_46 : decode b_Mo_asks 46 = .ok (.getfield 140, 3) := by decide +kernel
theorem d_Mo_asks_49 : decode b_Mo_asks 49 = .ok (.bipush 10, 2) := by decide +kernel
theorem d_Mo_asks_51 : decode b_Mo_asks 51 = .ok (.if_icmp .ge 10, 3) := by decide +kernel
theorem d_Mo_asks_54 : decode b_Mo_asks 54 = .ok (.aload_n 0, 1) := by decide +kernel
theorem d_Mo_asks_55 : decode b_Mo_asks 55 = .ok (.getfield 140, 3) := by decide +kernel
theorem d_Mo_asks_58 : decode b_Mo_asks 58 = .ok (.goto 5, 3) := by decide +kernel
theorem d_Mo_asks_61 : decode b_Mo_asks 61 = .ok (.bipush 10, 2) := by decide +kernel
theorem d_Mo_asks_63 : decode b_Mo_asks 63 = .ok (.aload_n 0, 1) := by decide +kernel
theorem d_Mo_asks_64 : decode b_Mo_asks 64 = .ok (.getfield 143, 3) := by decide +kernel
theorem d_Mo_asks_67 : decode b_Mo_asks 67 = .ok (.iconst 0, 1) := by decide +kernel
theorem d_Mo_asks_68 : decode b_Mo_asks 68 = .ok (.bipush 9, 2) := by decide +kernel
theorem d_Mo_asks_70 : decode b_Mo_asks 70 = .ok (.invokestatic 60, 3) := by decide +kernel
theorem d_Mo_asks_73 : decode b_Mo_asks 73 = .ok (.ifCond .eq 10, 3) := by decide +kernel
theorem d_Mo_asks_76 : decode b_Mo_asks 76 = .ok (.aload_n 0, 1) := by decide +kernel
theorem d_Mo_asks_77 : decode b_Mo_asks 77 = .ok (.getfield 143, 3) := by decide +kernel
theorem d_Mo_asks_80 : decode b_Mo_asks 80 = .ok (.goto 5, 3) := by decide +kernel
theorem d_Mo_asks_83 : decode b_Mo_asks 83 = .ok (.bipush 10, 2) := by decide +kernel
theorem d_Mo_asks_85 : decode b_Mo_asks 85 = .ok (.invokevirtual 134, 3) := by decide +kernel
theorem d_Mo_asks_88 : decode b_Mo_asks 88 = .ok (.iconst 0, 1) := by decide +kernel
theorem d_Mo_asks_89 : decode b_Mo_asks 89 = .ok (.istore_n 1, 1) := by decide +kernel
theorem d_Mo_asks_90 : decode b_Mo_asks 90 = .ok (.iload_n 1, 1) := by decide +kernel
theorem d_Mo_asks_91 : decode b_Mo_asks 91 = .ok (.aload_n 0, 1) := by decide +kernel
theorem d_Mo_asks_92 : decode b_Mo_asks 92 = .ok (.getfield 128, 3) := by decide +kernel
theorem d_Mo_asks_95 : decode b_Mo_asks 95 = .ok (.if_icmp .ge 106, 3) := by decide +kernel
theorem d_Mo_asks_98 : decode b_Mo_asks 98 = .ok (.aload_n 0, 1) := by decide +kernel
theorem d_Mo_asks_99 : decode b_Mo_asks 99 = .ok (.getfield 38, 3) := by decide +kernel
theorem d_Mo_asks_102 : decode b_Mo_asks 102 = .ok (.iload_n 1, 1) := by decide +kernel
theorem d_Mo_asks_103 : decode b_Mo_asks 103 = .ok (.iaload, 1) := by decide +kernel
theorem d_Mo_asks_104 : decode b_Mo_asks 104 = .ok (.istore_n 2, 1) := by decide +kernel
theorem d_Mo_asks_105 : decode b_Mo_asks 105 = .ok (.iconst 0, 1) := by decide +kernel
theorem d_Mo_asks_106 : decode b_Mo_asks 106 = .ok (.istore_n 3, 1) := by decide +kernel
theorem d_Mo_asks_107 : decode b_Mo_asks 107 = .ok (.iload_n 3, 1) := by decide +kernel
theorem d_Mo_asks_108 : decode b_Mo_asks 108 = .ok (.aload_n 0, 1) := by decide +kernel
theorem d_Mo_asks_109 : decode b_Mo_asks 109 = .ok (.getfield 88, 3) := by decide +kernel
theorem d_Mo_asks_112 : decode b_Mo_asks 112 = .ok (.if_icmp .ge 83, 3) := by decide +kernel
theorem d_Mo_asks_115 : decode b_Mo_asks 115 = .ok (.iconst 0, 1) := by decide +kernel
theorem d_Mo_asks_116 : decode b_Mo_asks 116 = .ok (.istore 4, 2) := by decide +kernel
theorem d_Mo_asks_118 : decode b_Mo_asks 118 = .ok (.iload 4, 2) := by decide +kernel
theorem d_Mo_asks_120 : decode b_Mo_asks 120 = .ok (.aload_n 0, 1) := by decide +kernel
theorem d_Mo_asks_121 : decode b_Mo_asks 121 = .ok (.getfield 32, 3) := by decide +kernel
theorem d_Mo_asks_124 : decode b_Mo_asks 124 = .ok (.iload_n 3, 1) := by decide +kernel
theorem d_Mo_asks_125 : decode b_Mo_asks 125 = .ok (.iaload, 1) := by decide +kernel
theorem d_Mo_asks_126 : decode b_Mo_asks 126 = .ok (.if_icmp .ge 63, 3) := by decide +kernel
theorem d_Mo_asks_129 : decode b_Mo_asks 129 = .ok (.aload_n 0, 1) := by decide +kernel
theorem d_Mo_asks_130 : decode b_Mo_asks 130 = .ok (.getfield 23, 3) := by decide +kernel
theorem d_Mo_asks_133 : decode b_Mo_asks 133 = .ok (.iconst 4, 1) := by decide +kernel
theorem d_Mo_asks_134 : decode b_Mo_asks 134 = .ok (.iload_n 3, 1) := by decide +kernel
theorem d_Mo_asks_135 : decode b_Mo_asks 135 = .ok (.imul, 1) := by decide +kernel
theorem d_Mo_asks_136 : decode b_Mo_asks 136 = .ok (.iaload, 1) := by decide +kernel
theorem d_Mo_asks_137 : decode b_Mo_asks 137 = .ok (.iload_n 2, 1) := by decide +kernel
theorem d_Mo_asks_138 : decode b_Mo_asks 138 = .ok (.bipush 121, 2) := by decide +kernel
theorem d_Mo_asks_140 : decode b_Mo_asks 140 = .ok (.idiv, 1) := by decide +kernel
theorem d_Mo_asks_141 : decode b_Mo_asks 141 = .ok (.if_icmp .ne 48, 3) := by decide +kernel
theorem d_Mo_asks_144 : decode b_Mo_asks 144 = .ok (.aload_n 0, 1) := by decide +kernel
theorem d_Mo_asks_145 : decode b_Mo_asks 145 = .ok (.getfield 13, 3) := by decide +kernel
theorem d_Mo_asks_148 : decode b_Mo_asks 148 = .ok (.aload_n 0, 1) := by decide +kernel
theorem d_Mo_asks_149 : decode b_Mo_asks 149 = .ok (.getfield 23, 3) := by decide +kernel
theorem d_Mo_asks_152 : decode b_Mo_asks 152 = .ok (.iconst 4, 1) := by decide +kernel
theorem d_Mo_asks_153 : decode b_Mo_asks 153 = .ok (.iload_n 3, 1) := by decide +kernel
theorem d_Mo_asks_154 : decode b_Mo_asks 154 = .ok (.imul, 1) := by decide +kernel
theorem d_Mo_asks_155 : decode b_Mo_asks 155 = .ok (.iconst 1, 1) := by decide +kernel
theorem d_Mo_asks_156 : decode b_Mo_asks 156 = .ok (.iadd, 1) := by decide +kernel
theorem d_Mo_asks_157 : decode b_Mo_asks 157 = .ok (.iload 4, 2) := by decide +kernel
theorem d_Mo_asks_159 : decode b_Mo_asks 159 = .ok (.iadd, 1) := by decide +kernel
theorem d_Mo_asks_160 : decode b_Mo_asks 160 = .ok (.iaload, 1) := by decide +kernel
theorem d_Mo_asks_161 : decode b_Mo_asks 161 = .ok (.baload, 1) := by decide +kernel
theorem d_Mo_asks_162 : decode b_Mo_asks 162 = .ok (.ifCond .eq 21, 3) := by decide +kernel
theorem d_Mo_asks_165 : decode b_Mo_asks 165 = .ok (.aload_n 0, 1) := by decide +kernel
theorem d_Mo_asks_166 : decode b_Mo_asks 166 = .ok (.iload_n 3, 1) := by decide +kernel
theorem d_Mo_asks_167 : decode b_Mo_asks 167 = .ok (.iload 4, 2) := by decide +kernel
theorem d_Mo_asks_169 : decode b_Mo_asks 169 = .ok (.iload_n 2, 1) := by decide +kernel
theorem d_Mo_asks_170 : decode b_Mo_asks 170 = .ok (.bipush 11, 2) := by decide +kernel
theorem d_Mo_asks_172 : decode b_Mo_asks 172 = .ok (.idiv, 1) := by decide +kernel
theorem d_Mo_asks_173 : decode b_Mo_asks 173 = .ok (.bipush 11, 2) := by decide +kernel
theorem d_Mo_asks_175 : decode b_Mo_asks 175 = .ok (.irem, 1) := by decide +kernel
theorem d_Mo_asks_176 : decode b_Mo_asks 176 = .ok (.iload_n 2, 1) := by decide +kernel
theorem d_Mo_asks_177 : decode b_Mo_asks 177 = .ok (.bipush 11, 2) := by decide +kernel
theorem d_Mo_asks_179 : decode b_Mo_asks 179 = .ok (.irem, 1) := by decide +kernel
theorem d_Mo_asks_180 : decode b_Mo_asks 180 = .ok (.invokevirtual 146, 3) := by decide +kernel
theorem d_Mo_asks_183 : decode b_Mo_asks 183 = .ok (.iinc 4 1, 3) := by decide +kernel
theorem d_Mo_asks_186 : decode b_Mo_asks 186 = .ok (.goto (-68), 3) := by decide +kernel
theorem d_Mo_asks_189 : decode b_Mo_asks 189 = .ok (.iinc 3 1, 3) := by decide +kernel
theorem d_Mo_asks_192 : decode b_Mo_asks 192 = .ok (.goto (-85), 3) := by decide +kernel
theorem d_Mo_asks_195 : decode b_Mo_asks 195 = .ok (.iinc 1 1, 3) := by decide +kernel
theorem d_Mo_asks_198 : decode b_Mo_asks 198 = .ok (.goto (-108), 3) := by decide +kernel
theorem d_Mo_asks_201 : decode b_Mo_asks 201 = .ok (.return_, 1) := by decide +kernel
abbrev b_Mo_isBound : ByteArray := prog_6_method_29_code
def y_Mo_isBound : MethodName := ⟨"QuestionDeskModel", "isBound", "(IIII)Z"⟩
theorem d_Mo_isBound_0 : decode b_Mo_isBound 0 = .ok (.iconst 4, 1) := by decide +kernel
theorem d_Mo_isBound_1 : decode b_Mo_isBound 1 = .ok (.iload_n 2, 1) := by decide +kernel
theorem d_Mo_isBound_2 : decode b_Mo_isBound 2 = .ok (.imul, 1) := by decide +kernel
theorem d_Mo_isBound_3 : decode b_Mo_isBound 3 = .ok (.istore 5, 2) := by decide +kernel
theorem d_Mo_isBound_5 : decode b_Mo_isBound 5 = .ok (.iload_n 1, 1) := by decide +kernel
theorem d_Mo_isBound_6 : decode b_Mo_isBound 6 = .ok (.ifCond .lt 9, 3) := by decide +kernel
theorem d_Mo_isBound_9 : decode b_Mo_isBound 9 = .ok (.iload_n 1, 1) := by decide +kernel
theorem d_Mo_isBound_10 : decode b_Mo_isBound 10 = .ok (.bipush 10, 2) := by decide +kernel
theorem d_Mo_isBound_12 : decode b_Mo_isBound 12 = .ok (.if_icmp .lt 47, 3) := by decide +kernel
theorem d_Mo_isBound_15 : decode b_Mo_isBound 15 = .ok (.iload_n 1, 1) := by decide +kernel
theorem d_Mo_isBound_16 : decode b_Mo_isBound 16 = .ok (.bipush 10, 2) := by decide +kernel
theorem d_Mo_isBound_18 : decode b_Mo_isBound 18 = .ok (.if_icmp .lt 45, 3) := by decide +kernel
theorem d_Mo_isBound_21 : decode b_Mo_isBound 21 = .ok (.iload 4, 2) := by decide +kernel
theorem d_Mo_isBound_23 : decode b_Mo_isBound 23 = .ok (.iconst 1, 1) := by decide +kernel
theorem d_Mo_isBound_24 : decode b_Mo_isBound 24 = .ok (.iand, 1) := by decide +kernel
theorem d_Mo_isBound_25 : decode b_Mo_isBound 25 = .ok (.iconst 1, 1) := by decide +kernel
theorem d_Mo_isBound_26 : decode b_Mo_isBound 26 = .ok (.if_icmp .ne 14, 3) := by decide +kernel
theorem d_Mo_isBound_29 : decode b_Mo_isBound 29 = .ok (.aload_n 0, 1) := by decide +kernel
theorem d_Mo_isBound_30 : decode b_Mo_isBound 30 = .ok (.getfield 26, 3) := by decide +kernel
theorem d_Mo_isBound_33 : decode b_Mo_isBound 33 = .ok (.iload 5, 2) := by decide +kernel
theorem d_Mo_isBound_35 : decode b_Mo_isBound 35 = .ok (.iaload, 1) := by decide +kernel
theorem d_Mo_isBound_36 : decode b_Mo_isBound 36 = .ok (.iload_n 1, 1) := by decide +kernel
theorem d_Mo_isBound_37 : decode b_Mo_isBound 37 = .ok (.if_icmp .eq 22, 3) := by decide +kernel
theorem d_Mo_isBound_40 : decode b_Mo_isBound 40 = .ok (.iload 4, 2) := by decide +kernel
theorem d_Mo_isBound_42 : decode b_Mo_isBound 42 = .ok (.iconst 2, 1) := by decide +kernel
theorem d_Mo_isBound_43 : decode b_Mo_isBound 43 = .ok (.iand, 1) := by decide +kernel
theorem d_Mo_isBound_44 : decode b_Mo_isBound 44 = .ok (.iconst 2, 1) := by decide +kernel
theorem d_Mo_isBound_45 : decode b_Mo_isBound 45 = .ok (.if_icmp .ne 18, 3) := by decide +kernel
theorem d_Mo_isBound_48 : decode b_Mo_isBound 48 = .ok (.aload_n 0, 1) := by decide +kernel
theorem d_Mo_isBound_49 : decode b_Mo_isBound 49 = .ok (.getfield 29, 3) := by decide +kernel
theorem d_Mo_isBound_52 : decode b_Mo_isBound 52 = .ok (.iload 5, 2) := by decide +kernel
theorem d_Mo_isBound_54 : decode b_Mo_isBound 54 = .ok (.iaload, 1) := by decide +kernel
theorem d_Mo_isBound_55 : decode b_Mo_isBound 55 = .ok (.iload_n 1, 1) := by decide +kernel
theorem d_Mo_isBound_56 : decode b_Mo_isBound 56 = .ok (.if_icmp .ne 7, 3) := by decide +kernel
theorem d_Mo_isBound_59 : decode b_Mo_isBound 59 = .ok (.iconst 1, 1) := by decide +kernel
theorem d_Mo_isBound_60 : decode b_Mo_isBound 60 = .ok (.goto 4, 3) := by decide +kernel
theorem d_Mo_isBound_63 : decode b_Mo_isBound 63 = .ok (.iconst 0, 1) := by decide +kernel
theorem d_Mo_isBound_64 : decode b_Mo_isBound 64 = .ok (.istore 6, 2) := by decide +kernel
theorem d_Mo_isBound_66 : decode b_Mo_isBound 66 = .ok (.iload 5, 2) := by decide +kernel
theorem d_Mo_isBound_68 : decode b_Mo_isBound 68 = .ok (.iconst 1, 1) := by decide +kernel
theorem d_Mo_isBound_69 : decode b_Mo_isBound 69 = .ok (.iadd, 1) := by decide +kernel
theorem d_Mo_isBound_70 : decode b_Mo_isBound 70 = .ok (.istore 7, 2) := by decide +kernel
theorem d_Mo_isBound_72 : decode b_Mo_isBound 72 = .ok (.iload 7, 2) := by decide +kernel
theorem d_Mo_isBound_74 : decode b_Mo_isBound 74 = .ok (.iload 5, 2) := by decide +kernel
theorem d_Mo_isBound_76 : decode b_Mo_isBound 76 = .ok (.iload_n 3, 1) := by decide +kernel
theorem d_Mo_isBound_77 : decode b_Mo_isBound 77 = .ok (.iadd, 1) := by decide +kernel
theorem d_Mo_isBound_78 : decode b_Mo_isBound 78 = .ok (.if_icmp .gt 49, 3) := by decide +kernel
theorem d_Mo_isBound_81 : decode b_Mo_isBound 81 = .ok (.iload 6, 2) := by decide +kernel
theorem d_Mo_isBound_83 : decode b_Mo_isBound 83 = .ok (.ifCond .ne 31, 3) := by decide +kernel
theorem d_Mo_isBound_86 : decode b_Mo_isBound 86 = .ok (.iload_n 1, 1) := by decide +kernel
theorem d_Mo_isBound_87 : decode b_Mo_isBound 87 = .ok (.bipush 10, 2) := by decide +kernel
theorem d_Mo_isBound_89 : decode b_Mo_isBound 89 = .ok (.if_icmp .lt 29, 3) := by decide +kernel
theorem d_Mo_isBound_92 : decode b_Mo_isBound 92 = .ok (.aload_n 0, 1) := by decide +kernel
theorem d_Mo_isBound_93 : decode b_Mo_isBound 93 = .ok (.getfield 26, 3) := by decide +kernel
theorem d_Mo_isBound_96 : decode b_Mo_isBound 96 = .ok (.iload 7, 2) := by decide +kernel
theorem d_Mo_isBound_98 : decode b_Mo_isBound 98 = .ok (.iaload, 1) := by decide +kernel
theorem d_Mo_isBound_99 : decode b_Mo_isBound 99 = .ok (.iload_n 1, 1) := by decide +kernel
theorem d_Mo_isBound_100 : decode b_Mo_isBound 100 = .ok (.if_icmp .eq 14, 3) := by decide +kernel
theorem d_Mo_isBound_103 : decode b_Mo_isBound 103 = .ok (.aload_n 0, 1) := by decide +kernel
theorem d_Mo_isBound_104 : decode b_Mo_isBound 104 = .ok (.getfield 29, 3) := by decide +kernel
theorem d_Mo_isBound_107 : decode b_Mo_isBound 107 = .ok (.iload 7, 2) := by decide +kernel
theorem d_Mo_isBound_109 : decode b_Mo_isBound 109 = .ok (.iaload, 1) := by decide +kernel
theorem d_Mo_isBound_110 : decode b_Mo_isBound 110 = .ok (.iload_n 1, 1) := by decide +kernel
theorem d_Mo_isBound_111 : decode b_Mo_isBound 111 = .ok (.if_icmp .ne 7, 3) := by decide +kernel
theorem d_Mo_isBound_114 : decode b_Mo_isBound 114 = .ok (.iconst 1, 1) := by decide +kernel
theorem d_Mo_isBound_115 : decode b_Mo_isBound 115 = .ok (.goto 4, 3) := by decide +kernel
theorem d_Mo_isBound_118 : decode b_Mo_isBound 118 = .ok (.iconst 0, 1) := by decide +kernel
theorem d_Mo_isBound_119 : decode b_Mo_isBound 119 = .ok (.istore 6, 2) := by decide +kernel
theorem d_Mo_isBound_121 : decode b_Mo_isBound 121 = .ok (.iinc 7 1, 3) := by decide +kernel
theorem d_Mo_isBound_124 : decode b_Mo_isBound 124 = .ok (.goto (-52), 3) := by decide +kernel
theorem d_Mo_isBound_127 : decode b_Mo_isBound 127 = .ok (.iload 6, 2) := by decide +kernel
theorem d_Mo_isBound_129 : decode b_Mo_isBound 129 = .ok (.ireturn, 1) := by decide +kernel
abbrev b_Mo_rewrites : ByteArray := prog_6_method_30_code
def y_Mo_rewrites : MethodName := ⟨"QuestionDeskModel", "rewrites", "()V"⟩
theorem d_Mo_rewrites_0 : decode b_Mo_rewrites 0 = .ok (.iconst 0, 1) := by decide +kernel
theorem d_Mo_rewrites_1 : decode b_Mo_rewrites 1 = .ok (.istore_n 1, 1) := by decide +kernel
theorem d_Mo_rewrites_2 : decode b_Mo_rewrites 2 = .ok (.iload_n 1, 1) := by decide +kernel
theorem d_Mo_rewrites_3 : decode b_Mo_rewrites 3 = .ok (.bipush 40, 2) := by decide +kernel
theorem d_Mo_rewrites_5 : decode b_Mo_rewrites 5 = .ok (.if_icmp .ge 16, 3) := by decide +kernel
theorem d_Mo_rewrites_8 : decode b_Mo_rewrites 8 = .ok (.aload_n 0, 1) := by decide +kernel
theorem d_Mo_rewrites_9 : decode b_Mo_rewrites 9 = .ok (.getfield 41, 3) := by decide +kernel
theorem d_Mo_rewrites_12 : decode b_Mo_rewrites 12 = .ok (.iload_n 1, 1) := by decide +kernel
theorem d_Mo_rewrites_13 : decode b_Mo_rewrites 13 = .ok (.iconst 0, 1) := by decide +kernel
theorem d_Mo_rewrites_14 : decode b_Mo_rewrites 14 = .ok (.bastore, 1) := by decide +kernel
theorem d_Mo_rewrites_15 : decode b_Mo_rewrites 15 = .ok (.iinc 1 1, 3) := by decide +kernel
theorem d_Mo_rewrites_18 : decode b_Mo_rewrites 18 = .ok (.goto (-16), 3) := by decide +kernel
theorem d_Mo_rewrites_21 : decode b_Mo_rewrites 21 = .ok (.aload_n 0, 1) := by decide +kernel
theorem d_Mo_rewrites_22 : decode b_Mo_rewrites 22 = .ok (.iconst 0, 1) := by decide +kernel
theorem d_Mo_rewrites_23 : decode b_Mo_rewrites 23 = .ok (.putfield 149, 3) := by decide +kernel
theorem d_Mo_rewrites_26 : decode b_Mo_rewrites 26 = .ok (.aload_n 0, 1) := by decide +kernel
theorem d_Mo_rewrites_27 : decode b_Mo_rewrites 27 = .ok (.getfield 13, 3) := by decide +kernel
theorem d_Mo_rewrites_30 : decode b_Mo_rewrites 30 = .ok (.aload_n 0, 1) := by decide +kernel
theorem d_Mo_rewrites_31 : decode b_Mo_rewrites 31 = .ok (.getfield 137, 3) := by decide +kernel
theorem d_Mo_rewrites_34 : decode b_Mo_rewrites 34 = .ok (.baload, 1) := by decide +kernel
theorem d_Mo_rewrites_35 : decode b_Mo_rewrites 35 = .ok (.ifCond .ne 4, 3) := by decide +kernel
theorem d_Mo_rewrites_38 : decode b_Mo_rewrites 38 = .ok (.return_, 1) := by decide +kernel
theorem d_Mo_rewrites_39 : decode b_Mo_rewrites 39 = .ok (.aload_n 0, 1) := by decide +kernel
theorem d_Mo_rewrites_40 : decode b_Mo_rewrites 40 = .ok (.getfield 41, 3) := by decide +kernel
theorem d_Mo_rewrites_43 : decode b_Mo_rewrites 43 = .ok (.iconst 4, 1) := by decide +kernel
theorem d_Mo_rewrites_44 : decode b_Mo_rewrites 44 = .ok (.aload_n 0, 1) := by decide +kernel
theorem d_Mo_rewrites_45 : decode b_Mo_rewrites 45 = .ok (.getfield 137, 3) := by decide +kernel
theorem d_Mo_rewrites_48 : decode b_Mo_rewrites 48 = .ok (.imul, 1) := by decide +kernel
theorem d_Mo_rewrites_49 : decode b_Mo_rewrites 49 = .ok (.aload_n 0, 1) := by decide +kernel
theorem d_Mo_rewrites_50 : decode b_Mo_rewrites 50 = .ok (.getfield 140, 3) := by decide +kernel
theorem d_Mo_rewrites_53 : decode b_Mo_rewrites 53 = .ok (.bipush 10, 2) := by decide +kernel
theorem d_Mo_rewrites_55 : decode b_Mo_rewrites 55 = .ok (.if_icmp .ge 7, 3) := by decide +kernel
theorem d_Mo_rewrites_58 : decode b_Mo_rewrites 58 = .ok (.iconst 1, 1) := by decide +kernel
theorem d_Mo_rewrites_59 : decode b_Mo_rewrites 59 = .ok (.goto 4, 3) := by decide +kernel
theorem d_Mo_rewrites_62 : decode b_Mo_rewrites 62 = .ok (.iconst 0, 1) := by decide +kernel
theorem d_Mo_rewrites_63 : decode b_Mo_rewrites 63 = .ok (.iadd, 1) := by decide +kernel
theorem d_Mo_rewrites_64 : decode b_Mo_rewrites 64 = .ok (.aload_n 0, 1) := by decide +kernel
theorem d_Mo_rewrites_65 : decode b_Mo_rewrites 65 = .ok (.getfield 143, 3) := by decide +kernel
theorem d_Mo_rewrites_68 : decode b_Mo_rewrites 68 = .ok (.iconst 0, 1) := by decide +kernel
theorem d_Mo_rewrites_69 : decode b_Mo_rewrites 69 = .ok (.bipush 9, 2) := by decide +kernel
theorem d_Mo_rewrites_71 : decode b_Mo_rewrites 71 = .ok (.invokestatic 60, 3) := by decide +kernel
theorem d_Mo_rewrites_74 : decode b_Mo_rewrites 74 = .ok (.ifCond .eq 7, 3) := by decide +kernel
theorem d_Mo_rewrites_77 : decode b_Mo_rewrites 77 = .ok (.iconst 2, 1) := by decide +kernel
theorem d_Mo_rewrites_78 : decode b_Mo_rewrites 78 = .ok (.goto 4, 3) := by decide +kernel
theorem d_Mo_rewrites_81 : decode b_Mo_rewrites 81 = .ok (.iconst 0, 1) := by decide +kernel
theorem d_Mo_rewrites_82 : decode b_Mo_rewrites 82 = .ok (.iadd, 1) := by decide +kernel
theorem d_Mo_rewrites_83 : decode b_Mo_rewrites 83 = .ok (.iconst 1, 1) := by decide +kernel
theorem d_Mo_rewrites_84 : decode b_Mo_rewrites 84 = .ok (.bastore, 1) := by decide +kernel
theorem d_Mo_rewrites_85 : decode b_Mo_rewrites 85 = .ok (.iconst 1, 1) := by decide +kernel
theorem d_Mo_rewrites_86 : decode b_Mo_rewrites 86 = .ok (.istore_n 1, 1) := by decide +kernel
theorem d_Mo_rewrites_87 : decode b_Mo_rewrites 87 = .ok (.iload_n 1, 1) := by decide +kernel
theorem d_Mo_rewrites_88 : decode b_Mo_rewrites 88 = .ok (.ifCond .eq 225, 3) := by decide +kernel
theorem d_Mo_rewrites_91 : decode b_Mo_rewrites 91 = .ok (.iconst 0, 1) := by decide +kernel
theorem d_Mo_rewrites_92 : decode b_Mo_rewrites 92 = .ok (.istore_n 1, 1) := by decide +kernel
theorem d_Mo_rewrites_93 : decode b_Mo_rewrites 93 = .ok (.aload_n 0, 1) := by decide +kernel
theorem d_Mo_rewrites_94 : decode b_Mo_rewrites 94 = .ok (.iconst 0, 1) := by decide +kernel
theorem d_Mo_rewrites_95 : decode b_Mo_rewrites 95 = .ok (.putfield 149, 3) := by decide +kernel
theorem d_Mo_rewrites_98 : decode b_Mo_rewrites 98 = .ok (.iconst 0, 1) := by decide +kernel
theorem d_Mo_rewrites_99 : decode b_Mo_rewrites 99 = .ok (.istore_n 2, 1) := by decide +kernel
theorem d_Mo_rewrites_100 : decode b_Mo_rewrites 100 = .ok (.iload_n 2, 1) := by decide +kernel
theorem d_Mo_rewrites_101 : decode b_Mo_rewrites 101 = .ok (.bipush 40, 2) := by decide +kernel
theorem d_Mo_rewrites_103 : decode b_Mo_rewrites 103 = .ok (.if_icmp .ge 207, 3) := by decide +kernel
theorem d_Mo_rewrites_106 : decode b_Mo_rewrites 106 = .ok (.iconst 0, 1) := by decide +kernel
theorem d_Mo_rewrites_107 : decode b_Mo_rewrites 107 = .ok (.istore_n 3, 1) := by decide +kernel
theorem d_Mo_rewrites_108 : decode b_Mo_rewrites 108 = .ok (.iload_n 3, 1) := by decide +kernel
theorem d_Mo_rewrites_109 : decode b_Mo_rewrites 109 = .ok (.aload_n 0, 1) := by decide +kernel
theorem d_Mo_rewrites_110 : decode b_Mo_rewrites 110 = .ok (.getfield 88, 3) := by decide +kernel
theorem d_Mo_rewrites_113 : decode b_Mo_rewrites 113 = .ok (.if_icmp .ge 191, 3) := by decide +kernel
theorem d_Mo_rewrites_116 : decode b_Mo_rewrites 116 = .ok (.aload_n 0, 1) := by decide +kernel
theorem d_Mo_rewrites_117 : decode b_Mo_rewrites 117 = .ok (.getfield 41, 3) := by decide +kernel
theorem d_Mo_rewrites_120 : decode b_Mo_rewrites 120 = .ok (.iload_n 2, 1) := by decide +kernel
theorem d_Mo_rewrites_121 : decode b_Mo_rewrites 121 = .ok (.baload, 1) := by decide +kernel
theorem d_Mo_rewrites_122 : decode b_Mo_rewrites 122 = .ok (.ifCond .eq 182, 3) := by decide +kernel
theorem d_Mo_rewrites_125 : decode b_Mo_rewrites 125 = .ok (.aload_n 0, 1) := by decide +kernel
theorem d_Mo_rewrites_126 : decode b_Mo_rewrites 126 = .ok (.getfield 23, 3) := by decide +kernel
theorem d_Mo_rewrites_129 : decode b_Mo_rewrites 129 = .ok (.iconst 4, 1) := by decide +kernel
theorem d_Mo_rewrites_130 : decode b_Mo_rewrites 130 = .ok (.iload_n 3, 1) := by decide +kernel
theorem d_Mo_rewrites_131 : decode b_Mo_rewrites 131 = .ok (.imul, 1) := by decide +kernel
theorem d_Mo_rewrites_132 : decode b_Mo_rewrites 132 = .ok (.iaload, 1) := by decide +kernel
theorem d_Mo_rewrites_133 : decode b_Mo_rewrites 133 = .ok (.iload_n 2, 1) := by decide +kernel
theorem d_Mo_rewrites_134 : decode b_Mo_rewrites 134 = .ok (.iconst 4, 1) := by decide +kernel
theorem d_Mo_rewrites_135 : decode b_Mo_rewrites 135 = .ok (.idiv, 1) := by decide +kernel
theorem d_Mo_rewrites_136 : decode b_Mo_rewrites 136 = .ok (.if_icmp .eq 6, 3) := by decide +kernel
theorem d_Mo_rewrites_139 : decode b_Mo_rewrites 139 = .ok (.goto 159, 3) := by decide +kernel
theorem d_Mo_rewrites_142 : decode b_Mo_rewrites 142 = .ok (.aload_n 0, 1) := by decide +kernel
theorem d_Mo_rewrites_143 : decode b_Mo_rewrites 143 = .ok (.dup, 1) := by decide +kernel
theorem d_Mo_rewrites_144 : decode b_Mo_rewrites 144 = .ok (.getfield 149, 3) := by decide +kernel
theorem d_Mo_rewrites_147 : decode b_Mo_rewrites 147 = .ok (.iconst 1, 1) := by decide +kernel
theorem d_Mo_rewrites_148 : decode b_Mo_rewrites 148 = .ok (.iadd, 1) := by decide +kernel
theorem d_Mo_rewrites_149 : decode b_Mo_rewrites 149 = .ok (.putfield 149, 3) := by decide +kernel
theorem d_Mo_rewrites_152 : decode b_Mo_rewrites 152 = .ok (.iconst 0, 1) := by decide +kernel
theorem d_Mo_rewrites_153 : decode b_Mo_rewrites 153 = .ok (.istore 4, 2) := by decide +kernel
theorem d_Mo_rewrites_155 : decode b_Mo_rewrites 155 = .ok (.iload 4, 2) := by decide +kernel
theorem d_Mo_rewrites_157 : decode b_Mo_rewrites 157 = .ok (.aload_n 0, 1) := by decide +kernel
theorem d_Mo_rewrites_158 : decode b_Mo_rewrites 158 = .ok (.getfield 32, 3) := by decide +kernel
theorem d_Mo_rewrites_161 : decode b_Mo_rewrites 161 = .ok (.iload_n 3, 1) := by decide +kernel
theorem d_Mo_rewrites_162 : decode b_Mo_rewrites 162 = .ok (.iaload, 1) := by decide +kernel
theorem d_Mo_rewrites_163 : decode b_Mo_rewrites 163 = .ok (.if_icmp .ge 135, 3) := by decide +kernel
theorem d_Mo_rewrites_166 : decode b_Mo_rewrites 166 = .ok (.iconst 4, 1) := by decide +kernel
theorem d_Mo_rewrites_167 : decode b_Mo_rewrites 167 = .ok (.iload_n 3, 1) := by decide +kernel
theorem d_Mo_rewrites_168 : decode b_Mo_rewrites 168 = .ok (.imul, 1) := by decide +kernel
theorem d_Mo_rewrites_169 : decode b_Mo_rewrites 169 = .ok (.iconst 1, 1) := by decide +kernel
theorem d_Mo_rewrites_170 : decode b_Mo_rewrites 170 = .ok (.iadd, 1) := by decide +kernel
theorem d_Mo_rewrites_171 : decode b_Mo_rewrites 171 = .ok (.iload 4, 2) := by decide +kernel
theorem d_Mo_rewrites_173 : decode b_Mo_rewrites 173 = .ok (.iadd, 1) := by decide +kernel
theorem d_Mo_rewrites_174 : decode b_Mo_rewrites 174 = .ok (.istore 5, 2) := by decide +kernel
theorem d_Mo_rewrites_176 : decode b_Mo_rewrites 176 = .ok (.aload_n 0, 1) := by decide +kernel
theorem d_Mo_rewrites_177 : decode b_Mo_rewrites 177 = .ok (.getfield 13, 3) := by decide +kernel
theorem d_Mo_rewrites_180 : decode b_Mo_rewrites 180 = .ok (.aload_n 0, 1) := by decide +kernel
theorem d_Mo_rewrites_181 : decode b_Mo_rewrites 181 = .ok (.getfield 23, 3) := by decide +kernel
theorem d_Mo_rewrites_184 : decode b_Mo_rewrites 184 = .ok (.iload 5, 2) := by decide +kernel
theorem d_Mo_rewrites_186 : decode b_Mo_rewrites 186 = .ok (.iaload, 1) := by decide +kernel
theorem d_Mo_rewrites_187 : decode b_Mo_rewrites 187 = .ok (.baload, 1) := by decide +kernel
theorem d_Mo_rewrites_188 : decode b_Mo_rewrites 188 = .ok (.ifCond .eq 104, 3) := by decide +kernel
theorem d_Mo_rewrites_191 : decode b_Mo_rewrites 191 = .ok (.aload_n 0, 1) := by decide +kernel
theorem d_Mo_rewrites_192 : decode b_Mo_rewrites 192 = .ok (.dup, 1) := by decide +kernel
theorem d_Mo_rewrites_193 : decode b_Mo_rewrites 193 = .ok (.getfield 149, 3) := by decide +kernel
theorem d_Mo_rewrites_196 : decode b_Mo_rewrites 196 = .ok (.iconst 1, 1) := by decide +kernel
theorem d_Mo_rewrites_197 : decode b_Mo_rewrites 197 = .ok (.iadd, 1) := by decide +kernel
theorem d_Mo_rewrites_198 : decode b_Mo_rewrites 198 = .ok (.putfield 149, 3) := by decide +kernel
theorem d_Mo_rewrites_201 : decode b_Mo_rewrites 201 = .ok (.iconst 4, 1) := by decide +kernel
theorem d_Mo_rewrites_202 : decode b_Mo_rewrites 202 = .ok (.aload_n 0, 1) := by decide +kernel
theorem d_Mo_rewrites_203 : decode b_Mo_rewrites 203 = .ok (.getfield 23, 3) := by decide +kernel
theorem d_Mo_rewrites_206 : decode b_Mo_rewrites 206 = .ok (.iload 5, 2) := by decide +kernel
theorem d_Mo_rewrites_208 : decode b_Mo_rewrites 208 = .ok (.iaload, 1) := by decide +kernel
theorem d_Mo_rewrites_209 : decode b_Mo_rewrites 209 = .ok (.imul, 1) := by decide +kernel
theorem d_Mo_rewrites_210 : decode b_Mo_rewrites 210 = .ok (.aload_n 0, 1) := by decide +kernel
theorem d_Mo_rewrites_211 : decode b_Mo_rewrites 211 = .ok (.aload_n 0, 1) := by decide +kernel
theorem d_Mo_rewrites_212 : decode b_Mo_rewrites 212 = .ok (.getfield 26, 3) := by decide +kernel
theorem d_Mo_rewrites_215 : decode b_Mo_rewrites 215 = .ok (.iload 5, 2) := by decide +kernel
theorem d_Mo_rewrites_217 : decode b_Mo_rewrites 217 = .ok (.iaload, 1) := by decide +kernel
theorem d_Mo_rewrites_218 : decode b_Mo_rewrites 218 = .ok (.iload_n 3, 1) := by decide +kernel
theorem d_Mo_rewrites_219 : decode b_Mo_rewrites 219 = .ok (.iload 4, 2) := by decide +kernel
theorem d_Mo_rewrites_221 : decode b_Mo_rewrites 221 = .ok (.iload_n 2, 1) := by decide +kernel
theorem d_Mo_rewrites_222 : decode b_Mo_rewrites 222 = .ok (.iconst 4, 1) := by decide +kernel
theorem d_Mo_rewrites_223 : decode b_Mo_rewrites 223 = .ok (.irem, 1) := by decide +kernel
theorem d_Mo_rewrites_224 : decode b_Mo_rewrites 224 = .ok (.invokevirtual 152, 3) := by decide +kernel
theorem d_Mo_rewrites_227 : decode b_Mo_rewrites 227 = .ok (.ifCond .eq 7, 3) := by decide +kernel
theorem d_Mo_rewrites_230 : decode b_Mo_rewrites 230 = .ok (.iconst 1, 1) := by decide +kernel
theorem d_Mo_rewrites_231 : decode b_Mo_rewrites 231 = .ok (.goto 4, 3) := by decide +kernel
theorem d_Mo_rewrites_234 : decode b_Mo_rewrites 234 = .ok (.iconst 0, 1) := by decide +kernel
theorem d_Mo_rewrites_235 : decode b_Mo_rewrites 235 = .ok (.iadd, 1) := by decide +kernel
theorem d_Mo_rewrites_236 : decode b_Mo_rewrites 236 = .ok (.aload_n 0, 1) := by decide +kernel
theorem d_Mo_rewrites_237 : decode b_Mo_rewrites 237 = .ok (.aload_n 0, 1) := by decide +kernel
theorem d_Mo_rewrites_238 : decode b_Mo_rewrites 238 = .ok (.getfield 29, 3) := by decide +kernel
theorem d_Mo_rewrites_241 : decode b_Mo_rewrites 241 = .ok (.iload 5, 2) := by decide +kernel
theorem d_Mo_rewrites_243 : decode b_Mo_rewrites 243 = .ok (.iaload, 1) := by decide +kernel
theorem d_Mo_rewrites_244 : decode b_Mo_rewrites 244 = .ok (.iload_n 3, 1) := by decide +kernel
theorem d_Mo_rewrites_245 : decode b_Mo_rewrites 245 = .ok (.iload 4, 2) := by decide +kernel
theorem d_Mo_rewrites_247 : decode b_Mo_rewrites 247 = .ok (.iload_n 2, 1) := by decide +kernel
theorem d_Mo_rewrites_248 : decode b_Mo_rewrites 248 = .ok (.iconst 4, 1) := by decide +kernel
theorem d_Mo_rewrites_249 : decode b_Mo_rewrites 249 = .ok (.irem, 1) := by decide +kernel
theorem d_Mo_rewrites_250 : decode b_Mo_rewrites 250 = .ok (.invokevirtual 152, 3) := by decide +kernel
theorem d_Mo_rewrites_253 : decode b_Mo_rewrites 253 = .ok (.ifCond .eq 7, 3) := by decide +kernel
theorem d_Mo_rewrites_256 : decode b_Mo_rewrites 256 = .ok (.iconst 2, 1) := by decide +kernel
theorem d_Mo_rewrites_257 : decode b_Mo_rewrites 257 = .ok (.goto 4, 3) := by decide +kernel
theorem d_Mo_rewrites_260 : decode b_Mo_rewrites 260 = .ok (.iconst 0, 1) := by decide +kernel
theorem d_Mo_rewrites_261 : decode b_Mo_rewrites 261 = .ok (.iadd, 1) := by decide +kernel
theorem d_Mo_rewrites_262 : decode b_Mo_rewrites 262 = .ok (.istore 6, 2) := by decide +kernel
theorem d_Mo_rewrites_264 : decode b_Mo_rewrites 264 = .ok (.iload_n 1, 1) := by decide +kernel
theorem d_Mo_rewrites_265 : decode b_Mo_rewrites 265 = .ok (.ifCond .ne 13, 3) := by decide +kernel
theorem d_Mo_rewrites_268 : decode b_Mo_rewrites 268 = .ok (.aload_n 0, 1) := by decide +kernel
theorem d_Mo_rewrites_269 : decode b_Mo_rewrites 269 = .ok (.getfield 41, 3) := by decide +kernel
theorem d_Mo_rewrites_272 : decode b_Mo_rewrites 272 = .ok (.iload 6, 2) := by decide +kernel
theorem d_Mo_rewrites_274 : decode b_Mo_rewrites 274 = .ok (.baload, 1) := by decide +kernel
theorem d_Mo_rewrites_275 : decode b_Mo_rewrites 275 = .ok (.ifCond .ne 7, 3) := by decide +kernel
theorem d_Mo_rewrites_278 : decode b_Mo_rewrites 278 = .ok (.iconst 1, 1) := by decide +kernel
theorem d_Mo_rewrites_279 : decode b_Mo_rewrites 279 = .ok (.goto 4, 3) := by decide +kernel
theorem d_Mo_rewrites_282 : decode b_Mo_rewrites 282 = .ok (.iconst 0, 1) := by decide +kernel
theorem d_Mo_rewrites_283 : decode b_Mo_rewrites 283 = .ok (.istore_n 1, 1) := by decide +kernel
theorem d_Mo_rewrites_284 : decode b_Mo_rewrites 284 = .ok (.aload_n 0, 1) := by decide +kernel
theorem d_Mo_rewrites_285 : decode b_Mo_rewrites 285 = .ok (.getfield 41, 3) := by decide +kernel
theorem d_Mo_rewrites_288 : decode b_Mo_rewrites 288 = .ok (.iload 6, 2) := by decide +kernel
theorem d_Mo_rewrites_290 : decode b_Mo_rewrites 290 = .ok (.iconst 1, 1) := by decide +kernel
theorem d_Mo_rewrites_291 : decode b_Mo_rewrites 291 = .ok (.bastore, 1) := by decide +kernel
theorem d_Mo_rewrites_292 : decode b_Mo_rewrites 292 = .ok (.iinc 4 1, 3) := by decide +kernel
theorem d_Mo_rewrites_295 : decode b_Mo_rewrites 295 = .ok (.goto (-140), 3) := by decide +kernel
theorem d_Mo_rewrites_298 : decode b_Mo_rewrites 298 = .ok (.iinc 3 1, 3) := by decide +kernel
theorem d_Mo_rewrites_301 : decode b_Mo_rewrites 301 = .ok (.goto (-193), 3) := by decide +kernel
theorem d_Mo_rewrites_304 : decode b_Mo_rewrites 304 = .ok (.iinc 2 1, 3) := by decide +kernel
theorem d_Mo_rewrites_307 : decode b_Mo_rewrites 307 = .ok (.goto (-207), 3) := by decide +kernel
theorem d_Mo_rewrites_310 : decode b_Mo_rewrites 310 = .ok (.goto (-223), 3) := by decide +kernel
theorem d_Mo_rewrites_313 : decode b_Mo_rewrites 313 = .ok (.return_, 1) := by decide +kernel
abbrev b_Mo_isAnswer : ByteArray := prog_6_method_31_code
def y_Mo_isAnswer : MethodName := ⟨"QuestionDeskModel", "isAnswer", "(I)Z"⟩
theorem d_Mo_isAnswer_0 : decode b_Mo_isAnswer 0 = .ok (.iload_n 1, 1) := by decide +kernel
theorem d_Mo_isAnswer_1 : decode b_Mo_isAnswer 1 = .ok (.bipush 10, 2) := by decide +kernel
theorem d_Mo_isAnswer_3 : decode b_Mo_isAnswer 3 = .ok (.idiv, 1) := by decide +kernel
theorem d_Mo_isAnswer_4 : decode b_Mo_isAnswer 4 = .ok (.bipush 10, 2) := by decide +kernel
theorem d_Mo_isAnswer_6 : decode b_Mo_isAnswer 6 = .ok (.irem, 1) := by decide +kernel
theorem d_Mo_isAnswer_7 : decode b_Mo_isAnswer 7 = .ok (.istore_n 2, 1) := by decide +kernel
theorem d_Mo_isAnswer_8 : decode b_Mo_isAnswer 8 = .ok (.iload_n 1, 1) := by decide +kernel
theorem d_Mo_isAnswer_9 : decode b_Mo_isAnswer 9 = .ok (.bipush 10, 2) := by decide +kernel
theorem d_Mo_isAnswer_11 : decode b_Mo_isAnswer 11 = .ok (.irem, 1) := by decide +kernel
theorem d_Mo_isAnswer_12 : decode b_Mo_isAnswer 12 = .ok (.istore_n 3, 1) := by decide +kernel
theorem d_Mo_isAnswer_13 : decode b_Mo_isAnswer 13 = .ok (.iload_n 1, 1) := by decide +kernel
theorem d_Mo_isAnswer_14 : decode b_Mo_isAnswer 14 = .ok (.bipush 100, 2) := by decide +kernel
theorem d_Mo_isAnswer_16 : decode b_Mo_isAnswer 16 = .ok (.idiv, 1) := by decide +kernel
theorem d_Mo_isAnswer_17 : decode b_Mo_isAnswer 17 = .ok (.aload_n 0, 1) := by decide +kernel
theorem d_Mo_isAnswer_18 : decode b_Mo_isAnswer 18 = .ok (.getfield 137, 3) := by decide +kernel
theorem d_Mo_isAnswer_21 : decode b_Mo_isAnswer 21 = .ok (.if_icmp .ne 50, 3) := by decide +kernel
theorem d_Mo_isAnswer_24 : decode b_Mo_isAnswer 24 = .ok (.aload_n 0, 1) := by decide +kernel
theorem d_Mo_isAnswer_25 : decode b_Mo_isAnswer 25 = .ok (.getfield 20, 3) := by decide +kernel
theorem d_Mo_isAnswer_28 : decode b_Mo_isAnswer 28 = .ok (.iload_n 1, 1) := by decide +kernel
theorem d_Mo_isAnswer_29 : decode b_Mo_isAnswer 29 = .ok (.baload, 1) := by decide +kernel
theorem d_Mo_isAnswer_30 : decode b_Mo_isAnswer 30 = .ok (.ifCond .eq 41, 3) := by decide +kernel
theorem d_Mo_isAnswer_33 : decode b_Mo_isAnswer 33 = .ok (.aload_n 0, 1) := by decide +kernel
theorem d_Mo_isAnswer_34 : decode b_Mo_isAnswer 34 = .ok (.getfield 140, 3) := by decide +kernel
theorem d_Mo_isAnswer_37 : decode b_Mo_isAnswer 37 = .ok (.bipush 10, 2) := by decide +kernel
theorem d_Mo_isAnswer_39 : decode b_Mo_isAnswer 39 = .ok (.if_icmp .ge 11, 3) := by decide +kernel
theorem d_Mo_isAnswer_42 : decode b_Mo_isAnswer 42 = .ok (.aload_n 0, 1) := by decide +kernel
theorem d_Mo_isAnswer_43 : decode b_Mo_isAnswer 43 = .ok (.getfield 140, 3) := by decide +kernel
theorem d_Mo_isAnswer_46 : decode b_Mo_isAnswer 46 = .ok (.iload_n 2, 1) := by decide +kernel
theorem d_Mo_isAnswer_47 : decode b_Mo_isAnswer 47 = .ok (.if_icmp .ne 24, 3) := by decide +kernel
theorem d_Mo_isAnswer_50 : decode b_Mo_isAnswer 50 = .ok (.aload_n 0, 1) := by decide +kernel
theorem d_Mo_isAnswer_51 : decode b_Mo_isAnswer 51 = .ok (.getfield 143, 3) := by decide +kernel
theorem d_Mo_isAnswer_54 : decode b_Mo_isAnswer 54 = .ok (.iconst 0, 1) := by decide +kernel
theorem d_Mo_isAnswer_55 : decode b_Mo_isAnswer 55 = .ok (.bipush 9, 2) := by decide +kernel
theorem d_Mo_isAnswer_57 : decode b_Mo_isAnswer 57 = .ok (.invokestatic 60, 3) := by decide +kernel
theorem d_Mo_isAnswer_60 : decode b_Mo_isAnswer 60 = .ok (.ifCond .eq 13, 3) := by decide +kernel
theorem d_Mo_isAnswer_63 : decode b_Mo_isAnswer 63 = .ok (.aload_n 0, 1) := by decide +kernel
theorem d_Mo_isAnswer_64 : decode b_Mo_isAnswer 64 = .ok (.getfield 143, 3) := by decide +kernel
theorem d_Mo_isAnswer_67 : decode b_Mo_isAnswer 67 = .ok (.iload_n 3, 1) := by decide +kernel
theorem d_Mo_isAnswer_68 : decode b_Mo_isAnswer 68 = .ok (.if_icmp .eq 5, 3) := by decide +kernel
theorem d_Mo_isAnswer_71 : decode b_Mo_isAnswer 71 = .ok (.iconst 0, 1) := by decide +kernel
theorem d_Mo_isAnswer_72 : decode b_Mo_isAnswer 72 = .ok (.ireturn, 1) := by decide +kernel
theorem d_Mo_isAnswer_73 : decode b_Mo_isAnswer 73 = .ok (.aload_n 0, 1) := by decide +kernel
theorem d_Mo_isAnswer_74 : decode b_Mo_isAnswer 74 = .ok (.getfield 140, 3) := by decide +kernel
theorem d_Mo_isAnswer_77 : decode b_Mo_isAnswer 77 = .ok (.bipush 10, 2) := by decide +kernel
theorem d_Mo_isAnswer_79 : decode b_Mo_isAnswer 79 = .ok (.if_icmp .lt 19, 3) := by decide +kernel
theorem d_Mo_isAnswer_82 : decode b_Mo_isAnswer 82 = .ok (.aload_n 0, 1) := by decide +kernel
theorem d_Mo_isAnswer_83 : decode b_Mo_isAnswer 83 = .ok (.getfield 140, 3) := by decide +kernel
theorem d_Mo_isAnswer_86 : decode b_Mo_isAnswer 86 = .ok (.aload_n 0, 1) := by decide +kernel
theorem d_Mo_isAnswer_87 : decode b_Mo_isAnswer 87 = .ok (.getfield 143, 3) := by decide +kernel
theorem d_Mo_isAnswer_90 : decode b_Mo_isAnswer 90 = .ok (.if_icmp .ne 8, 3) := by decide +kernel
theorem d_Mo_isAnswer_93 : decode b_Mo_isAnswer 93 = .ok (.iload_n 2, 1) := by decide +kernel
theorem d_Mo_isAnswer_94 : decode b_Mo_isAnswer 94 = .ok (.iload_n 3, 1) := by decide +kernel
theorem d_Mo_isAnswer_95 : decode b_Mo_isAnswer 95 = .ok (.if_icmp .ne 7, 3) := by decide +kernel
theorem d_Mo_isAnswer_98 : decode b_Mo_isAnswer 98 = .ok (.iconst 1, 1) := by decide +kernel
theorem d_Mo_isAnswer_99 : decode b_Mo_isAnswer 99 = .ok (.goto 4, 3) := by decide +kernel
theorem d_Mo_isAnswer_102 : decode b_Mo_isAnswer 102 = .ok (.iconst 0, 1) := by decide +kernel
theorem d_Mo_isAnswer_103 : decode b_Mo_isAnswer 103 = .ok (.ireturn, 1) := by decide +kernel
abbrev b_Mo_ask : ByteArray := prog_6_method_32_code
def y_Mo_ask : MethodName := ⟨"QuestionDeskModel", "ask", "(III)I"⟩
theorem d_Mo_ask_0 : decode b_Mo_ask 0 = .ok (.aload_n 0, 1) := by decide +kernel
theorem d_Mo_ask_1 : decode b_Mo_ask 1 = .ok (.aload_n 0, 1) := by decide +kernel
theorem d_Mo_ask_2 : decode b_Mo_ask 2 = .ok (.iload_n 1, 1) := by decide +kernel
theorem d_Mo_ask_3 : decode b_Mo_ask 3 = .ok (.invokevirtual 64, 3) := by decide +kernel
theorem d_Mo_ask_6 : decode b_Mo_ask 6 = .ok (.ifCond .eq 19, 3) := by decide +kernel
theorem d_Mo_ask_9 : decode b_Mo_ask 9 = .ok (.aload_n 0, 1) := by decide +kernel
theorem d_Mo_ask_10 : decode b_Mo_ask 10 = .ok (.iload_n 1, 1) := by decide +kernel
theorem d_Mo_ask_11 : decode b_Mo_ask 11 = .ok (.iload_n 2, 1) := by decide +kernel
theorem d_Mo_ask_12 : decode b_Mo_ask 12 = .ok (.iload_n 3, 1) := by decide +kernel
theorem d_Mo_ask_13 : decode b_Mo_ask 13 = .ok (.bipush 17, 2) := by decide +kernel
theorem d_Mo_ask_15 : decode b_Mo_ask 15 = .ok (.invokevirtual 68, 3) := by decide +kernel
theorem d_Mo_ask_18 : decode b_Mo_ask 18 = .ok (.ifCond .eq 7, 3) := by decide +kernel
theorem d_Mo_ask_21 : decode b_Mo_ask 21 = .ok (.iconst 0, 1) := by decide +kernel
theorem d_Mo_ask_22 : decode b_Mo_ask 22 = .ok (.goto 4, 3) := by decide +kernel
theorem d_Mo_ask_25 : decode b_Mo_ask 25 = .ok (.iconst 1, 1) := by decide +kernel
theorem d_Mo_ask_26 : decode b_Mo_ask 26 = .ok (.putfield 53, 3) := by decide +kernel
theorem d_Mo_ask_29 : decode b_Mo_ask 29 = .ok (.aload_n 0, 1) := by decide +kernel
theorem d_Mo_ask_30 : decode b_Mo_ask 30 = .ok (.getfield 53, 3) := by decide +kernel
theorem d_Mo_ask_33 : decode b_Mo_ask 33 = .ok (.ifCond .le 5, 3) := by decide +kernel
theorem d_Mo_ask_36 : decode b_Mo_ask 36 = .ok (.iconst 0, 1) := by decide +kernel
theorem d_Mo_ask_37 : decode b_Mo_ask 37 = .ok (.ireturn, 1) := by decide +kernel
theorem d_Mo_ask_38 : decode b_Mo_ask 38 = .ok (.aload_n 0, 1) := by decide +kernel
theorem d_Mo_ask_39 : decode b_Mo_ask 39 = .ok (.iconst 1, 1) := by decide +kernel
theorem d_Mo_ask_40 : decode b_Mo_ask 40 = .ok (.putfield 155, 3) := by decide +kernel
theorem d_Mo_ask_43 : decode b_Mo_ask 43 = .ok (.aload_n 0, 1) := by decide +kernel
theorem d_Mo_ask_44 : decode b_Mo_ask 44 = .ok (.iload_n 1, 1) := by decide +kernel
theorem d_Mo_ask_45 : decode b_Mo_ask 45 = .ok (.putfield 137, 3) := by decide +kernel
theorem d_Mo_ask_48 : decode b_Mo_ask 48 = .ok (.aload_n 0, 1) := by decide +kernel
theorem d_Mo_ask_49 : decode b_Mo_ask 49 = .ok (.iload_n 2, 1) := by decide +kernel
theorem d_Mo_ask_50 : decode b_Mo_ask 50 = .ok (.putfield 140, 3) := by decide +kernel
theorem d_Mo_ask_53 : decode b_Mo_ask 53 = .ok (.aload_n 0, 1) := by decide +kernel
theorem d_Mo_ask_54 : decode b_Mo_ask 54 = .ok (.iload_n 3, 1) := by decide +kernel
theorem d_Mo_ask_55 : decode b_Mo_ask 55 = .ok (.putfield 143, 3) := by decide +kernel
theorem d_Mo_ask_58 : decode b_Mo_ask 58 = .ok (.aload_n 0, 1) := by decide +kernel
theorem d_Mo_ask_59 : decode b_Mo_ask 59 = .ok (.aload_n 0, 1) := by decide +kernel
theorem d_Mo_ask_60 : decode b_Mo_ask 60 = .ok (.getfield 57, 3) := by decide +kernel
theorem d_Mo_ask_63 : decode b_Mo_ask 63 = .ok (.putfield 158, 3) := by decide +kernel
theorem d_Mo_ask_66 : decode b_Mo_ask 66 = .ok (.aload_n 0, 1) := by decide +kernel
theorem d_Mo_ask_67 : decode b_Mo_ask 67 = .ok (.invokevirtual 161, 3) := by decide +kernel
theorem d_Mo_ask_70 : decode b_Mo_ask 70 = .ok (.aload_n 0, 1) := by decide +kernel
theorem d_Mo_ask_71 : decode b_Mo_ask 71 = .ok (.invokevirtual 164, 3) := by decide +kernel
theorem d_Mo_ask_74 : decode b_Mo_ask 74 = .ok (.aload_n 0, 1) := by decide +kernel
theorem d_Mo_ask_75 : decode b_Mo_ask 75 = .ok (.invokevirtual 167, 3) := by decide +kernel
theorem d_Mo_ask_78 : decode b_Mo_ask 78 = .ok (.iconst 0, 1) := by decide +kernel
theorem d_Mo_ask_79 : decode b_Mo_ask 79 = .ok (.istore 4, 2) := by decide +kernel
theorem d_Mo_ask_81 : decode b_Mo_ask 81 = .ok (.iconst 0, 1) := by decide +kernel
theorem d_Mo_ask_82 : decode b_Mo_ask 82 = .ok (.istore 5, 2) := by decide +kernel
theorem d_Mo_ask_84 : decode b_Mo_ask 84 = .ok (.iload 5, 2) := by decide +kernel
theorem d_Mo_ask_86 : decode b_Mo_ask 86 = .ok (.sipush 1000, 3) := by decide +kernel
theorem d_Mo_ask_89 : decode b_Mo_ask 89 = .ok (.if_icmp .ge 28, 3) := by decide +kernel
theorem d_Mo_ask_92 : decode b_Mo_ask 92 = .ok (.iload 4, 2) := by decide +kernel
theorem d_Mo_ask_94 : decode b_Mo_ask 94 = .ok (.aload_n 0, 1) := by decide +kernel
theorem d_Mo_ask_95 : decode b_Mo_ask 95 = .ok (.iload 5, 2) := by decide +kernel
theorem d_Mo_ask_97 : decode b_Mo_ask 97 = .ok (.invokevirtual 170, 3) := by decide +kernel
theorem d_Mo_ask_100 : decode b_Mo_ask 100 = .ok (.ifCond .eq 7, 3) := by decide +kernel
theorem d_Mo_ask_103 : decode b_Mo_ask 103 = .ok (.iconst 1, 1) := by decide +kernel
theorem d_Mo_ask_104 : decode b_Mo_ask 104 = .ok (.goto 4, 3) := by decide +kernel
theorem d_Mo_ask_107 : decode b_Mo_ask 107 = .ok (.iconst 0, 1) := by decide +kernel
theorem d_Mo_ask_108 : decode b_Mo_ask 108 = .ok (.iadd, 1) := by decide +kernel
theorem d_Mo_ask_109 : decode b_Mo_ask 109 = .ok (.istore 4, 2) := by decide +kernel
theorem d_Mo_ask_111 : decode b_Mo_ask 111 = .ok (.iinc 5 1, 3) := by decide +kernel
theorem d_Mo_ask_114 : decode b_Mo_ask 114 = .ok (.goto (-30), 3) := by decide +kernel
theorem d_Mo_ask_117 : decode b_Mo_ask 117 = .ok (.iload 4, 2) := by decide +kernel
theorem d_Mo_ask_119 : decode b_Mo_ask 119 = .ok (.ireturn, 1) := by decide +kernel
abbrev b_Mo_answer : ByteArray := prog_6_method_33_code
def y_Mo_answer : MethodName := ⟨"QuestionDeskModel", "answer", "(I)I"⟩
theorem d_Mo_answer_0 : decode b_Mo_answer 0 = .ok (.aload_n 0, 1) := by decide +kernel
theorem d_Mo_answer_1 : decode b_Mo_answer 1 = .ok (.iconst 0, 1) := by decide +kernel
theorem d_Mo_answer_2 : decode b_Mo_answer 2 = .ok (.putfield 53, 3) := by decide +kernel
theorem d_Mo_answer_5 : decode b_Mo_answer 5 = .ok (.iconst 0, 1) := by decide +kernel
theorem d_Mo_answer_6 : decode b_Mo_answer 6 = .ok (.istore_n 2, 1) := by decide +kernel
theorem d_Mo_answer_7 : decode b_Mo_answer 7 = .ok (.iconst 0, 1) := by decide +kernel
theorem d_Mo_answer_8 : decode b_Mo_answer 8 = .ok (.istore_n 3, 1) := by decide +kernel
theorem d_Mo_answer_9 : decode b_Mo_answer 9 = .ok (.iload_n 3, 1) := by decide +kernel
theorem d_Mo_answer_10 : decode b_Mo_answer 10 = .ok (.sipush 1000, 3) := by decide +kernel
theorem d_Mo_answer_13 : decode b_Mo_answer 13 = .ok (.if_icmp .ge 60, 3) := by decide +kernel
theorem d_Mo_answer_16 : decode b_Mo_answer 16 = .ok (.aload_n 0, 1) := by decide +kernel
theorem d_Mo_answer_17 : decode b_Mo_answer 17 = .ok (.getfield 155, 3) := by decide +kernel
theorem d_Mo_answer_20 : decode b_Mo_answer 20 = .ok (.ifCond .eq 53, 3) := by decide +kernel
theorem d_Mo_answer_23 : decode b_Mo_answer 23 = .ok (.aload_n 0, 1) := by decide +kernel
theorem d_Mo_answer_24 : decode b_Mo_answer 24 = .ok (.iload_n 3, 1) := by decide +kernel
theorem d_Mo_answer_25 : decode b_Mo_answer 25 = .ok (.invokevirtual 170, 3) := by decide +kernel
theorem d_Mo_answer_28 : decode b_Mo_answer 28 = .ok (.ifCond .eq 39, 3) := by decide +kernel
theorem d_Mo_answer_31 : decode b_Mo_answer 31 = .ok (.iload_n 2, 1) := by decide +kernel
theorem d_Mo_answer_32 : decode b_Mo_answer 32 = .ok (.iload_n 1, 1) := by decide +kernel
theorem d_Mo_answer_33 : decode b_Mo_answer 33 = .ok (.if_icmp .ne 31, 3) := by decide +kernel
theorem d_Mo_answer_36 : decode b_Mo_answer 36 = .ok (.aload_n 0, 1) := by decide +kernel
theorem d_Mo_answer_37 : decode b_Mo_answer 37 = .ok (.getfield 7, 3) := by decide +kernel
theorem d_Mo_answer_40 : decode b_Mo_answer 40 = .ok (.aload_n 0, 1) := by decide +kernel
theorem d_Mo_answer_41 : decode b_Mo_answer 41 = .ok (.getfield 137, 3) := by decide +kernel
theorem d_Mo_answer_44 : decode b_Mo_answer 44 = .ok (.iaload, 1) := by decide +kernel
theorem d_Mo_answer_45 : decode b_Mo_answer 45 = .ok (.iconst 1, 1) := by decide +kernel
theorem d_Mo_answer_46 : decode b_Mo_answer 46 = .ok (.if_icmp .ne 13, 3) := by decide +kernel
theorem d_Mo_answer_49 : decode b_Mo_answer 49 = .ok (.iload_n 3, 1) := by decide +kernel
theorem d_Mo_answer_50 : decode b_Mo_answer 50 = .ok (.bipush 10, 2) := by decide +kernel
theorem d_Mo_answer_52 : decode b_Mo_answer 52 = .ok (.idiv, 1) := by decide +kernel
theorem d_Mo_answer_53 : decode b_Mo_answer 53 = .ok (.bipush 10, 2) := by decide +kernel
theorem d_Mo_answer_55 : decode b_Mo_answer 55 = .ok (.irem, 1) := by decide +kernel
theorem d_Mo_answer_56 : decode b_Mo_answer 56 = .ok (.goto 7, 3) := by decide +kernel
theorem d_Mo_answer_59 : decode b_Mo_answer 59 = .ok (.iload_n 3, 1) := by decide +kernel
theorem d_Mo_answer_60 : decode b_Mo_answer 60 = .ok (.bipush 100, 2) := by decide +kernel
theorem d_Mo_answer_62 : decode b_Mo_answer 62 = .ok (.irem, 1) := by decide +kernel
theorem d_Mo_answer_63 : decode b_Mo_answer 63 = .ok (.ireturn, 1) := by decide +kernel
theorem d_Mo_answer_64 : decode b_Mo_answer 64 = .ok (.iinc 2 1, 3) := by decide +kernel
theorem d_Mo_answer_67 : decode b_Mo_answer 67 = .ok (.iinc 3 1, 3) := by decide +kernel
theorem d_Mo_answer_70 : decode b_Mo_answer 70 = .ok (.goto (-61), 3) := by decide +kernel
theorem d_Mo_answer_73 : decode b_Mo_answer 73 = .ok (.iconst (-1), 1) := by decide +kernel
theorem d_Mo_answer_74 : decode b_Mo_answer 74 = .ok (.ireturn, 1) := by decide +kernel
abbrev b_Mo_holds : ByteArray := prog_6_method_34_code
def y_Mo_holds : MethodName := ⟨"QuestionDeskModel", "holds", "(III)Z"⟩
theorem d_Mo_holds_0 : decode b_Mo_holds 0 = .ok (.aload_n 0, 1) := by decide +kernel
theorem d_Mo_holds_1 : decode b_Mo_holds 1 = .ok (.aload_n 0, 1) := by decide +kernel
theorem d_Mo_holds_2 : decode b_Mo_holds 2 = .ok (.iload_n 1, 1) := by decide +kernel
theorem d_Mo_holds_3 : decode b_Mo_holds 3 = .ok (.invokevirtual 64, 3) := by decide +kernel
theorem d_Mo_holds_6 : decode b_Mo_holds 6 = .ok (.ifCond .eq 19, 3) := by decide +kernel
theorem d_Mo_holds_9 : decode b_Mo_holds 9 = .ok (.aload_n 0, 1) := by decide +kernel
theorem d_Mo_holds_10 : decode b_Mo_holds 10 = .ok (.iload_n 1, 1) := by decide +kernel
theorem d_Mo_holds_11 : decode b_Mo_holds 11 = .ok (.iload_n 2, 1) := by decide +kernel
theorem d_Mo_holds_12 : decode b_Mo_holds 12 = .ok (.iload_n 3, 1) := by decide +kernel
theorem d_Mo_holds_13 : decode b_Mo_holds 13 = .ok (.bipush 9, 2) := by decide +kernel
theorem d_Mo_holds_15 : decode b_Mo_holds 15 = .ok (.invokevirtual 68, 3) := by decide +kernel
theorem d_Mo_holds_18 : decode b_Mo_holds 18 = .ok (.ifCond .eq 7, 3) := by decide +kernel
theorem d_Mo_holds_21 : decode b_Mo_holds 21 = .ok (.iconst 0, 1) := by decide +kernel
theorem d_Mo_holds_22 : decode b_Mo_holds 22 = .ok (.goto 4, 3) := by decide +kernel
theorem d_Mo_holds_25 : decode b_Mo_holds 25 = .ok (.iconst 1, 1) := by decide +kernel
theorem d_Mo_holds_26 : decode b_Mo_holds 26 = .ok (.putfield 53, 3) := by decide +kernel
theorem d_Mo_holds_29 : decode b_Mo_holds 29 = .ok (.aload_n 0, 1) := by decide +kernel
theorem d_Mo_holds_30 : decode b_Mo_holds 30 = .ok (.getfield 53, 3) := by decide +kernel
theorem d_Mo_holds_33 : decode b_Mo_holds 33 = .ok (.ifCond .ne 28, 3) := by decide +kernel
theorem d_Mo_holds_36 : decode b_Mo_holds 36 = .ok (.aload_n 0, 1) := by decide +kernel
theorem d_Mo_holds_37 : decode b_Mo_holds 37 = .ok (.getfield 155, 3) := by decide +kernel
theorem d_Mo_holds_40 : decode b_Mo_holds 40 = .ok (.ifCond .eq 21, 3) := by decide +kernel
theorem d_Mo_holds_43 : decode b_Mo_holds 43 = .ok (.aload_n 0, 1) := by decide +kernel
theorem d_Mo_holds_44 : decode b_Mo_holds 44 = .ok (.getfield 20, 3) := by decide +kernel
theorem d_Mo_holds_47 : decode b_Mo_holds 47 = .ok (.iload_n 1, 1) := by decide +kernel
theorem d_Mo_holds_48 : decode b_Mo_holds 48 = .ok (.iload_n 2, 1) := by decide +kernel
theorem d_Mo_holds_49 : decode b_Mo_holds 49 = .ok (.iload_n 3, 1) := by decide +kernel
theorem d_Mo_holds_50 : decode b_Mo_holds 50 = .ok (.invokestatic 72, 3) := by decide +kernel
theorem d_Mo_holds_53 : decode b_Mo_holds 53 = .ok (.baload, 1) := by decide +kernel
theorem d_Mo_holds_54 : decode b_Mo_holds 54 = .ok (.ifCond .eq 7, 3) := by decide +kernel
theorem d_Mo_holds_57 : decode b_Mo_holds 57 = .ok (.iconst 1, 1) := by decide +kernel
theorem d_Mo_holds_58 : decode b_Mo_holds 58 = .ok (.goto 4, 3) := by decide +kernel
theorem d_Mo_holds_61 : decode b_Mo_holds 61 = .ok (.iconst 0, 1) := by decide +kernel
theorem d_Mo_holds_62 : decode b_Mo_holds 62 = .ok (.ireturn, 1) := by decide +kernel
abbrev b_Mo_isWanted : ByteArray := prog_6_method_35_code
def y_Mo_isWanted : MethodName := ⟨"QuestionDeskModel", "isWanted", "(I)Z"⟩
theorem d_Mo_isWanted_0 : decode b_Mo_isWanted 0 = .ok (.iconst 0, 1) := by decide +kernel
theorem d_Mo_isWanted_1 : decode b_Mo_isWanted 1 = .ok (.istore_n 2, 1) := by decide +kernel
theorem d_Mo_isWanted_2 : decode b_Mo_isWanted 2 = .ok (.bipush 121, 2) := by decide +kernel
theorem d_Mo_isWanted_4 : decode b_Mo_isWanted 4 = .ok (.iload_n 1, 1) := by decide +kernel
theorem d_Mo_isWanted_5 : decode b_Mo_isWanted 5 = .ok (.bipush 100, 2) := by decide +kernel
theorem d_Mo_isWanted_7 : decode b_Mo_isWanted 7 = .ok (.idiv, 1) := by decide +kernel
theorem d_Mo_isWanted_8 : decode b_Mo_isWanted 8 = .ok (.imul, 1) := by decide +kernel
theorem d_Mo_isWanted_9 : decode b_Mo_isWanted 9 = .ok (.istore_n 3, 1) := by decide +kernel
theorem d_Mo_isWanted_10 : decode b_Mo_isWanted 10 = .ok (.iload_n 3, 1) := by decide +kernel
theorem d_Mo_isWanted_11 : decode b_Mo_isWanted 11 = .ok (.bipush 121, 2) := by decide +kernel
theorem d_Mo_isWanted_13 : decode b_Mo_isWanted 13 = .ok (.iload_n 1, 1) := by decide +kernel
theorem d_Mo_isWanted_14 : decode b_Mo_isWanted 14 = .ok (.bipush 100, 2) := by decide +kernel
theorem d_Mo_isWanted_16 : decode b_Mo_isWanted 16 = .ok (.idiv, 1) := by decide +kernel
theorem d_Mo_isWanted_17 : decode b_Mo_isWanted 17 = .ok (.imul, 1) := by decide +kernel
theorem d_Mo_isWanted_18 : decode b_Mo_isWanted 18 = .ok (.bipush 121, 2) := by decide +kernel
theorem d_Mo_isWanted_20 : decode b_Mo_isWanted 20 = .ok (.iadd, 1) := by decide +kernel
theorem d_Mo_isWanted_21 : decode b_Mo_isWanted 21 = .ok (.if_icmp .ge 78, 3) := by decide +kernel
theorem d_Mo_isWanted_24 : decode b_Mo_isWanted 24 = .ok (.iload_n 3, 1) := by decide +kernel
theorem d_Mo_isWanted_25 : decode b_Mo_isWanted 25 = .ok (.bipush 11, 2) := by decide +kernel
theorem d_Mo_isWanted_27 : decode b_Mo_isWanted 27 = .ok (.idiv, 1) := by decide +kernel
theorem d_Mo_isWanted_28 : decode b_Mo_isWanted 28 = .ok (.bipush 11, 2) := by decide +kernel
theorem d_Mo_isWanted_30 : decode b_Mo_isWanted 30 = .ok (.irem, 1) := by decide +kernel
theorem d_Mo_isWanted_31 : decode b_Mo_isWanted 31 = .ok (.istore 4, 2) := by decide +kernel
theorem d_Mo_isWanted_33 : decode b_Mo_isWanted 33 = .ok (.iload_n 3, 1) := by decide +kernel
theorem d_Mo_isWanted_34 : decode b_Mo_isWanted 34 = .ok (.bipush 11, 2) := by decide +kernel
theorem d_Mo_isWanted_36 : decode b_Mo_isWanted 36 = .ok (.irem, 1) := by decide +kernel
theorem d_Mo_isWanted_37 : decode b_Mo_isWanted 37 = .ok (.istore 5, 2) := by decide +kernel
theorem d_Mo_isWanted_39 : decode b_Mo_isWanted 39 = .ok (.iload_n 2, 1) := by decide +kernel
theorem d_Mo_isWanted_40 : decode b_Mo_isWanted 40 = .ok (.ifCond .ne 47, 3) := by decide +kernel
theorem d_Mo_isWanted_43 : decode b_Mo_isWanted 43 = .ok (.aload_n 0, 1) := by decide +kernel
theorem d_Mo_isWanted_44 : decode b_Mo_isWanted 44 = .ok (.getfield 35, 3) := by decide +kernel
theorem d_Mo_isWanted_47 : decode b_Mo_isWanted 47 = .ok (.iload_n 3, 1) := by decide +kernel
theorem d_Mo_isWanted_48 : decode b_Mo_isWanted 48 = .ok (.baload, 1) := by decide +kernel
theorem d_Mo_isWanted_49 : decode b_Mo_isWanted 49 = .ok (.ifCond .eq 42, 3) := by decide +kernel
theorem d_Mo_isWanted_52 : decode b_Mo_isWanted 52 = .ok (.iload 4, 2) := by decide +kernel
theorem d_Mo_isWanted_54 : decode b_Mo_isWanted 54 = .ok (.bipush 10, 2) := by decide +kernel
theorem d_Mo_isWanted_56 : decode b_Mo_isWanted 56 = .ok (.if_icmp .eq 15, 3) := by decide +kernel
theorem d_Mo_isWanted_59 : decode b_Mo_isWanted 59 = .ok (.iload 4, 2) := by decide +kernel
theorem d_Mo_isWanted_61 : decode b_Mo_isWanted 61 = .ok (.iload_n 1, 1) := by decide +kernel
theorem d_Mo_isWanted_62 : decode b_Mo_isWanted 62 = .ok (.bipush 10, 2) := by decide +kernel
theorem d_Mo_isWanted_64 : decode b_Mo_isWanted 64 = .ok (.idiv, 1) := by decide +kernel
theorem d_Mo_isWanted_65 : decode b_Mo_isWanted 65 = .ok (.bipush 10, 2) := by decide +kernel
theorem d_Mo_isWanted_67 : decode b_Mo_isWanted 67 = .ok (.irem, 1) := by decide +kernel
theorem d_Mo_isWanted_68 : decode b_Mo_isWanted 68 = .ok (.if_icmp .ne 23, 3) := by decide +kernel
theorem d_Mo_isWanted_71 : decode b_Mo_isWanted 71 = .ok (.iload 5, 2) := by decide +kernel
theorem d_Mo_isWanted_73 : decode b_Mo_isWanted 73 = .ok (.bipush 10, 2) := by decide +kernel
theorem d_Mo_isWanted_75 : decode b_Mo_isWanted 75 = .ok (.if_icmp .eq 12, 3) := by decide +kernel
theorem d_Mo_isWanted_78 : decode b_Mo_isWanted 78 = .ok (.iload 5, 2) := by decide +kernel
theorem d_Mo_isWanted_80 : decode b_Mo_isWanted 80 = .ok (.iload_n 1, 1) := by decide +kernel
theorem d_Mo_isWanted_81 : decode b_Mo_isWanted 81 = .ok (.bipush 10, 2) := by decide +kernel
theorem d_Mo_isWanted_83 : decode b_Mo_isWanted 83 = .ok (.irem, 1) := by decide +kernel
theorem d_Mo_isWanted_84 : decode b_Mo_isWanted 84 = .ok (.if_icmp .ne 7, 3) := by decide +kernel
theorem d_Mo_isWanted_87 : decode b_Mo_isWanted 87 = .ok (.iconst 1, 1) := by decide +kernel
theorem d_Mo_isWanted_88 : decode b_Mo_isWanted 88 = .ok (.goto 4, 3) := by decide +kernel
theorem d_Mo_isWanted_91 : decode b_Mo_isWanted 91 = .ok (.iconst 0, 1) := by decide +kernel
theorem d_Mo_isWanted_92 : decode b_Mo_isWanted 92 = .ok (.istore_n 2, 1) := by decide +kernel
theorem d_Mo_isWanted_93 : decode b_Mo_isWanted 93 = .ok (.iinc 3 1, 3) := by decide +kernel
theorem d_Mo_isWanted_96 : decode b_Mo_isWanted 96 = .ok (.goto (-86), 3) := by decide +kernel
theorem d_Mo_isWanted_99 : decode b_Mo_isWanted 99 = .ok (.iload_n 2, 1) := by decide +kernel
theorem d_Mo_isWanted_100 : decode b_Mo_isWanted 100 = .ok (.ifCond .eq 16, 3) := by decide +kernel
theorem d_Mo_isWanted_103 : decode b_Mo_isWanted 103 = .ok (.aload_n 0, 1) := by decide +kernel
theorem d_Mo_isWanted_104 : decode b_Mo_isWanted 104 = .ok (.getfield 20, 3) := by decide +kernel
theorem d_Mo_isWanted_107 : decode b_Mo_isWanted 107 = .ok (.iload_n 1, 1) := by decide +kernel
theorem d_Mo_isWanted_108 : decode b_Mo_isWanted 108 = .ok (.baload, 1) := by decide +kernel
theorem d_Mo_isWanted_109 : decode b_Mo_isWanted 109 = .ok (.ifCond .eq 7, 3) := by decide +kernel
theorem d_Mo_isWanted_112 : decode b_Mo_isWanted 112 = .ok (.iconst 1, 1) := by decide +kernel
theorem d_Mo_isWanted_113 : decode b_Mo_isWanted 113 = .ok (.goto 4, 3) := by decide +kernel
theorem d_Mo_isWanted_116 : decode b_Mo_isWanted 116 = .ok (.iconst 0, 1) := by decide +kernel
theorem d_Mo_isWanted_117 : decode b_Mo_isWanted 117 = .ok (.ireturn, 1) := by decide +kernel
abbrev b_Mo_wanted : ByteArray := prog_6_method_36_code
def y_Mo_wanted : MethodName := ⟨"QuestionDeskModel", "wanted", "(III)Z"⟩
theorem d_Mo_wanted_0 : decode b_Mo_wanted 0 = .ok (.aload_n 0, 1) := by decide +kernel
theorem d_Mo_wanted_1 : decode b_Mo_wanted 1 = .ok (.aload_n 0, 1) := by decide +kernel
theorem d_Mo_wanted_2 : decode b_Mo_wanted 2 = .ok (.iload_n 1, 1) := by decide +kernel
theorem d_Mo_wanted_3 : decode b_Mo_wanted 3 = .ok (.invokevirtual 64, 3) := by decide +kernel
theorem d_Mo_wanted_6 : decode b_Mo_wanted 6 = .ok (.ifCond .eq 19, 3) := by decide +kernel
theorem d_Mo_wanted_9 : decode b_Mo_wanted 9 = .ok (.aload_n 0, 1) := by decide +kernel
theorem d_Mo_wanted_10 : decode b_Mo_wanted 10 = .ok (.iload_n 1, 1) := by decide +kernel
theorem d_Mo_wanted_11 : decode b_Mo_wanted 11 = .ok (.iload_n 2, 1) := by decide +kernel
theorem d_Mo_wanted_12 : decode b_Mo_wanted 12 = .ok (.iload_n 3, 1) := by decide +kernel
theorem d_Mo_wanted_13 : decode b_Mo_wanted 13 = .ok (.bipush 9, 2) := by decide +kernel
theorem d_Mo_wanted_15 : decode b_Mo_wanted 15 = .ok (.invokevirtual 68, 3) := by decide +kernel
theorem d_Mo_wanted_18 : decode b_Mo_wanted 18 = .ok (.ifCond .eq 7, 3) := by decide +kernel
theorem d_Mo_wanted_21 : decode b_Mo_wanted 21 = .ok (.iconst 0, 1) := by decide +kernel
theorem d_Mo_wanted_22 : decode b_Mo_wanted 22 = .ok (.goto 4, 3) := by decide +kernel
theorem d_Mo_wanted_25 : decode b_Mo_wanted 25 = .ok (.iconst 1, 1) := by decide +kernel
theorem d_Mo_wanted_26 : decode b_Mo_wanted 26 = .ok (.putfield 53, 3) := by decide +kernel
theorem d_Mo_wanted_29 : decode b_Mo_wanted 29 = .ok (.aload_n 0, 1) := by decide +kernel
theorem d_Mo_wanted_30 : decode b_Mo_wanted 30 = .ok (.getfield 53, 3) := by decide +kernel
theorem d_Mo_wanted_33 : decode b_Mo_wanted 33 = .ok (.ifCond .ne 36, 3) := by decide +kernel
theorem d_Mo_wanted_36 : decode b_Mo_wanted 36 = .ok (.aload_n 0, 1) := by decide +kernel
theorem d_Mo_wanted_37 : decode b_Mo_wanted 37 = .ok (.getfield 155, 3) := by decide +kernel
theorem d_Mo_wanted_40 : decode b_Mo_wanted 40 = .ok (.ifCond .eq 29, 3) := by decide +kernel
theorem d_Mo_wanted_43 : decode b_Mo_wanted 43 = .ok (.aload_n 0, 1) := by decide +kernel
theorem d_Mo_wanted_44 : decode b_Mo_wanted 44 = .ok (.getfield 13, 3) := by decide +kernel
theorem d_Mo_wanted_47 : decode b_Mo_wanted 47 = .ok (.iload_n 1, 1) := by decide +kernel
theorem d_Mo_wanted_48 : decode b_Mo_wanted 48 = .ok (.baload, 1) := by decide +kernel
theorem d_Mo_wanted_49 : decode b_Mo_wanted 49 = .ok (.ifCond .eq 20, 3) := by decide +kernel
theorem d_Mo_wanted_52 : decode b_Mo_wanted 52 = .ok (.aload_n 0, 1) := by decide +kernel
theorem d_Mo_wanted_53 : decode b_Mo_wanted 53 = .ok (.iload_n 1, 1) := by decide +kernel
theorem d_Mo_wanted_54 : decode b_Mo_wanted 54 = .ok (.iload_n 2, 1) := by decide +kernel
theorem d_Mo_wanted_55 : decode b_Mo_wanted 55 = .ok (.iload_n 3, 1) := by decide +kernel
theorem d_Mo_wanted_56 : decode b_Mo_wanted 56 = .ok (.invokestatic 72, 3) := by decide +kernel
theorem d_Mo_wanted_59 : decode b_Mo_wanted 59 = .ok (.invokevirtual 173, 3) := by decide +kernel
theorem d_Mo_wanted_62 : decode b_Mo_wanted 62 = .ok (.ifCond .eq 7, 3) := by decide +kernel
theorem d_Mo_wanted_65 : decode b_Mo_wanted 65 = .ok (.iconst 1, 1) := by decide +kernel
theorem d_Mo_wanted_66 : decode b_Mo_wanted 66 = .ok (.goto 4, 3) := by decide +kernel
theorem d_Mo_wanted_69 : decode b_Mo_wanted 69 = .ok (.iconst 0, 1) := by decide +kernel
theorem d_Mo_wanted_70 : decode b_Mo_wanted 70 = .ok (.ireturn, 1) := by decide +kernel
abbrev b_Mo_called_IIIZ : ByteArray := prog_6_method_37_code
def y_Mo_called_IIIZ : MethodName := ⟨"QuestionDeskModel", "called", "(III)Z"⟩
theorem d_Mo_called_IIIZ_0 : decode b_Mo_called_IIIZ 0 = .ok (.aload_n 0, 1) := by decide +kernel
theorem d_Mo_called_IIIZ_1 : decode b_Mo_called_IIIZ 1 = .ok (.iload_n 1, 1) := by decide +kernel
theorem d_Mo_called_IIIZ_2 : decode b_Mo_called_IIIZ 2 = .ok (.invokevirtual 64, 3) := by decide +kernel
theorem d_Mo_called_IIIZ_5 : decode b_Mo_called_IIIZ 5 = .ok (.ifCond .eq 45, 3) := by decide +kernel
theorem d_Mo_called_IIIZ_8 : decode b_Mo_called_IIIZ 8 = .ok (.iload_n 2, 1) := by decide +kernel
theorem d_Mo_called_IIIZ_9 : decode b_Mo_called_IIIZ 9 = .ok (.iconst (-1), 1) := by decide +kernel
theorem d_Mo_called_IIIZ_10 : decode b_Mo_called_IIIZ 10 = .ok (.bipush 9, 2) := by decide +kernel
theorem d_Mo_called_IIIZ_12 : decode b_Mo_called_IIIZ 12 = .ok (.invokestatic 60, 3) := by decide +kernel
theorem d_Mo_called_IIIZ_15 : decode b_Mo_called_IIIZ 15 = .ok (.ifCond .eq 35, 3) := by decide +kernel
theorem d_Mo_called_IIIZ_18 : decode b_Mo_called_IIIZ 18 = .ok (.aload_n 0, 1) := by decide +kernel
theorem d_Mo_called_IIIZ_19 : decode b_Mo_called_IIIZ 19 = .ok (.getfield 7, 3) := by decide +kernel
theorem d_Mo_called_IIIZ_22 : decode b_Mo_called_IIIZ 22 = .ok (.iload_n 1, 1) := by decide +kernel
theorem d_Mo_called_IIIZ_23 : decode b_Mo_called_IIIZ 23 = .ok (.iaload, 1) := by decide +kernel
theorem d_Mo_called_IIIZ_24 : decode b_Mo_called_IIIZ 24 = .ok (.iconst 1, 1) := by decide +kernel
theorem d_Mo_called_IIIZ_25 : decode b_Mo_called_IIIZ 25 = .ok (.if_icmp .ne 11, 3) := by decide +kernel
theorem d_Mo_called_IIIZ_28 : decode b_Mo_called_IIIZ 28 = .ok (.iload_n 3, 1) := by decide +kernel
theorem d_Mo_called_IIIZ_29 : decode b_Mo_called_IIIZ 29 = .ok (.iconst (-1), 1) := by decide +kernel
theorem d_Mo_called_IIIZ_30 : decode b_Mo_called_IIIZ 30 = .ok (.if_icmp .ne 20, 3) := by decide +kernel
theorem d_Mo_called_IIIZ_33 : decode b_Mo_called_IIIZ 33 = .ok (.goto 13, 3) := by decide +kernel
theorem d_Mo_called_IIIZ_36 : decode b_Mo_called_IIIZ 36 = .ok (.iload_n 3, 1) := by decide +kernel
theorem d_Mo_called_IIIZ_37 : decode b_Mo_called_IIIZ 37 = .ok (.iconst (-1), 1) := by decide +kernel
theorem d_Mo_called_IIIZ_38 : decode b_Mo_called_IIIZ 38 = .ok (.bipush 9, 2) := by decide +kernel
theorem d_Mo_called_IIIZ_40 : decode b_Mo_called_IIIZ 40 = .ok (.invokestatic 60, 3) := by decide +kernel
theorem d_Mo_called_IIIZ_43 : decode b_Mo_called_IIIZ 43 = .ok (.ifCond .eq 7, 3) := by decide +kernel
theorem d_Mo_called_IIIZ_46 : decode b_Mo_called_IIIZ 46 = .ok (.iconst 1, 1) := by decide +kernel
theorem d_Mo_called_IIIZ_47 : decode b_Mo_called_IIIZ 47 = .ok (.goto 4, 3) := by decide +kernel
theorem d_Mo_called_IIIZ_50 : decode b_Mo_called_IIIZ 50 = .ok (.iconst 0, 1) := by decide +kernel
theorem d_Mo_called_IIIZ_51 : decode b_Mo_called_IIIZ 51 = .ok (.istore 4, 2) := by decide +kernel
theorem d_Mo_called_IIIZ_53 : decode b_Mo_called_IIIZ 53 = .ok (.aload_n 0, 1) := by decide +kernel
theorem d_Mo_called_IIIZ_54 : decode b_Mo_called_IIIZ 54 = .ok (.iload 4, 2) := by decide +kernel
theorem d_Mo_called_IIIZ_56 : decode b_Mo_called_IIIZ 56 = .ok (.ifCond .eq 7, 3) := by decide +kernel
theorem d_Mo_called_IIIZ_59 : decode b_Mo_called_IIIZ 59 = .ok (.iconst 0, 1) := by decide +kernel
theorem d_Mo_called_IIIZ_60 : decode b_Mo_called_IIIZ 60 = .ok (.goto 4, 3) := by decide +kernel
theorem d_Mo_called_IIIZ_63 : decode b_Mo_called_IIIZ 63 = .ok (.iconst 1, 1) := by decide +kernel
theorem d_Mo_called_IIIZ_64 : decode b_Mo_called_IIIZ 64 = .ok (.putfield 53, 3) := by decide +kernel
theorem d_Mo_called_IIIZ_67 : decode b_Mo_called_IIIZ 67 = .ok (.iload 4, 2) := by decide +kernel
theorem d_Mo_called_IIIZ_69 : decode b_Mo_called_IIIZ 69 = .ok (.ifCond .eq 51, 3) := by decide +kernel
theorem d_Mo_called_IIIZ_72 : decode b_Mo_called_IIIZ 72 = .ok (.aload_n 0, 1) := by decide +kernel
theorem d_Mo_called_IIIZ_73 : decode b_Mo_called_IIIZ 73 = .ok (.getfield 155, 3) := by decide +kernel
theorem d_Mo_called_IIIZ_76 : decode b_Mo_called_IIIZ 76 = .ok (.ifCond .eq 44, 3) := by decide +kernel
theorem d_Mo_called_IIIZ_79 : decode b_Mo_called_IIIZ 79 = .ok (.aload_n 0, 1) := by decide +kernel
theorem d_Mo_called_IIIZ_80 : decode b_Mo_called_IIIZ 80 = .ok (.getfield 35, 3) := by decide +kernel
theorem d_Mo_called_IIIZ_83 : decode b_Mo_called_IIIZ 83 = .ok (.bipush 121, 2) := by decide +kernel
theorem d_Mo_called_IIIZ_85 : decode b_Mo_called_IIIZ 85 = .ok (.iload_n 1, 1) := by decide +kernel
theorem d_Mo_called_IIIZ_86 : decode b_Mo_called_IIIZ 86 = .ok (.imul, 1) := by decide +kernel
theorem d_Mo_called_IIIZ_87 : decode b_Mo_called_IIIZ 87 = .ok (.bipush 11, 2) := by decide +kernel
theorem d_Mo_called_IIIZ_89 : decode b_Mo_called_IIIZ 89 = .ok (.iload_n 2, 1) := by decide +kernel
theorem d_Mo_called_IIIZ_90 : decode b_Mo_called_IIIZ 90 = .ok (.ifCond .ge 8, 3) := by decide +kernel
theorem d_Mo_called_IIIZ_93 : decode b_Mo_called_IIIZ 93 = .ok (.bipush 10, 2) := by decide +kernel
theorem d_Mo_called_IIIZ_95 : decode b_Mo_called_IIIZ 95 = .ok (.goto 4, 3) := by decide +kernel
theorem d_Mo_called_IIIZ_98 : decode b_Mo_called_IIIZ 98 = .ok (.iload_n 2, 1) := by decide +kernel
theorem d_Mo_called_IIIZ_99 : decode b_Mo_called_IIIZ 99 = .ok (.imul, 1) := by decide +kernel
theorem d_Mo_called_IIIZ_100 : decode b_Mo_called_IIIZ 100 = .ok (.iadd, 1) := by decide +kernel
theorem d_Mo_called_IIIZ_101 : decode b_Mo_called_IIIZ 101 = .ok (.iload_n 3, 1) := by decide +kernel
theorem d_Mo_called_IIIZ_102 : decode b_Mo_called_IIIZ 102 = .ok (.ifCond .ge 8, 3) := by decide +kernel
theorem d_Mo_called_IIIZ_105 : decode b_Mo_called_IIIZ 105 = .ok (.bipush 10, 2) := by decide +kernel
theorem d_Mo_called_IIIZ_107 : decode b_Mo_called_IIIZ 107 = .ok (.goto 4, 3) := by decide +kernel
theorem d_Mo_called_IIIZ_110 : decode b_Mo_called_IIIZ 110 = .ok (.iload_n 3, 1) := by decide +kernel
theorem d_Mo_called_IIIZ_111 : decode b_Mo_called_IIIZ 111 = .ok (.iadd, 1) := by decide +kernel
theorem d_Mo_called_IIIZ_112 : decode b_Mo_called_IIIZ 112 = .ok (.baload, 1) := by decide +kernel
theorem d_Mo_called_IIIZ_113 : decode b_Mo_called_IIIZ 113 = .ok (.ifCond .eq 7, 3) := by decide +kernel
theorem d_Mo_called_IIIZ_116 : decode b_Mo_called_IIIZ 116 = .ok (.iconst 1, 1) := by decide +kernel
theorem d_Mo_called_IIIZ_117 : decode b_Mo_called_IIIZ 117 = .ok (.goto 4, 3) := by decide +kernel
theorem d_Mo_called_IIIZ_120 : decode b_Mo_called_IIIZ 120 = .ok (.iconst 0, 1) := by decide +kernel
theorem d_Mo_called_IIIZ_121 : decode b_Mo_called_IIIZ 121 = .ok (.ireturn, 1) := by decide +kernel
abbrev b_Mo_of : ByteArray := prog_6_method_38_code
def y_Mo_of : MethodName := ⟨"QuestionDeskModel", "of", "(II)I"⟩
theorem d_Mo_of_0 : decode b_Mo_of 0 = .ok (.aload_n 0, 1) := by decide +kernel
theorem d_Mo_of_1 : decode b_Mo_of 1 = .ok (.iconst 0, 1) := by decide +kernel
theorem d_Mo_of_2 : decode b_Mo_of 2 = .ok (.putfield 53, 3) := by decide +kernel
theorem d_Mo_of_5 : decode b_Mo_of 5 = .ok (.aload_n 0, 1) := by decide +kernel
theorem d_Mo_of_6 : decode b_Mo_of 6 = .ok (.getfield 155, 3) := by decide +kernel
theorem d_Mo_of_9 : decode b_Mo_of 9 = .ok (.ifCond .eq 26, 3) := by decide +kernel
theorem d_Mo_of_12 : decode b_Mo_of 12 = .ok (.iload_n 1, 1) := by decide +kernel
theorem d_Mo_of_13 : decode b_Mo_of 13 = .ok (.iconst 0, 1) := by decide +kernel
theorem d_Mo_of_14 : decode b_Mo_of 14 = .ok (.aload_n 0, 1) := by decide +kernel
theorem d_Mo_of_15 : decode b_Mo_of 15 = .ok (.getfield 158, 3) := by decide +kernel
theorem d_Mo_of_18 : decode b_Mo_of 18 = .ok (.iconst 1, 1) := by decide +kernel
theorem d_Mo_of_19 : decode b_Mo_of 19 = .ok (.isub, 1) := by decide +kernel
theorem d_Mo_of_20 : decode b_Mo_of 20 = .ok (.invokestatic 60, 3) := by decide +kernel
theorem d_Mo_of_23 : decode b_Mo_of 23 = .ok (.ifCond .eq 12, 3) := by decide +kernel
theorem d_Mo_of_26 : decode b_Mo_of 26 = .ok (.iload_n 2, 1) := by decide +kernel
theorem d_Mo_of_27 : decode b_Mo_of 27 = .ok (.iconst 0, 1) := by decide +kernel
theorem d_Mo_of_28 : decode b_Mo_of 28 = .ok (.iconst 3, 1) := by decide +kernel
theorem d_Mo_of_29 : decode b_Mo_of 29 = .ok (.invokestatic 60, 3) := by decide +kernel
theorem d_Mo_of_32 : decode b_Mo_of 32 = .ok (.ifCond .ne 5, 3) := by decide +kernel
theorem d_Mo_of_35 : decode b_Mo_of 35 = .ok (.iconst (-1), 1) := by decide +kernel
theorem d_Mo_of_36 : decode b_Mo_of 36 = .ok (.ireturn, 1) := by decide +kernel
theorem d_Mo_of_37 : decode b_Mo_of 37 = .ok (.iconst 0, 1) := by decide +kernel
theorem d_Mo_of_38 : decode b_Mo_of 38 = .ok (.istore_n 3, 1) := by decide +kernel
theorem d_Mo_of_39 : decode b_Mo_of 39 = .ok (.bipush 100, 2) := by decide +kernel
theorem d_Mo_of_41 : decode b_Mo_of 41 = .ok (.iload_n 1, 1) := by decide +kernel
theorem d_Mo_of_42 : decode b_Mo_of 42 = .ok (.imul, 1) := by decide +kernel
theorem d_Mo_of_43 : decode b_Mo_of 43 = .ok (.istore 4, 2) := by decide +kernel
theorem d_Mo_of_45 : decode b_Mo_of 45 = .ok (.iload 4, 2) := by decide +kernel
theorem d_Mo_of_47 : decode b_Mo_of 47 = .ok (.bipush 100, 2) := by decide +kernel
theorem d_Mo_of_49 : decode b_Mo_of 49 = .ok (.iload_n 1, 1) := by decide +kernel
theorem d_Mo_of_50 : decode b_Mo_of 50 = .ok (.imul, 1) := by decide +kernel
theorem d_Mo_of_51 : decode b_Mo_of 51 = .ok (.bipush 100, 2) := by decide +kernel
theorem d_Mo_of_53 : decode b_Mo_of 53 = .ok (.iadd, 1) := by decide +kernel
theorem d_Mo_of_54 : decode b_Mo_of 54 = .ok (.if_icmp .ge 62, 3) := by decide +kernel
theorem d_Mo_of_57 : decode b_Mo_of 57 = .ok (.iload_n 2, 1) := by decide +kernel
theorem d_Mo_of_58 : decode b_Mo_of 58 = .ok (.iconst 2, 1) := by decide +kernel
theorem d_Mo_of_59 : decode b_Mo_of 59 = .ok (.if_icmp .ge 57, 3) := by decide +kernel
theorem d_Mo_of_62 : decode b_Mo_of 62 = .ok (.iload_n 3, 1) := by decide +kernel
theorem d_Mo_of_63 : decode b_Mo_of 63 = .ok (.iload_n 2, 1) := by decide +kernel
theorem d_Mo_of_64 : decode b_Mo_of 64 = .ok (.ifCond .ne 21, 3) := by decide +kernel
theorem d_Mo_of_67 : decode b_Mo_of 67 = .ok (.aload_n 0, 1) := by decide +kernel
theorem d_Mo_of_68 : decode b_Mo_of 68 = .ok (.getfield 20, 3) := by decide +kernel
theorem d_Mo_of_71 : decode b_Mo_of 71 = .ok (.iload 4, 2) := by decide +kernel
theorem d_Mo_of_73 : decode b_Mo_of 73 = .ok (.baload, 1) := by decide +kernel
theorem d_Mo_of_74 : decode b_Mo_of 74 = .ok (.ifCond .eq 7, 3) := by decide +kernel
theorem d_Mo_of_77 : decode b_Mo_of 77 = .ok (.iconst 1, 1) := by decide +kernel
theorem d_Mo_of_78 : decode b_Mo_of 78 = .ok (.goto 30, 3) := by decide +kernel
theorem d_Mo_of_81 : decode b_Mo_of 81 = .ok (.iconst 0, 1) := by decide +kernel
theorem d_Mo_of_82 : decode b_Mo_of 82 = .ok (.goto 26, 3) := by decide +kernel
theorem d_Mo_of_85 : decode b_Mo_of 85 = .ok (.aload_n 0, 1) := by decide +kernel
theorem d_Mo_of_86 : decode b_Mo_of 86 = .ok (.getfield 13, 3) := by decide +kernel
theorem d_Mo_of_89 : decode b_Mo_of 89 = .ok (.iload_n 1, 1) := by decide +kernel
theorem d_Mo_of_90 : decode b_Mo_of 90 = .ok (.baload, 1) := by decide +kernel
theorem d_Mo_of_91 : decode b_Mo_of 91 = .ok (.ifCond .eq 16, 3) := by decide +kernel
theorem d_Mo_of_94 : decode b_Mo_of 94 = .ok (.aload_n 0, 1) := by decide +kernel
theorem d_Mo_of_95 : decode b_Mo_of 95 = .ok (.iload 4, 2) := by decide +kernel
theorem d_Mo_of_97 : decode b_Mo_of 97 = .ok (.invokevirtual 173, 3) := by decide +kernel
theorem d_Mo_of_100 : decode b_Mo_of 100 = .ok (.ifCond .eq 7, 3) := by decide +kernel
theorem d_Mo_of_103 : decode b_Mo_of 103 = .ok (.iconst 1, 1) := by decide +kernel
theorem d_Mo_of_104 : decode b_Mo_of 104 = .ok (.goto 4, 3) := by decide +kernel
theorem d_Mo_of_107 : decode b_Mo_of 107 = .ok (.iconst 0, 1) := by decide +kernel
theorem d_Mo_of_108 : decode b_Mo_of 108 = .ok (.iadd, 1) := by decide +kernel
theorem d_Mo_of_109 : decode b_Mo_of 109 = .ok (.istore_n 3, 1) := by decide +kernel
theorem d_Mo_of_110 : decode b_Mo_of 110 = .ok (.iinc 4 1, 3) := by decide +kernel
theorem d_Mo_of_113 : decode b_Mo_of 113 = .ok (.goto (-68), 3) := by decide +kernel
theorem d_Mo_of_116 : decode b_Mo_of 116 = .ok (.bipush 121, 2) := by decide +kernel
theorem d_Mo_of_118 : decode b_Mo_of 118 = .ok (.iload_n 1, 1) := by decide +kernel
theorem d_Mo_of_119 : decode b_Mo_of 119 = .ok (.imul, 1) := by decide +kernel
theorem d_Mo_of_120 : decode b_Mo_of 120 = .ok (.istore 4, 2) := by decide +kernel
theorem d_Mo_of_122 : decode b_Mo_of 122 = .ok (.iload 4, 2) := by decide +kernel
theorem d_Mo_of_124 : decode b_Mo_of 124 = .ok (.bipush 121, 2) := by decide +kernel
theorem d_Mo_of_126 : decode b_Mo_of 126 = .ok (.iload_n 1, 1) := by decide +kernel
theorem d_Mo_of_127 : decode b_Mo_of 127 = .ok (.imul, 1) := by decide +kernel
theorem d_Mo_of_128 : decode b_Mo_of 128 = .ok (.bipush 121, 2) := by decide +kernel
theorem d_Mo_of_130 : decode b_Mo_of 130 = .ok (.iadd, 1) := by decide +kernel
theorem d_Mo_of_131 : decode b_Mo_of 131 = .ok (.if_icmp .ge 32, 3) := by decide +kernel
theorem d_Mo_of_134 : decode b_Mo_of 134 = .ok (.iload_n 2, 1) := by decide +kernel
theorem d_Mo_of_135 : decode b_Mo_of 135 = .ok (.iconst 2, 1) := by decide +kernel
theorem d_Mo_of_136 : decode b_Mo_of 136 = .ok (.if_icmp .ne 27, 3) := by decide +kernel
theorem d_Mo_of_139 : decode b_Mo_of 139 = .ok (.iload_n 3, 1) := by decide +kernel
theorem d_Mo_of_140 : decode b_Mo_of 140 = .ok (.aload_n 0, 1) := by decide +kernel
theorem d_Mo_of_141 : decode b_Mo_of 141 = .ok (.getfield 35, 3) := by decide +kernel
theorem d_Mo_of_144 : decode b_Mo_of 144 = .ok (.iload 4, 2) := by decide +kernel
theorem d_Mo_of_146 : decode b_Mo_of 146 = .ok (.baload, 1) := by decide +kernel
theorem d_Mo_of_147 : decode b_Mo_of 147 = .ok (.ifCond .eq 7, 3) := by decide +kernel
theorem d_Mo_of_150 : decode b_Mo_of 150 = .ok (.iconst 1, 1) := by decide +kernel
theorem d_Mo_of_151 : decode b_Mo_of 151 = .ok (.goto 4, 3) := by decide +kernel
theorem d_Mo_of_154 : decode b_Mo_of 154 = .ok (.iconst 0, 1) := by decide +kernel
theorem d_Mo_of_155 : decode b_Mo_of 155 = .ok (.iadd, 1) := by decide +kernel
theorem d_Mo_of_156 : decode b_Mo_of 156 = .ok (.istore_n 3, 1) := by decide +kernel
theorem d_Mo_of_157 : decode b_Mo_of 157 = .ok (.iinc 4 1, 3) := by decide +kernel
theorem d_Mo_of_160 : decode b_Mo_of 160 = .ok (.goto (-38), 3) := by decide +kernel
theorem d_Mo_of_163 : decode b_Mo_of 163 = .ok (.iconst 4, 1) := by decide +kernel
theorem d_Mo_of_164 : decode b_Mo_of 164 = .ok (.iload_n 1, 1) := by decide +kernel
theorem d_Mo_of_165 : decode b_Mo_of 165 = .ok (.imul, 1) := by decide +kernel
theorem d_Mo_of_166 : decode b_Mo_of 166 = .ok (.istore 4, 2) := by decide +kernel
theorem d_Mo_of_168 : decode b_Mo_of 168 = .ok (.iload 4, 2) := by decide +kernel
theorem d_Mo_of_170 : decode b_Mo_of 170 = .ok (.iconst 4, 1) := by decide +kernel
theorem d_Mo_of_171 : decode b_Mo_of 171 = .ok (.iload_n 1, 1) := by decide +kernel
theorem d_Mo_of_172 : decode b_Mo_of 172 = .ok (.imul, 1) := by decide +kernel
theorem d_Mo_of_173 : decode b_Mo_of 173 = .ok (.iconst 4, 1) := by decide +kernel
theorem d_Mo_of_174 : decode b_Mo_of 174 = .ok (.iadd, 1) := by decide +kernel
theorem d_Mo_of_175 : decode b_Mo_of 175 = .ok (.if_icmp .ge 32, 3) := by decide +kernel
theorem d_Mo_of_178 : decode b_Mo_of 178 = .ok (.iload_n 2, 1) := by decide +kernel
theorem d_Mo_of_179 : decode b_Mo_of 179 = .ok (.iconst 3, 1) := by decide +kernel
theorem d_Mo_of_180 : decode b_Mo_of 180 = .ok (.if_icmp .ne 27, 3) := by decide +kernel
theorem d_Mo_of_183 : decode b_Mo_of 183 = .ok (.iload_n 3, 1) := by decide +kernel
theorem d_Mo_of_184 : decode b_Mo_of 184 = .ok (.aload_n 0, 1) := by decide +kernel
theorem d_Mo_of_185 : decode b_Mo_of 185 = .ok (.getfield 41, 3) := by decide +kernel
theorem d_Mo_of_188 : decode b_Mo_of 188 = .ok (.iload 4, 2) := by decide +kernel
theorem d_Mo_of_190 : decode b_Mo_of 190 = .ok (.baload, 1) := by decide +kernel
theorem d_Mo_of_191 : decode b_Mo_of 191 = .ok (.ifCond .eq 7, 3) := by decide +kernel
theorem d_Mo_of_194 : decode b_Mo_of 194 = .ok (.iconst 1, 1) := by decide +kernel
theorem d_Mo_of_195 : decode b_Mo_of 195 = .ok (.goto 4, 3) := by decide +kernel
theorem d_Mo_of_198 : decode b_Mo_of 198 = .ok (.iconst 0, 1) := by decide +kernel
theorem d_Mo_of_199 : decode b_Mo_of 199 = .ok (.iadd, 1) := by decide +kernel
theorem d_Mo_of_200 : decode b_Mo_of 200 = .ok (.istore_n 3, 1) := by decide +kernel
theorem d_Mo_of_201 : decode b_Mo_of 201 = .ok (.iinc 4 1, 3) := by decide +kernel
theorem d_Mo_of_204 : decode b_Mo_of 204 = .ok (.goto (-36), 3) := by decide +kernel
theorem d_Mo_of_207 : decode b_Mo_of 207 = .ok (.iload_n 3, 1) := by decide +kernel
theorem d_Mo_of_208 : decode b_Mo_of 208 = .ok (.ireturn, 1) := by decide +kernel
abbrev b_Mo_count : ByteArray := prog_6_method_39_code
def y_Mo_count : MethodName := ⟨"QuestionDeskModel", "count", "(I)I"⟩
theorem d_Mo_count_0 : decode b_Mo_count 0 = .ok (.iconst 0, 1) := by decide +kernel
theorem d_Mo_count_1 : decode b_Mo_count 1 = .ok (.istore_n 2, 1) := by decide +kernel
theorem d_Mo_count_2 : decode b_Mo_count 2 = .ok (.iload_n 1, 1) := by decide +kernel
theorem d_Mo_count_3 : decode b_Mo_count 3 = .ok (.iconst 3, 1) := by decide +kernel
theorem d_Mo_count_4 : decode b_Mo_count 4 = .ok (.if_icmp .ne 7, 3) := by decide +kernel
theorem d_Mo_count_7 : decode b_Mo_count 7 = .ok (.iconst 3, 1) := by decide +kernel
theorem d_Mo_count_8 : decode b_Mo_count 8 = .ok (.goto 13, 3) := by decide +kernel
theorem d_Mo_count_11 : decode b_Mo_count 11 = .ok (.iload_n 1, 1) := by decide +kernel
theorem d_Mo_count_12 : decode b_Mo_count 12 = .ok (.iconst 5, 1) := by decide +kernel
theorem d_Mo_count_13 : decode b_Mo_count 13 = .ok (.if_icmp .ne 7, 3) := by decide +kernel
theorem d_Mo_count_16 : decode b_Mo_count 16 = .ok (.iconst 2, 1) := by decide +kernel
theorem d_Mo_count_17 : decode b_Mo_count 17 = .ok (.goto 4, 3) := by decide +kernel
theorem d_Mo_count_20 : decode b_Mo_count 20 = .ok (.iconst 1, 1) := by decide +kernel
theorem d_Mo_count_21 : decode b_Mo_count 21 = .ok (.istore_n 3, 1) := by decide +kernel
theorem d_Mo_count_22 : decode b_Mo_count 22 = .ok (.iconst 0, 1) := by decide +kernel
theorem d_Mo_count_23 : decode b_Mo_count 23 = .ok (.istore 4, 2) := by decide +kernel
theorem d_Mo_count_25 : decode b_Mo_count 25 = .ok (.iload 4, 2) := by decide +kernel
theorem d_Mo_count_27 : decode b_Mo_count 27 = .ok (.aload_n 0, 1) := by decide +kernel
theorem d_Mo_count_28 : decode b_Mo_count 28 = .ok (.getfield 158, 3) := by decide +kernel
theorem d_Mo_count_31 : decode b_Mo_count 31 = .ok (.if_icmp .ge 45, 3) := by decide +kernel
theorem d_Mo_count_34 : decode b_Mo_count 34 = .ok (.aload_n 0, 1) := by decide +kernel
theorem d_Mo_count_35 : decode b_Mo_count 35 = .ok (.getfield 155, 3) := by decide +kernel
theorem d_Mo_count_38 : decode b_Mo_count 38 = .ok (.ifCond .eq 38, 3) := by decide +kernel
theorem d_Mo_count_41 : decode b_Mo_count 41 = .ok (.iload_n 1, 1) := by decide +kernel
theorem d_Mo_count_42 : decode b_Mo_count 42 = .ok (.iconst 3, 1) := by decide +kernel
theorem d_Mo_count_43 : decode b_Mo_count 43 = .ok (.bipush 6, 2) := by decide +kernel
theorem d_Mo_count_45 : decode b_Mo_count 45 = .ok (.invokestatic 60, 3) := by decide +kernel
theorem d_Mo_count_48 : decode b_Mo_count 48 = .ok (.ifCond .eq 28, 3) := by decide +kernel
theorem d_Mo_count_51 : decode b_Mo_count 51 = .ok (.iload_n 2, 1) := by decide +kernel
theorem d_Mo_count_52 : decode b_Mo_count 52 = .ok (.iload_n 1, 1) := by decide +kernel
theorem d_Mo_count_53 : decode b_Mo_count 53 = .ok (.iconst 4, 1) := by decide +kernel
theorem d_Mo_count_54 : decode b_Mo_count 54 = .ok (.if_icmp .ne 7, 3) := by decide +kernel
theorem d_Mo_count_57 : decode b_Mo_count 57 = .ok (.iconst 0, 1) := by decide +kernel
theorem d_Mo_count_58 : decode b_Mo_count 58 = .ok (.goto 10, 3) := by decide +kernel
theorem d_Mo_count_61 : decode b_Mo_count 61 = .ok (.aload_n 0, 1) := by decide +kernel
theorem d_Mo_count_62 : decode b_Mo_count 62 = .ok (.iload 4, 2) := by decide +kernel
theorem d_Mo_count_64 : decode b_Mo_count 64 = .ok (.iload_n 3, 1) := by decide +kernel
theorem d_Mo_count_65 : decode b_Mo_count 65 = .ok (.invokevirtual 176, 3) := by decide +kernel
theorem d_Mo_count_68 : decode b_Mo_count 68 = .ok (.iadd, 1) := by decide +kernel
theorem d_Mo_count_69 : decode b_Mo_count 69 = .ok (.istore_n 2, 1) := by decide +kernel
theorem d_Mo_count_70 : decode b_Mo_count 70 = .ok (.iinc 4 1, 3) := by decide +kernel
theorem d_Mo_count_73 : decode b_Mo_count 73 = .ok (.goto (-48), 3) := by decide +kernel
theorem d_Mo_count_76 : decode b_Mo_count 76 = .ok (.aload_n 0, 1) := by decide +kernel
theorem d_Mo_count_77 : decode b_Mo_count 77 = .ok (.iconst 0, 1) := by decide +kernel
theorem d_Mo_count_78 : decode b_Mo_count 78 = .ok (.putfield 53, 3) := by decide +kernel
theorem d_Mo_count_81 : decode b_Mo_count 81 = .ok (.iconst 0, 1) := by decide +kernel
theorem d_Mo_count_82 : decode b_Mo_count 82 = .ok (.istore 4, 2) := by decide +kernel
theorem d_Mo_count_84 : decode b_Mo_count 84 = .ok (.iload 4, 2) := by decide +kernel
theorem d_Mo_count_86 : decode b_Mo_count 86 = .ok (.sipush 1000, 3) := by decide +kernel
theorem d_Mo_count_89 : decode b_Mo_count 89 = .ok (.if_icmp .ge 32, 3) := by decide +kernel
theorem d_Mo_count_92 : decode b_Mo_count 92 = .ok (.iload_n 1, 1) := by decide +kernel
theorem d_Mo_count_93 : decode b_Mo_count 93 = .ok (.iconst 2, 1) := by decide +kernel
theorem d_Mo_count_94 : decode b_Mo_count 94 = .ok (.if_icmp .ne 27, 3) := by decide +kernel
theorem d_Mo_count_97 : decode b_Mo_count 97 = .ok (.iload_n 2, 1) := by decide +kernel
theorem d_Mo_count_98 : decode b_Mo_count 98 = .ok (.aload_n 0, 1) := by decide +kernel
theorem d_Mo_count_99 : decode b_Mo_count 99 = .ok (.getfield 17, 3) := by decide +kernel
theorem d_Mo_count_102 : decode b_Mo_count 102 = .ok (.iload 4, 2) := by decide +kernel
theorem d_Mo_count_104 : decode b_Mo_count 104 = .ok (.baload, 1) := by decide +kernel
theorem d_Mo_count_105 : decode b_Mo_count 105 = .ok (.ifCond .eq 7, 3) := by decide +kernel
theorem d_Mo_count_108 : decode b_Mo_count 108 = .ok (.iconst 1, 1) := by decide +kernel
theorem d_Mo_count_109 : decode b_Mo_count 109 = .ok (.goto 4, 3) := by decide +kernel
theorem d_Mo_count_112 : decode b_Mo_count 112 = .ok (.iconst 0, 1) := by decide +kernel
theorem d_Mo_count_113 : decode b_Mo_count 113 = .ok (.iadd, 1) := by decide +kernel
theorem d_Mo_count_114 : decode b_Mo_count 114 = .ok (.istore_n 2, 1) := by decide +kernel
theorem d_Mo_count_115 : decode b_Mo_count 115 = .ok (.iinc 4 1, 3) := by decide +kernel
theorem d_Mo_count_118 : decode b_Mo_count 118 = .ok (.goto (-34), 3) := by decide +kernel
theorem d_Mo_count_121 : decode b_Mo_count 121 = .ok (.iload_n 1, 1) := by decide +kernel
theorem d_Mo_count_122 : decode b_Mo_count 122 = .ok (.tableswitch 83 0 6 #[42, 47, 52, 54, 67, 54, 54], 42) := by decide +kernel
theorem d_Mo_count_164 : decode b_Mo_count 164 = .ok (.aload_n 0, 1) := by decide +kernel
theorem d_Mo_count_165 : decode b_Mo_count 165 = .ok (.getfield 57, 3) := by decide +kernel
theorem d_Mo_count_168 : decode b_Mo_count 168 = .ok (.ireturn, 1) := by decide +kernel
theorem d_Mo_count_169 : decode b_Mo_count 169 = .ok (.aload_n 0, 1) := by decide +kernel
theorem d_Mo_count_170 : decode b_Mo_count 170 = .ok (.getfield 88, 3) := by decide +kernel
theorem d_Mo_count_173 : decode b_Mo_count 173 = .ok (.ireturn, 1) := by decide +kernel
theorem d_Mo_count_174 : decode b_Mo_count 174 = .ok (.iload_n 2, 1) := by decide +kernel
theorem d_Mo_count_175 : decode b_Mo_count 175 = .ok (.ireturn, 1) := by decide +kernel
theorem d_Mo_count_176 : decode b_Mo_count 176 = .ok (.aload_n 0, 1) := by decide +kernel
theorem d_Mo_count_177 : decode b_Mo_count 177 = .ok (.getfield 155, 3) := by decide +kernel
theorem d_Mo_count_180 : decode b_Mo_count 180 = .ok (.ifCond .eq 7, 3) := by decide +kernel
theorem d_Mo_count_183 : decode b_Mo_count 183 = .ok (.iload_n 2, 1) := by decide +kernel
theorem d_Mo_count_184 : decode b_Mo_count 184 = .ok (.goto 4, 3) := by decide +kernel
theorem d_Mo_count_187 : decode b_Mo_count 187 = .ok (.iconst (-1), 1) := by decide +kernel
theorem d_Mo_count_188 : decode b_Mo_count 188 = .ok (.ireturn, 1) := by decide +kernel
theorem d_Mo_count_189 : decode b_Mo_count 189 = .ok (.aload_n 0, 1) := by decide +kernel
theorem d_Mo_count_190 : decode b_Mo_count 190 = .ok (.getfield 155, 3) := by decide +kernel
theorem d_Mo_count_193 : decode b_Mo_count 193 = .ok (.ifCond .eq 10, 3) := by decide +kernel
theorem d_Mo_count_196 : decode b_Mo_count 196 = .ok (.aload_n 0, 1) := by decide +kernel
theorem d_Mo_count_197 : decode b_Mo_count 197 = .ok (.getfield 149, 3) := by decide +kernel
theorem d_Mo_count_200 : decode b_Mo_count 200 = .ok (.goto 4, 3) := by decide +kernel
theorem d_Mo_count_203 : decode b_Mo_count 203 = .ok (.iconst (-1), 1) := by decide +kernel
theorem d_Mo_count_204 : decode b_Mo_count 204 = .ok (.ireturn, 1) := by decide +kernel
theorem d_Mo_count_205 : decode b_Mo_count 205 = .ok (.iconst (-1), 1) := by decide +kernel
theorem d_Mo_count_206 : decode b_Mo_count 206 = .ok (.ireturn, 1) := by decide +kernel
theorem xw_562 : (Jvm.Cond.fieldLink "QuestionDeskModel" (53 : Nat) "QuestionDeskModel" "thrown" "I") ∈ xg := xg_t (i := 562) (by decide +kernel) (by decide +kernel)
theorem i_Mo : ∀ w ∈ u_ws R_Mo F_Mo 28, w ∈ xg := by decide +kernel
def wp_Mo_thrown (post : Int32 → Prop)  (m_thrown : Int32) : Prop :=
post m_thrown
abbrev rm_Mo_thrown : Room := { frames := 0, cells := 0, slots := 0, locals := 0 }
set_option maxHeartbeats 4000000 in
set_option maxRecDepth 100000 in
theorem c_Mo_thrown {l : Launch} {D : va_G} {ad : Nat → Nat} (CE : Nat → Option va_E) {cI cZ cJ cO : ClassId} {iM : Nat} {i_places : Nat} {i_ruled : Nat} {i_told : Nat} {i_model : Nat} {i_ofAtom : Nat} {i_left : Nat} {i_right : Nat} {i_size : Nat} {i_calls : Nat} {i_row : Nat} {i_patterns : Nat} {i_values : Nat} {i_by : Nat} {i_choice : Nat} {m_thrown : Int32} {m_predicates : Int32} {m_rules : Int32} {m_begun : Int32} {m_asked : Int32} {m_asksOf : Int32} {m_asksLeft : Int32} {m_asksRight : Int32} {m_hadPredicates : Int32} {m_inRow : Int32} {m_rewritten : Int32} {m_rule : Int32} {m_atoms : Int32} {m_depth : Int32} (k_M : CE iM = some (.inr (4, [.int m_thrown, .ref (ad i_places), .ref (ad i_ruled), .int m_predicates, .ref (ad i_told), .ref (ad i_model), .ref (ad i_ofAtom), .ref (ad i_left), .ref (ad i_right), .ref (ad i_size), .int m_rules, .int m_begun, .int m_asked, .int m_asksOf, .int m_asksLeft, .int m_asksRight, .int m_hadPredicates, .ref (ad i_calls), .ref (ad i_row), .int m_inRow, .ref (ad i_patterns), .int m_rewritten, .ref (ad i_values), .ref (ad i_by), .ref (ad i_choice), .int m_rule, .int m_atoms, .int m_depth]))) {post : Int32 → Prop}  (h : wp_Mo_thrown post m_thrown) : ∀ sz, Met l y_Mo_thrown (Cond.code y_Mo_thrown b_Mo_thrown 1 (some .int) :: xg) rm_Mo_thrown (xm_Pc D xcl (xT cI cZ cJ cO) ad CE sz [.ref (ad iM)]) (va_Qi (fun (r : Int32) (_ : Unit) => post r) (xm_B D xcl (xT cI cZ cJ cO) (xm_A ad CE sz) (fun _ => ad) (fun _ : Unit => CE)) (xm_A ad CE sz)) 0 0 (xm_A ad CE sz) := by
  refine xm_ofW (cc := b_Mo_thrown) (maxL := 1) (ret := (some .int)) (by decide) rfl (Nat.le_of_ble_eq_true rfl) ?_
  intro p e s m args below meth c ls QQ hQQ hx hb hml hr hown hlk hnm hts hl hw
  have hl : lv_has ls 1 [(0, .ref (ad iM))] := hl
  unfold wp_Mo_thrown at h
  refine lv_aload_n hx hb d_Mo_thrown_0 rfl (lv_at hl 0 rfl) ?_
  refine xm_get (D := D) (v := .int m_thrown) (C := R_Mo) (T := F_Mo) (N := 28) hx hb hts (fun w h => List.mem_cons_of_mem _ (i_Mo w h)) hown hw k_M rfl 0 (by decide) (hts _ (List.mem_cons_of_mem _ xw_562)) (fun _ h9 => h9) rfl d_Mo_thrown_1 ?_
  subst hQQ
  exact xm_iret hx hb hr hlk hw () rfl rfl h d_Mo_thrown_4
def wp_Mo_in (post : Int32 → Prop)  (p0 : Int32) (p1 : Int32) (p2 : Int32) : Prop :=
xj (fun (v_1 : Int32) =>
(narrow .boolean (.int v_1) = .int v_1 ∧ post v_1)) (fun (J_2 : Int32 → Prop) =>
xj (fun (v_3 : Unit) =>
J_2 0) (fun (J_4 : Unit → Prop) =>
((p0 < p1 →
J_4 ()) ∧ (¬ p0 < p1 →
((p2 < p0 →
J_4 ()) ∧ (¬ p2 < p0 →
J_2 1))))))
abbrev rm_Mo_in : Room := { frames := 0, cells := 0, slots := 0, locals := 0 }
set_option maxHeartbeats 4000000 in
set_option maxRecDepth 100000 in
theorem c_Mo_in {l : Launch} {D : va_G} {ad : Nat → Nat} (CE : Nat → Option va_E) {cI cZ cJ cO : ClassId}    {post : Int32 → Prop} {p0 : Int32} {p1 : Int32} {p2 : Int32} (h : wp_Mo_in post p0 p1 p2) : ∀ sz, Met l y_Mo_in (Cond.code y_Mo_in b_Mo_in 3 (some .boolean) :: xg) rm_Mo_in (xm_Pc D xcl (xT cI cZ cJ cO) ad CE sz [.int p0, .int p1, .int p2]) (va_Qi (fun (r : Int32) (_ : Unit) => post r) (xm_B D xcl (xT cI cZ cJ cO) (xm_A ad CE sz) (fun _ => ad) (fun _ : Unit => CE)) (xm_A ad CE sz)) 0 0 (xm_A ad CE sz) := by
  refine xm_ofW (cc := b_Mo_in) (maxL := 3) (ret := (some .boolean)) (by decide) rfl (Nat.le_of_ble_eq_true rfl) ?_
  intro p e s m args below meth c ls QQ hQQ hx hb hml hr hown hlk hnm hts hl hw
  have hl : lv_has ls 3 [(0, .int p0), (1, .int p1), (2, .int p2)] := hl
  unfold wp_Mo_in at h
  refine lv_iload_n hx hb d_Mo_in_0 rfl (lv_at hl 0 rfl) ?_
  refine lv_iload_n hx hb d_Mo_in_1 rfl (lv_at hl 1 rfl) ?_
  refine xj_use h (fun (v_1 : Int32) => ∀ (H : Heap) (locs : List Loc) (ls : Array Slot), xm_W D xcl (xT cI cZ cJ cO) (xm_A ad CE s.heap.size) ad CE s s.heap H locs → lv_has ls 3 [] → W p l e rm_Mo_in s m args below meth c H locs 0 0 QQ (F0 m 15 ls [.int v_1])) (fun v_1 h H locs ls hw hl => ?_) (fun J_2 hJ_2 h => ?_)
  · subst hQQ
    exact xm_zret hx hb hr hlk h.1 hw () rfl rfl h.2 d_Mo_in_15
  · refine xj_use h (fun (v_3 : Unit) => ∀ (H : Heap) (locs : List Loc) (ls : Array Slot), xm_W D xcl (xT cI cZ cJ cO) (xm_A ad CE s.heap.size) ad CE s s.heap H locs → lv_has ls 3 [] → W p l e rm_Mo_in s m args below meth c H locs 0 0 QQ (F0 m 14 ls [])) (fun v_3 h H locs ls hw hl => ?_) (fun J_4 hJ_4 h => ?_)
    · refine lv_iconst (v := 0) hx hb d_Mo_in_14 (by decide) ?_
      exact hJ_2 0 h _ _ _ hw (lv_sub hl [] rfl)
    · refine lv_icmp_lt (tgt := 14) hx hb d_Mo_in_2 (by decide) (fun hc => ?_) (fun hc => ?_)
      · have h := h.1 hc
        exact hJ_4 () h _ _ _ hw (lv_sub hl [] rfl)
      · have h := h.2 hc
        refine lv_iload_n hx hb d_Mo_in_5 rfl (lv_at hl 0 rfl) ?_
        refine lv_iload_n hx hb d_Mo_in_6 rfl (lv_at hl 2 rfl) ?_
        refine lv_icmp_gt (tgt := 14) hx hb d_Mo_in_7 (by decide) (fun hc => ?_) (fun hc => ?_)
        · have h := h.1 hc
          exact hJ_4 () h _ _ _ hw (lv_sub hl [] rfl)
        · have h := h.2 hc
          refine lv_iconst (v := 1) hx hb d_Mo_in_10 (by decide) ?_
          refine lv_goto (tgt := 15) hx hb d_Mo_in_11 (by decide) ?_
          exact hJ_2 1 h _ _ _ hw (lv_sub hl [] rfl)
theorem xw_565 : (Jvm.Cond.fieldLink "QuestionDeskModel" (57 : Nat) "QuestionDeskModel" "predicates" "I") ∈ xg := xg_t (i := 565) (by decide +kernel) (by decide +kernel)
theorem xw_657 : (Jvm.Cond.code ({ cls := "QuestionDeskModel", name := "in", desc := "(III)Z" } : Jvm.MethodName) prog_6_method_3_code (3 : Nat) (Option.some Jvm.ClassFile.FieldType.boolean)) ∈ xg := xg_t (i := 657) (by decide +kernel) (by decide +kernel)
theorem xw_8 : (Jvm.Cond.initialized "QuestionDeskModel") ∈ xg := xg_t (i := 8) (by decide +kernel) (by decide +kernel)
theorem xw_655 : (Jvm.Cond.methodLink "QuestionDeskModel" (60 : Nat) ({ cls := "QuestionDeskModel", name := "in", desc := "(III)Z" } : Jvm.MethodName)) ∈ xg := xg_t (i := 655) (by decide +kernel) (by decide +kernel)
theorem xw_656 : (Jvm.Cond.static ({ cls := "QuestionDeskModel", name := "in", desc := "(III)Z" } : Jvm.MethodName)) ∈ xg := xg_t (i := 656) (by decide +kernel) (by decide +kernel)
def wp_Mo_isPredicate (post : Int32 → Prop)  (m_predicates : Int32) (p0 : Int32) : Prop :=
wp_Mo_in (fun r_1 =>
(narrow .boolean (.int r_1) = .int r_1 ∧ post r_1)) p0 0 (m_predicates - 1)
abbrev rm_Mo_isPredicate : Room := { frames := 1, cells := 0, slots := 0, locals := 22 }
set_option maxHeartbeats 4000000 in
set_option maxRecDepth 100000 in
theorem c_Mo_isPredicate {l : Launch} {D : va_G} {ad : Nat → Nat} (CE : Nat → Option va_E) {cI cZ cJ cO : ClassId} {iM : Nat} {i_places : Nat} {i_ruled : Nat} {i_told : Nat} {i_model : Nat} {i_ofAtom : Nat} {i_left : Nat} {i_right : Nat} {i_size : Nat} {i_calls : Nat} {i_row : Nat} {i_patterns : Nat} {i_values : Nat} {i_by : Nat} {i_choice : Nat} {m_predicates : Int32} {m_thrown : Int32} {m_rules : Int32} {m_begun : Int32} {m_asked : Int32} {m_asksOf : Int32} {m_asksLeft : Int32} {m_asksRight : Int32} {m_hadPredicates : Int32} {m_inRow : Int32} {m_rewritten : Int32} {m_rule : Int32} {m_atoms : Int32} {m_depth : Int32} (k_M : CE iM = some (.inr (4, [.int m_thrown, .ref (ad i_places), .ref (ad i_ruled), .int m_predicates, .ref (ad i_told), .ref (ad i_model), .ref (ad i_ofAtom), .ref (ad i_left), .ref (ad i_right), .ref (ad i_size), .int m_rules, .int m_begun, .int m_asked, .int m_asksOf, .int m_asksLeft, .int m_asksRight, .int m_hadPredicates, .ref (ad i_calls), .ref (ad i_row), .int m_inRow, .ref (ad i_patterns), .int m_rewritten, .ref (ad i_values), .ref (ad i_by), .ref (ad i_choice), .int m_rule, .int m_atoms, .int m_depth]))) {post : Int32 → Prop} {p0 : Int32} (h : wp_Mo_isPredicate post m_predicates p0) : ∀ sz, Met l y_Mo_isPredicate (Cond.code y_Mo_isPredicate b_Mo_isPredicate 2 (some .boolean) :: xg) rm_Mo_isPredicate (xm_Pc D xcl (xT cI cZ cJ cO) ad CE sz [.ref (ad iM), .int p0]) (va_Qi (fun (r : Int32) (_ : Unit) => post r) (xm_B D xcl (xT cI cZ cJ cO) (xm_A ad CE sz) (fun _ => ad) (fun _ : Unit => CE)) (xm_A ad CE sz)) 0 0 (xm_A ad CE sz) := by
  refine xm_ofW (cc := b_Mo_isPredicate) (maxL := 2) (ret := (some .boolean)) (by decide) rfl (Nat.le_of_ble_eq_true rfl) ?_
  intro p e s m args below meth c ls QQ hQQ hx hb hml hr hown hlk hnm hts hl hw
  have hl : lv_has ls 2 [(0, .ref (ad iM)), (1, .int p0)] := hl
  unfold wp_Mo_isPredicate at h
  refine lv_iload_n hx hb d_Mo_isPredicate_0 rfl (lv_at hl 1 rfl) ?_
  refine lv_iconst (v := 0) hx hb d_Mo_isPredicate_1 (by decide) ?_
  refine lv_aload_n hx hb d_Mo_isPredicate_2 rfl (lv_at hl 0 rfl) ?_
  refine xm_get (D := D) (v := .int m_predicates) (C := R_Mo) (T := F_Mo) (N := 28) hx hb hts (fun w h => List.mem_cons_of_mem _ (i_Mo w h)) hown hw k_M rfl 3 (by decide) (hts _ (List.mem_cons_of_mem _ xw_565)) (fun _ h9 => h9) rfl d_Mo_isPredicate_3 ?_
  refine lv_iconst (v := 1) hx hb d_Mo_isPredicate_6 (by decide) ?_
  refine lv_isub hx hb d_Mo_isPredicate_7 ?_
  refine xm_calli (ua := fun _ => ad) (va_runS (As := [.int p0, .int 0, .int (m_predicates - 1)]) (rest := []) ⟨hx, hb, hml, hown, hts⟩ (c_Mo_in (D := D) (ad := ad) (CE := (CE))   h _) (xg_cwS 3 hts xw_657 xw_655 xw_656 xw_8 rfl rfl (by decide +kernel) ⟨Nat.le_of_ble_eq_true rfl, Nat.le_of_ble_eq_true rfl⟩) (xm_pre hw _) rfl rfl hl.1 rfl (lv_room (Nat.le_of_ble_eq_true rfl)) d_Mo_isPredicate_8 ⟨Nat.le_of_ble_eq_true rfl, Nat.le_of_ble_eq_true rfl⟩) hw (fun r_1 _ H locs h hw => ?_)
  subst hQQ
  exact xm_zret hx hb hr hlk h.1 hw () rfl rfl h.2 d_Mo_isPredicate_11
theorem xw_563 : (Jvm.Cond.fieldLink "QuestionDeskModel" (7 : Nat) "QuestionDeskModel" "places" "[I") ∈ xg := xg_t (i := 563) (by decide +kernel) (by decide +kernel)
def wp_Mo_fit (post : Int32 → Prop)  (m_places : Nat → Int32) (p0 : Int32) (p1 : Int32) (p2 : Int32) (p3 : Int32) : Prop :=
wp_Mo_in (fun r_1 =>
xj (fun (v_3 : Int32) =>
(narrow .boolean (.int v_3) = .int v_3 ∧ post v_3)) (fun (J_4 : Int32 → Prop) =>
xj (fun (v_5 : Unit) =>
J_4 0) (fun (J_6 : Unit → Prop) =>
((r_1 = 0 →
J_6 ()) ∧ (¬ r_1 = 0 →
vp_in p0 10 ∧
xj (fun (v_7 : Unit) =>
J_4 1) (fun (J_8 : Unit → Prop) =>
((¬ (m_places (Int32.toNatClampNeg p0)) = 1 →
wp_Mo_in (fun r_9 =>
((r_9 = 0 →
J_6 ()) ∧ (¬ r_9 = 0 →
J_8 ()))) p2 0 p3) ∧ ((m_places (Int32.toNatClampNeg p0)) = 1 →
((¬ p2 = (-1) →
J_6 ()) ∧ (p2 = (-1) →
J_8 ())))))))))) p1 0 p3
abbrev rm_Mo_fit : Room := { frames := 1, cells := 0, slots := 0, locals := 22 }
set_option maxHeartbeats 4000000 in
set_option maxRecDepth 100000 in
theorem c_Mo_fit {l : Launch} {D : va_G} {ad : Nat → Nat} (CE : Nat → Option va_E) {cI cZ cJ cO : ClassId} {iM : Nat} {i_places : Nat} {i_ruled : Nat} {i_told : Nat} {i_model : Nat} {i_ofAtom : Nat} {i_left : Nat} {i_right : Nat} {i_size : Nat} {i_calls : Nat} {i_row : Nat} {i_patterns : Nat} {i_values : Nat} {i_by : Nat} {i_choice : Nat} {m_places : Nat → Int32} {m_thrown : Int32} {m_predicates : Int32} {m_rules : Int32} {m_begun : Int32} {m_asked : Int32} {m_asksOf : Int32} {m_asksLeft : Int32} {m_asksRight : Int32} {m_hadPredicates : Int32} {m_inRow : Int32} {m_rewritten : Int32} {m_rule : Int32} {m_atoms : Int32} {m_depth : Int32} (k_M : CE iM = some (.inr (4, [.int m_thrown, .ref (ad i_places), .ref (ad i_ruled), .int m_predicates, .ref (ad i_told), .ref (ad i_model), .ref (ad i_ofAtom), .ref (ad i_left), .ref (ad i_right), .ref (ad i_size), .int m_rules, .int m_begun, .int m_asked, .int m_asksOf, .int m_asksLeft, .int m_asksRight, .int m_hadPredicates, .ref (ad i_calls), .ref (ad i_row), .int m_inRow, .ref (ad i_patterns), .int m_rewritten, .ref (ad i_values), .ref (ad i_by), .ref (ad i_choice), .int m_rule, .int m_atoms, .int m_depth]))) (k_places : CE i_places = some (.inl (cI, 10, .inl m_places))) {post : Int32 → Prop} {p0 : Int32} {p1 : Int32} {p2 : Int32} {p3 : Int32} (h : wp_Mo_fit post m_places p0 p1 p2 p3) : ∀ sz, Met l y_Mo_fit (Cond.code y_Mo_fit b_Mo_fit 5 (some .boolean) :: xg) rm_Mo_fit (xm_Pc D xcl (xT cI cZ cJ cO) ad CE sz [.ref (ad iM), .int p0, .int p1, .int p2, .int p3]) (va_Qi (fun (r : Int32) (_ : Unit) => post r) (xm_B D xcl (xT cI cZ cJ cO) (xm_A ad CE sz) (fun _ => ad) (fun _ : Unit => CE)) (xm_A ad CE sz)) 0 0 (xm_A ad CE sz) := by
  refine xm_ofW (cc := b_Mo_fit) (maxL := 5) (ret := (some .boolean)) (by decide) rfl (Nat.le_of_ble_eq_true rfl) ?_
  intro p e s m args below meth c ls QQ hQQ hx hb hml hr hown hlk hnm hts hl hw
  have hl : lv_has ls 5 [(0, .ref (ad iM)), (1, .int p0), (2, .int p1), (3, .int p2), (4, .int p3)] := hl
  unfold wp_Mo_fit at h
  refine lv_iload_n hx hb d_Mo_fit_0 rfl (lv_at hl 2 rfl) ?_
  refine lv_iconst (v := 0) hx hb d_Mo_fit_1 (by decide) ?_
  refine lv_iload hx hb d_Mo_fit_2 (lv_at hl 4 rfl) ?_
  refine xm_calli (ua := fun _ => ad) (va_runS (As := [.int p1, .int 0, .int p3]) (rest := []) ⟨hx, hb, hml, hown, hts⟩ (c_Mo_in (D := D) (ad := ad) (CE := (CE))   h _) (xg_cwS 3 hts xw_657 xw_655 xw_656 xw_8 rfl rfl (by decide +kernel) ⟨Nat.le_of_ble_eq_true rfl, Nat.le_of_ble_eq_true rfl⟩) (xm_pre hw _) rfl rfl hl.1 rfl (lv_room (Nat.le_of_ble_eq_true rfl)) d_Mo_fit_4 ⟨Nat.le_of_ble_eq_true rfl, Nat.le_of_ble_eq_true rfl⟩) hw (fun r_1 _ H locs h hw => ?_)
  refine xj_use h (fun (v_3 : Int32) => ∀ (H : Heap) (locs : List Loc) (ls : Array Slot), xm_W D xcl (xT cI cZ cJ cO) (xm_A ad CE s.heap.size) ad CE s s.heap H locs → lv_has ls 5 [] → W p l e rm_Mo_fit s m args below meth c H locs 0 0 QQ (F0 m 43 ls [.int v_3])) (fun v_3 h H locs ls hw hl => ?_) (fun J_4 hJ_4 h => ?_)
  · subst hQQ
    exact xm_zret hx hb hr hlk h.1 hw () rfl rfl h.2 d_Mo_fit_43
  · refine xj_use h (fun (v_5 : Unit) => ∀ (H : Heap) (locs : List Loc) (ls : Array Slot), xm_W D xcl (xT cI cZ cJ cO) (xm_A ad CE s.heap.size) ad CE s s.heap H locs → lv_has ls 5 [] → W p l e rm_Mo_fit s m args below meth c H locs 0 0 QQ (F0 m 42 ls [])) (fun v_5 h H locs ls hw hl => ?_) (fun J_6 hJ_6 h => ?_)
    · refine lv_iconst (v := 0) hx hb d_Mo_fit_42 (by decide) ?_
      exact hJ_4 0 h _ _ _ hw (lv_sub hl [] rfl)
    · refine lv_if_eq (tgt := 42) hx hb d_Mo_fit_7 (by decide) (fun hc => ?_) (fun hc => ?_)
      · have h := h.1 hc
        exact hJ_6 () h _ _ _ hw (lv_sub hl [] rfl)
      · have h := h.2 hc
        refine lv_aload_n hx hb d_Mo_fit_10 rfl (lv_at hl 0 rfl) ?_
        refine xm_get (D := D) (v := .ref (ad i_places)) (C := R_Mo) (T := F_Mo) (N := 28) hx hb hts (fun w h => List.mem_cons_of_mem _ (i_Mo w h)) hown hw k_M rfl 1 (by decide) (hts _ (List.mem_cons_of_mem _ xw_563)) (fun _ h9 => h9) rfl d_Mo_fit_11 ?_
        refine lv_iload_n hx hb d_Mo_fit_14 rfl (lv_at hl 1 rfl) ?_
        obtain ⟨hin, h⟩ := h
        refine xm_iald hx hb hw 0 k_places rfl hin d_Mo_fit_15 ?_
        refine lv_iconst (v := 1) hx hb d_Mo_fit_16 (by decide) ?_
        refine xj_use h (fun (v_7 : Unit) => ∀ (H : Heap) (locs : List Loc) (ls : Array Slot), xm_W D xcl (xT cI cZ cJ cO) (xm_A ad CE s.heap.size) ad CE s s.heap H locs → lv_has ls 5 [] → W p l e rm_Mo_fit s m args below meth c H locs 0 0 QQ (F0 m 38 ls [])) (fun v_7 h H locs ls hw hl => ?_) (fun J_8 hJ_8 h => ?_)
        · refine lv_iconst (v := 1) hx hb d_Mo_fit_38 (by decide) ?_
          refine lv_goto (tgt := 43) hx hb d_Mo_fit_39 (by decide) ?_
          exact hJ_4 1 h _ _ _ hw (lv_sub hl [] rfl)
        · refine lv_icmp_ne (tgt := 28) hx hb d_Mo_fit_17 (by decide) (fun hc => ?_) (fun hc => ?_)
          · have h := h.1 hc
            refine lv_iload_n hx hb d_Mo_fit_28 rfl (lv_at hl 3 rfl) ?_
            refine lv_iconst (v := 0) hx hb d_Mo_fit_29 (by decide) ?_
            refine lv_iload hx hb d_Mo_fit_30 (lv_at hl 4 rfl) ?_
            refine xm_calli (ua := fun _ => ad) (va_runS (As := [.int p2, .int 0, .int p3]) (rest := []) ⟨hx, hb, hml, hown, hts⟩ (c_Mo_in (D := D) (ad := ad) (CE := (CE))   h _) (xg_cwS 3 hts xw_657 xw_655 xw_656 xw_8 rfl rfl (by decide +kernel) ⟨Nat.le_of_ble_eq_true rfl, Nat.le_of_ble_eq_true rfl⟩) (xm_pre hw _) rfl rfl hl.1 rfl (lv_room (Nat.le_of_ble_eq_true rfl)) d_Mo_fit_32 ⟨Nat.le_of_ble_eq_true rfl, Nat.le_of_ble_eq_true rfl⟩) hw (fun r_9 _ H locs h hw => ?_)
            refine lv_if_eq (tgt := 42) hx hb d_Mo_fit_35 (by decide) (fun hc => ?_) (fun hc => ?_)
            · have h := h.1 hc
              exact hJ_6 () h _ _ _ hw (lv_sub hl [] rfl)
            · have h := h.2 hc
              exact hJ_8 () h _ _ _ hw (lv_sub hl [] rfl)
          · have h := h.2 hc
            refine lv_iload_n hx hb d_Mo_fit_20 rfl (lv_at hl 3 rfl) ?_
            refine lv_iconst (v := (-1)) hx hb d_Mo_fit_21 (by decide) ?_
            refine lv_icmp_ne (tgt := 42) hx hb d_Mo_fit_22 (by decide) (fun hc => ?_) (fun hc => ?_)
            · have h := h.1 hc
              exact hJ_6 () h _ _ _ hw (lv_sub hl [] rfl)
            · have h := h.2 hc
              refine lv_goto (tgt := 38) hx hb d_Mo_fit_25 (by decide) ?_
              exact hJ_8 () h _ _ _ hw (lv_sub hl [] rfl)
def wp_Mo_place (post : Int32 → Prop)  (p0 : Int32) (p1 : Int32) (p2 : Int32) : Prop :=
xj (fun (v_1 : Int32) =>
post (((100 * p0) + (10 * p1)) + v_1)) (fun (J_2 : Int32 → Prop) =>
((0 ≤ p2 →
J_2 p2) ∧ (¬ 0 ≤ p2 →
J_2 0)))
abbrev rm_Mo_place : Room := { frames := 0, cells := 0, slots := 0, locals := 0 }
set_option maxHeartbeats 4000000 in
set_option maxRecDepth 100000 in
theorem c_Mo_place {l : Launch} {D : va_G} {ad : Nat → Nat} (CE : Nat → Option va_E) {cI cZ cJ cO : ClassId}    {post : Int32 → Prop} {p0 : Int32} {p1 : Int32} {p2 : Int32} (h : wp_Mo_place post p0 p1 p2) : ∀ sz, Met l y_Mo_place (Cond.code y_Mo_place b_Mo_place 3 (some .int) :: xg) rm_Mo_place (xm_Pc D xcl (xT cI cZ cJ cO) ad CE sz [.int p0, .int p1, .int p2]) (va_Qi (fun (r : Int32) (_ : Unit) => post r) (xm_B D xcl (xT cI cZ cJ cO) (xm_A ad CE sz) (fun _ => ad) (fun _ : Unit => CE)) (xm_A ad CE sz)) 0 0 (xm_A ad CE sz) := by
  refine xm_ofW (cc := b_Mo_place) (maxL := 3) (ret := (some .int)) (by decide) rfl (Nat.le_of_ble_eq_true rfl) ?_
  intro p e s m args below meth c ls QQ hQQ hx hb hml hr hown hlk hnm hts hl hw
  have hl : lv_has ls 3 [(0, .int p0), (1, .int p1), (2, .int p2)] := hl
  unfold wp_Mo_place at h
  refine lv_bipush (v := 100) hx hb d_Mo_place_0 (by decide) ?_
  refine lv_iload_n hx hb d_Mo_place_2 rfl (lv_at hl 0 rfl) ?_
  refine lv_imul hx hb d_Mo_place_3 ?_
  refine lv_bipush (v := 10) hx hb d_Mo_place_4 (by decide) ?_
  refine lv_iload_n hx hb d_Mo_place_6 rfl (lv_at hl 1 rfl) ?_
  refine lv_imul hx hb d_Mo_place_7 ?_
  refine lv_iadd hx hb d_Mo_place_8 ?_
  refine lv_iload_n hx hb d_Mo_place_9 rfl (lv_at hl 2 rfl) ?_
  refine xj_use h (fun (v_1 : Int32) => ∀ (H : Heap) (locs : List Loc) (ls : Array Slot), xm_W D xcl (xT cI cZ cJ cO) (xm_A ad CE s.heap.size) ad CE s s.heap H locs → lv_has ls 3 [] → W p l e rm_Mo_place s m args below meth c H locs 0 0 QQ (F0 m 18 ls [.int v_1, .int ((100 * p0) + (10 * p1))])) (fun v_1 h H locs ls hw hl => ?_) (fun J_2 hJ_2 h => ?_)
  · refine lv_iadd hx hb d_Mo_place_18 ?_
    subst hQQ
    exact xm_iret hx hb hr hlk hw () rfl rfl h d_Mo_place_19
  · refine lv_if_ge (tgt := 17) hx hb d_Mo_place_10 (by decide) (fun hc => ?_) (fun hc => ?_)
    · have h := h.1 hc
      refine lv_iload_n hx hb d_Mo_place_17 rfl (lv_at hl 2 rfl) ?_
      exact hJ_2 p2 h _ _ _ hw (lv_sub hl [] rfl)
    · have h := h.2 hc
      refine lv_iconst (v := 0) hx hb d_Mo_place_13 (by decide) ?_
      refine lv_goto (tgt := 18) hx hb d_Mo_place_14 (by decide) ?_
      exact hJ_2 0 h _ _ _ hw (lv_sub hl [] rfl)
theorem xw_564 : (Jvm.Cond.fieldLink "QuestionDeskModel" (13 : Nat) "QuestionDeskModel" "ruled" "[Z") ∈ xg := xg_t (i := 564) (by decide +kernel) (by decide +kernel)
def wp_Mo_predicate (post : Int32 → Int32 → (Nat → Int32) → (Nat → Int32) → Int32 → Prop)  (m_thrown : Int32) (m_places : Nat → Int32) (m_ruled : Nat → Int32) (m_predicates : Int32) (p0 : Int32) (p1 : Int32) : Prop :=
wp_Mo_in (fun r_1 =>
xj (fun (v_3 : Int32) =>
((v_3 ≤ 0 →
((¬ m_predicates = 10 →
vp_in m_predicates 10 ∧
∀ m_places_5 : Nat → Int32, m_places_5 = upd m_places (Int32.toNatClampNeg m_predicates) p0 →
vp_in m_predicates 10 ∧
∀ m_ruled_6 : Nat → Int32, m_ruled_6 = upd m_ruled (Int32.toNatClampNeg m_predicates) (vp_nar .boolean p1) →
post ((m_predicates + 1) - 1) v_3 m_places_5 m_ruled_6 (m_predicates + 1)) ∧ (m_predicates = 10 →
post (-1) v_3 m_places m_ruled m_predicates))) ∧ (¬ v_3 ≤ 0 →
post 0 v_3 m_places m_ruled m_predicates))) (fun (J_4 : Int32 → Prop) =>
((r_1 = 0 →
J_4 1) ∧ (¬ r_1 = 0 →
J_4 0)))) p0 1 2
abbrev rm_Mo_predicate : Room := { frames := 1, cells := 0, slots := 0, locals := 22 }
set_option maxHeartbeats 4000000 in
set_option maxRecDepth 100000 in
theorem c_Mo_predicate {l : Launch} {D : va_G} {ad : Nat → Nat} (CE : Int32 → (Nat → Int32) → (Nat → Int32) → Int32 → Nat → Option va_E) {cI cZ cJ cO : ClassId} {iM : Nat} {i_places : Nat} {i_ruled : Nat} {i_told : Nat} {i_model : Nat} {i_ofAtom : Nat} {i_left : Nat} {i_right : Nat} {i_size : Nat} {i_calls : Nat} {i_row : Nat} {i_patterns : Nat} {i_values : Nat} {i_by : Nat} {i_choice : Nat} {m_rules : Int32} {m_begun : Int32} {m_asked : Int32} {m_asksOf : Int32} {m_asksLeft : Int32} {m_asksRight : Int32} {m_hadPredicates : Int32} {m_inRow : Int32} {m_rewritten : Int32} {m_rule : Int32} {m_atoms : Int32} {m_depth : Int32} (k_M : ∀ (m_thrown : Int32) (m_places : Nat → Int32) (m_ruled : Nat → Int32) (m_predicates : Int32), (CE m_thrown m_places m_ruled m_predicates) iM = some (.inr (4, [.int m_thrown, .ref (ad i_places), .ref (ad i_ruled), .int m_predicates, .ref (ad i_told), .ref (ad i_model), .ref (ad i_ofAtom), .ref (ad i_left), .ref (ad i_right), .ref (ad i_size), .int m_rules, .int m_begun, .int m_asked, .int m_asksOf, .int m_asksLeft, .int m_asksRight, .int m_hadPredicates, .ref (ad i_calls), .ref (ad i_row), .int m_inRow, .ref (ad i_patterns), .int m_rewritten, .ref (ad i_values), .ref (ad i_by), .ref (ad i_choice), .int m_rule, .int m_atoms, .int m_depth]))) (k_places : ∀ (m_thrown : Int32) (m_places : Nat → Int32) (m_ruled : Nat → Int32) (m_predicates : Int32), (CE m_thrown m_places m_ruled m_predicates) i_places = some (.inl (cI, 10, .inl m_places))) (k_ruled : ∀ (m_thrown : Int32) (m_places : Nat → Int32) (m_ruled : Nat → Int32) (m_predicates : Int32), (CE m_thrown m_places m_ruled m_predicates) i_ruled = some (.inl (cZ, 10, .inl m_ruled))) (u_M : ∀ (m_thrown : Int32) (m_places : Nat → Int32) (m_ruled : Nat → Int32) (m_predicates : Int32) (m_thrown' : Int32) (m_predicates' : Int32), va_up (CE m_thrown m_places m_ruled m_predicates) iM (some (.inr (4, [.int m_thrown', .ref (ad i_places), .ref (ad i_ruled), .int m_predicates', .ref (ad i_told), .ref (ad i_model), .ref (ad i_ofAtom), .ref (ad i_left), .ref (ad i_right), .ref (ad i_size), .int m_rules, .int m_begun, .int m_asked, .int m_asksOf, .int m_asksLeft, .int m_asksRight, .int m_hadPredicates, .ref (ad i_calls), .ref (ad i_row), .int m_inRow, .ref (ad i_patterns), .int m_rewritten, .ref (ad i_values), .ref (ad i_by), .ref (ad i_choice), .int m_rule, .int m_atoms, .int m_depth]))) = (CE m_thrown' m_places m_ruled m_predicates')) (u_places : ∀ (m_thrown : Int32) (m_places : Nat → Int32) (m_ruled : Nat → Int32) (m_predicates : Int32) (m_places' : Nat → Int32), va_up (CE m_thrown m_places m_ruled m_predicates) i_places (some (.inl (cI, 10, .inl m_places'))) = (CE m_thrown m_places' m_ruled m_predicates)) (u_ruled : ∀ (m_thrown : Int32) (m_places : Nat → Int32) (m_ruled : Nat → Int32) (m_predicates : Int32) (m_ruled' : Nat → Int32), va_up (CE m_thrown m_places m_ruled m_predicates) i_ruled (some (.inl (cZ, 10, .inl m_ruled'))) = (CE m_thrown m_places m_ruled' m_predicates)) {post : Int32 → Int32 → (Nat → Int32) → (Nat → Int32) → Int32 → Prop} {m_thrown : Int32} {m_places : Nat → Int32} {m_ruled : Nat → Int32} {m_predicates : Int32} {p0 : Int32} {p1 : Int32} (h : wp_Mo_predicate post m_thrown m_places m_ruled m_predicates p0 p1) : ∀ sz, Met l y_Mo_predicate (Cond.code y_Mo_predicate b_Mo_predicate 3 (some .int) :: xg) rm_Mo_predicate (xm_Pc D xcl (xT cI cZ cJ cO) ad (CE m_thrown m_places m_ruled m_predicates) sz [.ref (ad iM), .int p0, .int p1]) (va_Qi (fun (r : Int32) (u : Int32 × (Nat → Int32) × (Nat → Int32) × Int32) => post r u.1 u.2.1 u.2.2.1 u.2.2.2) (xm_B D xcl (xT cI cZ cJ cO) (xm_A ad (CE m_thrown m_places m_ruled m_predicates) sz) (fun _ => ad) (fun u : Int32 × (Nat → Int32) × (Nat → Int32) × Int32 => CE u.1 u.2.1 u.2.2.1 u.2.2.2)) (xm_A ad (CE m_thrown m_places m_ruled m_predicates) sz)) 0 0 (xm_A ad (CE m_thrown m_places m_ruled m_predicates) sz) := by
  refine xm_ofW (cc := b_Mo_predicate) (maxL := 3) (ret := (some .int)) (by decide) rfl (Nat.le_of_ble_eq_true rfl) ?_
  intro p e s m args below meth c ls QQ hQQ hx hb hml hr hown hlk hnm hts hl hw
  have hl : lv_has ls 3 [(0, .ref (ad iM)), (1, .int p0), (2, .int p1)] := hl
  unfold wp_Mo_predicate at h
  refine lv_aload_n hx hb d_Mo_predicate_0 rfl (lv_at hl 0 rfl) ?_
  refine lv_iload_n hx hb d_Mo_predicate_1 rfl (lv_at hl 1 rfl) ?_
  refine lv_iconst (v := 1) hx hb d_Mo_predicate_2 (by decide) ?_
  refine lv_iconst (v := 2) hx hb d_Mo_predicate_3 (by decide) ?_
  refine xm_calli (ua := fun _ => ad) (va_runS (As := [.int p0, .int 1, .int 2]) (rest := [.ref (ad iM)]) ⟨hx, hb, hml, hown, hts⟩ (c_Mo_in (D := D) (ad := ad) (CE := ((CE m_thrown m_places m_ruled m_predicates)))   h _) (xg_cwS 3 hts xw_657 xw_655 xw_656 xw_8 rfl rfl (by decide +kernel) ⟨Nat.le_of_ble_eq_true rfl, Nat.le_of_ble_eq_true rfl⟩) (xm_pre hw _) rfl rfl hl.1 rfl (lv_room (Nat.le_of_ble_eq_true rfl)) d_Mo_predicate_4 ⟨Nat.le_of_ble_eq_true rfl, Nat.le_of_ble_eq_true rfl⟩) hw (fun r_1 _ H locs h hw => ?_)
  refine xj_use h (fun (v_3 : Int32) => ∀ (H : Heap) (locs : List Loc) (ls : Array Slot), xm_W D xcl (xT cI cZ cJ cO) (xm_A ad (CE m_thrown m_places m_ruled m_predicates) s.heap.size) ad (CE m_thrown m_places m_ruled m_predicates) s s.heap H locs → lv_has ls 3 [(0, .ref (ad iM)), (1, .int p0), (2, .int p1)] → W p l e rm_Mo_predicate s m args below meth c H locs 0 0 QQ (F0 m 15 ls [.int v_3, .ref (ad iM)])) (fun v_3 h H locs ls hw hl => ?_) (fun J_4 hJ_4 h => ?_)
  · refine xm_put (D := D) (v := .int v_3) (ty := .int) (C := R_Mo) (T := F_Mo) (N := 28) hx hb hts (fun w h => List.mem_cons_of_mem _ (i_Mo w h)) t_Mo o_Mo n_Mo hown hw (k_M m_thrown m_places m_ruled m_predicates) rfl 0 (by decide) (hts _ (List.mem_cons_of_mem _ xw_562)) (fun _ h9 => h9) rfl (by decide +kernel) rfl rfl (Nat.le_of_ble_eq_true rfl) d_Mo_predicate_15 (fun H locs hw => ?_)
    have hw : xm_W D xcl (xT cI cZ cJ cO) (xm_A ad (CE m_thrown m_places m_ruled m_predicates) s.heap.size) ad (CE v_3 m_places m_ruled m_predicates) s s.heap H locs := xm_W.cast (u_M m_thrown m_places m_ruled m_predicates v_3 m_predicates) hw
    refine lv_aload_n hx hb d_Mo_predicate_18 rfl (lv_at hl 0 rfl) ?_
    refine xm_get (D := D) (v := .int v_3) (C := R_Mo) (T := F_Mo) (N := 28) hx hb hts (fun w h => List.mem_cons_of_mem _ (i_Mo w h)) hown hw (k_M v_3 m_places m_ruled m_predicates) rfl 0 (by decide) (hts _ (List.mem_cons_of_mem _ xw_562)) (fun _ h9 => h9) rfl d_Mo_predicate_19 ?_
    refine lv_if_le (tgt := 27) hx hb d_Mo_predicate_22 (by decide) (fun hc => ?_) (fun hc => ?_)
    · have h := h.1 hc
      refine lv_aload_n hx hb d_Mo_predicate_27 rfl (lv_at hl 0 rfl) ?_
      refine xm_get (D := D) (v := .int m_predicates) (C := R_Mo) (T := F_Mo) (N := 28) hx hb hts (fun w h => List.mem_cons_of_mem _ (i_Mo w h)) hown hw (k_M v_3 m_places m_ruled m_predicates) rfl 3 (by decide) (hts _ (List.mem_cons_of_mem _ xw_565)) (fun _ h9 => h9) rfl d_Mo_predicate_28 ?_
      refine lv_bipush (v := 10) hx hb d_Mo_predicate_31 (by decide) ?_
      refine lv_icmp_ne (tgt := 38) hx hb d_Mo_predicate_33 (by decide) (fun hc => ?_) (fun hc => ?_)
      · have h := h.1 hc
        refine lv_aload_n hx hb d_Mo_predicate_38 rfl (lv_at hl 0 rfl) ?_
        refine xm_get (D := D) (v := .ref (ad i_places)) (C := R_Mo) (T := F_Mo) (N := 28) hx hb hts (fun w h => List.mem_cons_of_mem _ (i_Mo w h)) hown hw (k_M v_3 m_places m_ruled m_predicates) rfl 1 (by decide) (hts _ (List.mem_cons_of_mem _ xw_563)) (fun _ h9 => h9) rfl d_Mo_predicate_39 ?_
        refine lv_aload_n hx hb d_Mo_predicate_42 rfl (lv_at hl 0 rfl) ?_
        refine xm_get (D := D) (v := .int m_predicates) (C := R_Mo) (T := F_Mo) (N := 28) hx hb hts (fun w h => List.mem_cons_of_mem _ (i_Mo w h)) hown hw (k_M v_3 m_places m_ruled m_predicates) rfl 3 (by decide) (hts _ (List.mem_cons_of_mem _ xw_565)) (fun _ h9 => h9) rfl d_Mo_predicate_43 ?_
        refine lv_iload_n hx hb d_Mo_predicate_46 rfl (lv_at hl 1 rfl) ?_
        obtain ⟨hin, h⟩ := h
        refine xm_iast hx hb hw 0 (k_places v_3 m_places m_ruled m_predicates) rfl hin d_Mo_predicate_47 (fun H locs hw => ?_)
        have hw : xm_W D xcl (xT cI cZ cJ cO) (xm_A ad (CE m_thrown m_places m_ruled m_predicates) s.heap.size) ad (CE v_3 (upd m_places (Int32.toNatClampNeg m_predicates) p0) m_ruled m_predicates) s s.heap H locs := xm_W.cast (u_places v_3 m_places m_ruled m_predicates (upd m_places (Int32.toNatClampNeg m_predicates) p0)) hw
        obtain ⟨m_places_5, em_places_5⟩ : ∃ z : Nat → Int32, z = upd m_places (Int32.toNatClampNeg m_predicates) p0 := ⟨_, rfl⟩
        have h := h m_places_5 em_places_5
        rw [← em_places_5] at hw
        refine lv_aload_n hx hb d_Mo_predicate_48 rfl (lv_at hl 0 rfl) ?_
        refine xm_get (D := D) (v := .ref (ad i_ruled)) (C := R_Mo) (T := F_Mo) (N := 28) hx hb hts (fun w h => List.mem_cons_of_mem _ (i_Mo w h)) hown hw (k_M v_3 m_places_5 m_ruled m_predicates) rfl 2 (by decide) (hts _ (List.mem_cons_of_mem _ xw_564)) (fun _ h9 => h9) rfl d_Mo_predicate_49 ?_
        refine lv_aload_n hx hb d_Mo_predicate_52 rfl (lv_at hl 0 rfl) ?_
        refine xm_get (D := D) (v := .int m_predicates) (C := R_Mo) (T := F_Mo) (N := 28) hx hb hts (fun w h => List.mem_cons_of_mem _ (i_Mo w h)) hown hw (k_M v_3 m_places_5 m_ruled m_predicates) rfl 3 (by decide) (hts _ (List.mem_cons_of_mem _ xw_565)) (fun _ h9 => h9) rfl d_Mo_predicate_53 ?_
        refine lv_iload_n hx hb d_Mo_predicate_56 rfl (lv_at hl 2 rfl) ?_
        obtain ⟨hin, h⟩ := h
        refine xm_zast hx hb hw 1 (k_ruled v_3 m_places_5 m_ruled m_predicates) rfl hin d_Mo_predicate_57 (fun H locs hw => ?_)
        have hw : xm_W D xcl (xT cI cZ cJ cO) (xm_A ad (CE m_thrown m_places m_ruled m_predicates) s.heap.size) ad (CE v_3 m_places_5 (upd m_ruled (Int32.toNatClampNeg m_predicates) (vp_nar .boolean p1)) m_predicates) s s.heap H locs := xm_W.cast (u_ruled v_3 m_places_5 m_ruled m_predicates (upd m_ruled (Int32.toNatClampNeg m_predicates) (vp_nar .boolean p1))) hw
        obtain ⟨m_ruled_6, em_ruled_6⟩ : ∃ z : Nat → Int32, z = upd m_ruled (Int32.toNatClampNeg m_predicates) (vp_nar .boolean p1) := ⟨_, rfl⟩
        have h := h m_ruled_6 em_ruled_6
        rw [← em_ruled_6] at hw
        refine lv_aload_n hx hb d_Mo_predicate_58 rfl (lv_at hl 0 rfl) ?_
        refine lv_dup hx hb d_Mo_predicate_59 rfl ?_
        refine xm_get (D := D) (v := .int m_predicates) (C := R_Mo) (T := F_Mo) (N := 28) hx hb hts (fun w h => List.mem_cons_of_mem _ (i_Mo w h)) hown hw (k_M v_3 m_places_5 m_ruled_6 m_predicates) rfl 3 (by decide) (hts _ (List.mem_cons_of_mem _ xw_565)) (fun _ h9 => h9) rfl d_Mo_predicate_60 ?_
        refine lv_iconst (v := 1) hx hb d_Mo_predicate_63 (by decide) ?_
        refine lv_iadd hx hb d_Mo_predicate_64 ?_
        refine xm_put (D := D) (v := .int (m_predicates + 1)) (ty := .int) (C := R_Mo) (T := F_Mo) (N := 28) hx hb hts (fun w h => List.mem_cons_of_mem _ (i_Mo w h)) t_Mo o_Mo n_Mo hown hw (k_M v_3 m_places_5 m_ruled_6 m_predicates) rfl 3 (by decide) (hts _ (List.mem_cons_of_mem _ xw_565)) (fun _ h9 => h9) rfl (by decide +kernel) rfl rfl (Nat.le_of_ble_eq_true rfl) d_Mo_predicate_65 (fun H locs hw => ?_)
        have hw : xm_W D xcl (xT cI cZ cJ cO) (xm_A ad (CE m_thrown m_places m_ruled m_predicates) s.heap.size) ad (CE v_3 m_places_5 m_ruled_6 (m_predicates + 1)) s s.heap H locs := xm_W.cast (u_M v_3 m_places_5 m_ruled_6 m_predicates v_3 (m_predicates + 1)) hw
        refine lv_aload_n hx hb d_Mo_predicate_68 rfl (lv_at hl 0 rfl) ?_
        refine xm_get (D := D) (v := .int (m_predicates + 1)) (C := R_Mo) (T := F_Mo) (N := 28) hx hb hts (fun w h => List.mem_cons_of_mem _ (i_Mo w h)) hown hw (k_M v_3 m_places_5 m_ruled_6 (m_predicates + 1)) rfl 3 (by decide) (hts _ (List.mem_cons_of_mem _ xw_565)) (fun _ h9 => h9) rfl d_Mo_predicate_69 ?_
        refine lv_iconst (v := 1) hx hb d_Mo_predicate_72 (by decide) ?_
        refine lv_isub hx hb d_Mo_predicate_73 ?_
        subst hQQ
        exact xm_iret hx hb hr hlk hw (v_3, m_places_5, m_ruled_6, m_predicates + 1) rfl rfl h d_Mo_predicate_74
      · have h := h.2 hc
        refine lv_iconst (v := (-1)) hx hb d_Mo_predicate_36 (by decide) ?_
        subst hQQ
        exact xm_iret hx hb hr hlk hw (v_3, m_places, m_ruled, m_predicates) rfl rfl h d_Mo_predicate_37
    · have h := h.2 hc
      refine lv_iconst (v := 0) hx hb d_Mo_predicate_25 (by decide) ?_
      subst hQQ
      exact xm_iret hx hb hr hlk hw (v_3, m_places, m_ruled, m_predicates) rfl rfl h d_Mo_predicate_26
  · refine lv_if_eq (tgt := 14) hx hb d_Mo_predicate_7 (by decide) (fun hc => ?_) (fun hc => ?_)
    · have h := h.1 hc
      refine lv_iconst (v := 1) hx hb d_Mo_predicate_14 (by decide) ?_
      exact hJ_4 1 h _ _ _ hw (lv_sub hl [0, 1, 2] rfl)
    · have h := h.2 hc
      refine lv_iconst (v := 0) hx hb d_Mo_predicate_10 (by decide) ?_
      refine lv_goto (tgt := 15) hx hb d_Mo_predicate_11 (by decide) ?_
      exact hJ_4 0 h _ _ _ hw (lv_sub hl [0, 1, 2] rfl)
theorem xw_566 : (Jvm.Cond.fieldLink "QuestionDeskModel" (17 : Nat) "QuestionDeskModel" "told" "[Z") ∈ xg := xg_t (i := 566) (by decide +kernel) (by decide +kernel)
theorem xw_676 : (Jvm.Cond.code ({ cls := "QuestionDeskModel", name := "place", desc := "(III)I" } : Jvm.MethodName) prog_6_method_6_code (3 : Nat) (Option.some Jvm.ClassFile.FieldType.int)) ∈ xg := xg_t (i := 676) (by decide +kernel) (by decide +kernel)
theorem xw_674 : (Jvm.Cond.methodLink "QuestionDeskModel" (72 : Nat) ({ cls := "QuestionDeskModel", name := "place", desc := "(III)I" } : Jvm.MethodName)) ∈ xg := xg_t (i := 674) (by decide +kernel) (by decide +kernel)
theorem xw_675 : (Jvm.Cond.static ({ cls := "QuestionDeskModel", name := "place", desc := "(III)I" } : Jvm.MethodName)) ∈ xg := xg_t (i := 675) (by decide +kernel) (by decide +kernel)
theorem xw_673 : (Jvm.Cond.code ({ cls := "QuestionDeskModel", name := "fit", desc := "(IIII)Z" } : Jvm.MethodName) prog_6_method_5_code (5 : Nat) (Option.some Jvm.ClassFile.FieldType.boolean)) ∈ xg := xg_t (i := 673) (by decide +kernel) (by decide +kernel)
theorem xw_670 : (Jvm.Cond.methodLink "QuestionDeskModel" (68 : Nat) ({ cls := "QuestionDeskModel", name := "fit", desc := "(IIII)Z" } : Jvm.MethodName)) ∈ xg := xg_t (i := 670) (by decide +kernel) (by decide +kernel)
theorem xw_672 : (Jvm.Cond.instanceMethod ({ cls := "QuestionDeskModel", name := "fit", desc := "(IIII)Z" } : Jvm.MethodName)) ∈ xg := xg_t (i := 672) (by decide +kernel) (by decide +kernel)
theorem xw_p25 : Cond.selects "QuestionDeskModel" ⟨"QuestionDeskModel", "fit", "(IIII)Z"⟩ ⟨"QuestionDeskModel", "fit", "(IIII)Z"⟩ ∈ xg := xg_p (q := (⟨"QuestionDeskModel", "fit", "(IIII)Z"⟩, 28)) (i := 25) (by decide +kernel) (by decide +kernel)
theorem xw_669 : (Jvm.Cond.code ({ cls := "QuestionDeskModel", name := "isPredicate", desc := "(I)Z" } : Jvm.MethodName) prog_6_method_4_code (2 : Nat) (Option.some Jvm.ClassFile.FieldType.boolean)) ∈ xg := xg_t (i := 669) (by decide +kernel) (by decide +kernel)
theorem xw_666 : (Jvm.Cond.methodLink "QuestionDeskModel" (64 : Nat) ({ cls := "QuestionDeskModel", name := "isPredicate", desc := "(I)Z" } : Jvm.MethodName)) ∈ xg := xg_t (i := 666) (by decide +kernel) (by decide +kernel)
theorem xw_668 : (Jvm.Cond.instanceMethod ({ cls := "QuestionDeskModel", name := "isPredicate", desc := "(I)Z" } : Jvm.MethodName)) ∈ xg := xg_t (i := 668) (by decide +kernel) (by decide +kernel)
theorem xw_p24 : Cond.selects "QuestionDeskModel" ⟨"QuestionDeskModel", "isPredicate", "(I)Z"⟩ ⟨"QuestionDeskModel", "isPredicate", "(I)Z"⟩ ∈ xg := xg_p (q := (⟨"QuestionDeskModel", "isPredicate", "(I)Z"⟩, 28)) (i := 24) (by decide +kernel) (by decide +kernel)
def wp_Mo_tells (post : Int32 → Int32 → (Nat → Int32) → Prop)  (m_places : Nat → Int32) (m_ruled : Nat → Int32) (m_predicates : Int32) (m_thrown : Int32) (m_told : Nat → Int32) (p0 : Int32) (p1 : Int32) (p2 : Int32) (p3 : Int32) : Prop :=
wp_Mo_isPredicate (fun r_1 =>
xj (fun (v_3 : Int32) =>
xj (fun (v_5 : Unit) =>
post 0 v_3 m_told) (fun (J_6 : Unit → Prop) =>
((0 < v_3 →
J_6 ()) ∧ (¬ 0 < v_3 →
wp_Mo_place (fun r_7 =>
vp_in r_7 1000 ∧
((¬ (m_told (Int32.toNatClampNeg r_7)) = p3 →
wp_Mo_place (fun r_9 =>
vp_in r_9 1000 ∧
∀ m_told_11 : Nat → Int32, m_told_11 = upd m_told (Int32.toNatClampNeg r_9) (vp_nar .boolean p3) →
post 1 v_3 m_told_11) p0 p1 p2) ∧ ((m_told (Int32.toNatClampNeg r_7)) = p3 →
J_6 ()))) p0 p1 p2)))) (fun (J_4 : Int32 → Prop) =>
xj (fun (v_12 : Unit) =>
J_4 1) (fun (J_13 : Unit → Prop) =>
((r_1 = 0 →
J_13 ()) ∧ (¬ r_1 = 0 →
vp_in p0 10 ∧
((¬ (m_ruled (Int32.toNatClampNeg p0)) = 0 →
J_13 ()) ∧ ((m_ruled (Int32.toNatClampNeg p0)) = 0 →
wp_Mo_fit (fun r_14 =>
((r_14 = 0 →
J_13 ()) ∧ (¬ r_14 = 0 →
J_4 0))) m_places p0 p1 p2 9))))))) m_predicates p0
abbrev rm_Mo_tells : Room := { frames := 2, cells := 0, slots := 0, locals := 46 }
set_option maxHeartbeats 4000000 in
set_option maxRecDepth 100000 in
theorem c_Mo_tells {l : Launch} {D : va_G} {ad : Nat → Nat} (CE : Int32 → (Nat → Int32) → Nat → Option va_E) {cI cZ cJ cO : ClassId} {iM : Nat} {i_places : Nat} {i_ruled : Nat} {i_told : Nat} {i_model : Nat} {i_ofAtom : Nat} {i_left : Nat} {i_right : Nat} {i_size : Nat} {i_calls : Nat} {i_row : Nat} {i_patterns : Nat} {i_values : Nat} {i_by : Nat} {i_choice : Nat} {m_places : Nat → Int32} {m_ruled : Nat → Int32} {m_predicates : Int32} {m_rules : Int32} {m_begun : Int32} {m_asked : Int32} {m_asksOf : Int32} {m_asksLeft : Int32} {m_asksRight : Int32} {m_hadPredicates : Int32} {m_inRow : Int32} {m_rewritten : Int32} {m_rule : Int32} {m_atoms : Int32} {m_depth : Int32} (k_M : ∀ (m_thrown : Int32) (m_told : Nat → Int32), (CE m_thrown m_told) iM = some (.inr (4, [.int m_thrown, .ref (ad i_places), .ref (ad i_ruled), .int m_predicates, .ref (ad i_told), .ref (ad i_model), .ref (ad i_ofAtom), .ref (ad i_left), .ref (ad i_right), .ref (ad i_size), .int m_rules, .int m_begun, .int m_asked, .int m_asksOf, .int m_asksLeft, .int m_asksRight, .int m_hadPredicates, .ref (ad i_calls), .ref (ad i_row), .int m_inRow, .ref (ad i_patterns), .int m_rewritten, .ref (ad i_values), .ref (ad i_by), .ref (ad i_choice), .int m_rule, .int m_atoms, .int m_depth]))) (k_places : ∀ (m_thrown : Int32) (m_told : Nat → Int32), (CE m_thrown m_told) i_places = some (.inl (cI, 10, .inl m_places))) (k_ruled : ∀ (m_thrown : Int32) (m_told : Nat → Int32), (CE m_thrown m_told) i_ruled = some (.inl (cZ, 10, .inl m_ruled))) (k_told : ∀ (m_thrown : Int32) (m_told : Nat → Int32), (CE m_thrown m_told) i_told = some (.inl (cZ, 1000, .inl m_told))) (u_M : ∀ (m_thrown : Int32) (m_told : Nat → Int32) (m_thrown' : Int32), va_up (CE m_thrown m_told) iM (some (.inr (4, [.int m_thrown', .ref (ad i_places), .ref (ad i_ruled), .int m_predicates, .ref (ad i_told), .ref (ad i_model), .ref (ad i_ofAtom), .ref (ad i_left), .ref (ad i_right), .ref (ad i_size), .int m_rules, .int m_begun, .int m_asked, .int m_asksOf, .int m_asksLeft, .int m_asksRight, .int m_hadPredicates, .ref (ad i_calls), .ref (ad i_row), .int m_inRow, .ref (ad i_patterns), .int m_rewritten, .ref (ad i_values), .ref (ad i_by), .ref (ad i_choice), .int m_rule, .int m_atoms, .int m_depth]))) = (CE m_thrown' m_told)) (u_told : ∀ (m_thrown : Int32) (m_told : Nat → Int32) (m_told' : Nat → Int32), va_up (CE m_thrown m_told) i_told (some (.inl (cZ, 1000, .inl m_told'))) = (CE m_thrown m_told')) {post : Int32 → Int32 → (Nat → Int32) → Prop} {m_thrown : Int32} {m_told : Nat → Int32} {p0 : Int32} {p1 : Int32} {p2 : Int32} {p3 : Int32} (h : wp_Mo_tells post m_places m_ruled m_predicates m_thrown m_told p0 p1 p2 p3) : ∀ sz, Met l y_Mo_tells (Cond.code y_Mo_tells b_Mo_tells 5 (some .boolean) :: xg) rm_Mo_tells (xm_Pc D xcl (xT cI cZ cJ cO) ad (CE m_thrown m_told) sz [.ref (ad iM), .int p0, .int p1, .int p2, .int p3]) (va_Qi (fun (r : Int32) (u : Int32 × (Nat → Int32)) => post r u.1 u.2) (xm_B D xcl (xT cI cZ cJ cO) (xm_A ad (CE m_thrown m_told) sz) (fun _ => ad) (fun u : Int32 × (Nat → Int32) => CE u.1 u.2)) (xm_A ad (CE m_thrown m_told) sz)) 0 0 (xm_A ad (CE m_thrown m_told) sz) := by
  refine xm_ofW (cc := b_Mo_tells) (maxL := 5) (ret := (some .boolean)) (by decide) rfl (Nat.le_of_ble_eq_true rfl) ?_
  intro p e s m args below meth c ls QQ hQQ hx hb hml hr hown hlk hnm hts hl hw
  have hl : lv_has ls 5 [(0, .ref (ad iM)), (1, .int p0), (2, .int p1), (3, .int p2), (4, .int p3)] := hl
  unfold wp_Mo_tells at h
  refine lv_aload_n hx hb d_Mo_tells_0 rfl (lv_at hl 0 rfl) ?_
  refine lv_aload_n hx hb d_Mo_tells_1 rfl (lv_at hl 0 rfl) ?_
  refine lv_iload_n hx hb d_Mo_tells_2 rfl (lv_at hl 1 rfl) ?_
  refine xm_calli (ua := fun _ => ad) (va_runV (As := [.int p0]) (rest := [.ref (ad iM)]) ⟨hx, hb, hml, hown, hts⟩ (c_Mo_isPredicate (D := D) (ad := ad) (CE := ((CE m_thrown m_told)))  (k_M m_thrown m_told) h _) (xg_cwV 1 hts xw_669 xw_666 xw_668 xw_p24 xw_8 rfl rfl (by decide +kernel) ⟨Nat.le_of_ble_eq_true rfl, Nat.le_of_ble_eq_true rfl⟩) (xm_preV hw (k_M m_thrown m_told) rfl _) rfl rfl hl.1 rfl (lv_room (Nat.le_of_ble_eq_true rfl)) d_Mo_tells_3 ⟨Nat.le_of_ble_eq_true rfl, Nat.le_of_ble_eq_true rfl⟩) hw (fun r_1 _ H locs h hw => ?_)
  refine xj_use h (fun (v_3 : Int32) => ∀ (H : Heap) (locs : List Loc) (ls : Array Slot), xm_W D xcl (xT cI cZ cJ cO) (xm_A ad (CE m_thrown m_told) s.heap.size) ad (CE m_thrown m_told) s s.heap H locs → lv_has ls 5 [(0, .ref (ad iM)), (1, .int p0), (2, .int p1), (3, .int p2), (4, .int p3)] → W p l e rm_Mo_tells s m args below meth c H locs 0 0 QQ (F0 m 35 ls [.int v_3, .ref (ad iM)])) (fun v_3 h H locs ls hw hl => ?_) (fun J_4 hJ_4 h => ?_)
  · refine xm_put (D := D) (v := .int v_3) (ty := .int) (C := R_Mo) (T := F_Mo) (N := 28) hx hb hts (fun w h => List.mem_cons_of_mem _ (i_Mo w h)) t_Mo o_Mo n_Mo hown hw (k_M m_thrown m_told) rfl 0 (by decide) (hts _ (List.mem_cons_of_mem _ xw_562)) (fun _ h9 => h9) rfl (by decide +kernel) rfl rfl (Nat.le_of_ble_eq_true rfl) d_Mo_tells_35 (fun H locs hw => ?_)
    have hw : xm_W D xcl (xT cI cZ cJ cO) (xm_A ad (CE m_thrown m_told) s.heap.size) ad (CE v_3 m_told) s s.heap H locs := xm_W.cast (u_M m_thrown m_told v_3) hw
    refine lv_aload_n hx hb d_Mo_tells_38 rfl (lv_at hl 0 rfl) ?_
    refine xm_get (D := D) (v := .int v_3) (C := R_Mo) (T := F_Mo) (N := 28) hx hb hts (fun w h => List.mem_cons_of_mem _ (i_Mo w h)) hown hw (k_M v_3 m_told) rfl 0 (by decide) (hts _ (List.mem_cons_of_mem _ xw_562)) (fun _ h9 => h9) rfl d_Mo_tells_39 ?_
    refine xj_use h (fun (v_5 : Unit) => ∀ (H : Heap) (locs : List Loc) (ls : Array Slot), xm_W D xcl (xT cI cZ cJ cO) (xm_A ad (CE m_thrown m_told) s.heap.size) ad (CE v_3 m_told) s s.heap H locs → lv_has ls 5 [] → W p l e rm_Mo_tells s m args below meth c H locs 0 0 QQ (F0 m 61 ls [])) (fun v_5 h H locs ls hw hl => ?_) (fun J_6 hJ_6 h => ?_)
    · refine lv_iconst (v := 0) hx hb d_Mo_tells_61 (by decide) ?_
      subst hQQ
      exact xm_zret hx hb hr hlk rfl hw (v_3, m_told) rfl rfl h d_Mo_tells_62
    · refine lv_if_gt (tgt := 61) hx hb d_Mo_tells_42 (by decide) (fun hc => ?_) (fun hc => ?_)
      · have h := h.1 hc
        exact hJ_6 () h _ _ _ hw (lv_sub hl [] rfl)
      · have h := h.2 hc
        refine lv_aload_n hx hb d_Mo_tells_45 rfl (lv_at hl 0 rfl) ?_
        refine xm_get (D := D) (v := .ref (ad i_told)) (C := R_Mo) (T := F_Mo) (N := 28) hx hb hts (fun w h => List.mem_cons_of_mem _ (i_Mo w h)) hown hw (k_M v_3 m_told) rfl 4 (by decide) (hts _ (List.mem_cons_of_mem _ xw_566)) (fun _ h9 => h9) rfl d_Mo_tells_46 ?_
        refine lv_iload_n hx hb d_Mo_tells_49 rfl (lv_at hl 1 rfl) ?_
        refine lv_iload_n hx hb d_Mo_tells_50 rfl (lv_at hl 2 rfl) ?_
        refine lv_iload_n hx hb d_Mo_tells_51 rfl (lv_at hl 3 rfl) ?_
        refine xm_calli (ua := fun _ => ad) (va_runS (As := [.int p0, .int p1, .int p2]) (rest := [.ref (ad i_told)]) ⟨hx, hb, hml, hown, hts⟩ (c_Mo_place (D := D) (ad := ad) (CE := ((CE v_3 m_told)))   h _) (xg_cwS 3 hts xw_676 xw_674 xw_675 xw_8 rfl rfl (by decide +kernel) ⟨Nat.le_of_ble_eq_true rfl, Nat.le_of_ble_eq_true rfl⟩) (xm_pre hw _) rfl rfl hl.1 rfl (lv_room (Nat.le_of_ble_eq_true rfl)) d_Mo_tells_52 ⟨Nat.le_of_ble_eq_true rfl, Nat.le_of_ble_eq_true rfl⟩) hw (fun r_7 _ H locs h hw => ?_)
        obtain ⟨hin, h⟩ := h
        refine xm_zald hx hb hw 1 (k_told v_3 m_told) rfl hin d_Mo_tells_55 ?_
        refine lv_iload hx hb d_Mo_tells_56 (lv_at hl 4 rfl) ?_
        refine lv_icmp_ne (tgt := 63) hx hb d_Mo_tells_58 (by decide) (fun hc => ?_) (fun hc => ?_)
        · have h := h.1 hc
          refine lv_aload_n hx hb d_Mo_tells_63 rfl (lv_at hl 0 rfl) ?_
          refine xm_get (D := D) (v := .ref (ad i_told)) (C := R_Mo) (T := F_Mo) (N := 28) hx hb hts (fun w h => List.mem_cons_of_mem _ (i_Mo w h)) hown hw (k_M v_3 m_told) rfl 4 (by decide) (hts _ (List.mem_cons_of_mem _ xw_566)) (fun _ h9 => h9) rfl d_Mo_tells_64 ?_
          refine lv_iload_n hx hb d_Mo_tells_67 rfl (lv_at hl 1 rfl) ?_
          refine lv_iload_n hx hb d_Mo_tells_68 rfl (lv_at hl 2 rfl) ?_
          refine lv_iload_n hx hb d_Mo_tells_69 rfl (lv_at hl 3 rfl) ?_
          refine xm_calli (ua := fun _ => ad) (va_runS (As := [.int p0, .int p1, .int p2]) (rest := [.ref (ad i_told)]) ⟨hx, hb, hml, hown, hts⟩ (c_Mo_place (D := D) (ad := ad) (CE := ((CE v_3 m_told)))   h _) (xg_cwS 3 hts xw_676 xw_674 xw_675 xw_8 rfl rfl (by decide +kernel) ⟨Nat.le_of_ble_eq_true rfl, Nat.le_of_ble_eq_true rfl⟩) (xm_pre hw _) rfl rfl hl.1 rfl (lv_room (Nat.le_of_ble_eq_true rfl)) d_Mo_tells_70 ⟨Nat.le_of_ble_eq_true rfl, Nat.le_of_ble_eq_true rfl⟩) hw (fun r_9 _ H locs h hw => ?_)
          refine lv_iload hx hb d_Mo_tells_73 (lv_at hl 4 rfl) ?_
          obtain ⟨hin, h⟩ := h
          refine xm_zast hx hb hw 1 (k_told v_3 m_told) rfl hin d_Mo_tells_75 (fun H locs hw => ?_)
          have hw : xm_W D xcl (xT cI cZ cJ cO) (xm_A ad (CE m_thrown m_told) s.heap.size) ad (CE v_3 (upd m_told (Int32.toNatClampNeg r_9) (vp_nar .boolean p3))) s s.heap H locs := xm_W.cast (u_told v_3 m_told (upd m_told (Int32.toNatClampNeg r_9) (vp_nar .boolean p3))) hw
          obtain ⟨m_told_11, em_told_11⟩ : ∃ z : Nat → Int32, z = upd m_told (Int32.toNatClampNeg r_9) (vp_nar .boolean p3) := ⟨_, rfl⟩
          have h := h m_told_11 em_told_11
          rw [← em_told_11] at hw
          refine lv_iconst (v := 1) hx hb d_Mo_tells_76 (by decide) ?_
          subst hQQ
          exact xm_zret hx hb hr hlk rfl hw (v_3, m_told_11) rfl rfl h d_Mo_tells_77
        · have h := h.2 hc
          exact hJ_6 () h _ _ _ hw (lv_sub hl [] rfl)
  · refine xj_use h (fun (v_12 : Unit) => ∀ (H : Heap) (locs : List Loc) (ls : Array Slot), xm_W D xcl (xT cI cZ cJ cO) (xm_A ad (CE m_thrown m_told) s.heap.size) ad (CE m_thrown m_told) s s.heap H locs → lv_has ls 5 [(0, .ref (ad iM)), (1, .int p0), (2, .int p1), (3, .int p2), (4, .int p3)] → W p l e rm_Mo_tells s m args below meth c H locs 0 0 QQ (F0 m 34 ls [.ref (ad iM)])) (fun v_12 h H locs ls hw hl => ?_) (fun J_13 hJ_13 h => ?_)
    · refine lv_iconst (v := 1) hx hb d_Mo_tells_34 (by decide) ?_
      exact hJ_4 1 h _ _ _ hw (lv_sub hl [0, 1, 2, 3, 4] rfl)
    · refine lv_if_eq (tgt := 34) hx hb d_Mo_tells_6 (by decide) (fun hc => ?_) (fun hc => ?_)
      · have h := h.1 hc
        exact hJ_13 () h _ _ _ hw (lv_sub hl [0, 1, 2, 3, 4] rfl)
      · have h := h.2 hc
        refine lv_aload_n hx hb d_Mo_tells_9 rfl (lv_at hl 0 rfl) ?_
        refine xm_get (D := D) (v := .ref (ad i_ruled)) (C := R_Mo) (T := F_Mo) (N := 28) hx hb hts (fun w h => List.mem_cons_of_mem _ (i_Mo w h)) hown hw (k_M m_thrown m_told) rfl 2 (by decide) (hts _ (List.mem_cons_of_mem _ xw_564)) (fun _ h9 => h9) rfl d_Mo_tells_10 ?_
        refine lv_iload_n hx hb d_Mo_tells_13 rfl (lv_at hl 1 rfl) ?_
        obtain ⟨hin, h⟩ := h
        refine xm_zald hx hb hw 1 (k_ruled m_thrown m_told) rfl hin d_Mo_tells_14 ?_
        refine lv_if_ne (tgt := 34) hx hb d_Mo_tells_15 (by decide) (fun hc => ?_) (fun hc => ?_)
        · have h := h.1 hc
          exact hJ_13 () h _ _ _ hw (lv_sub hl [0, 1, 2, 3, 4] rfl)
        · have h := h.2 hc
          refine lv_aload_n hx hb d_Mo_tells_18 rfl (lv_at hl 0 rfl) ?_
          refine lv_iload_n hx hb d_Mo_tells_19 rfl (lv_at hl 1 rfl) ?_
          refine lv_iload_n hx hb d_Mo_tells_20 rfl (lv_at hl 2 rfl) ?_
          refine lv_iload_n hx hb d_Mo_tells_21 rfl (lv_at hl 3 rfl) ?_
          refine lv_bipush (v := 9) hx hb d_Mo_tells_22 (by decide) ?_
          refine xm_calli (ua := fun _ => ad) (va_runV (As := [.int p0, .int p1, .int p2, .int 9]) (rest := [.ref (ad iM)]) ⟨hx, hb, hml, hown, hts⟩ (c_Mo_fit (D := D) (ad := ad) (CE := ((CE m_thrown m_told)))  (k_M m_thrown m_told) (k_places m_thrown m_told) h _) (xg_cwV 4 hts xw_673 xw_670 xw_672 xw_p25 xw_8 rfl rfl (by decide +kernel) ⟨Nat.le_of_ble_eq_true rfl, Nat.le_of_ble_eq_true rfl⟩) (xm_preV hw (k_M m_thrown m_told) rfl _) rfl rfl hl.1 rfl (lv_room (Nat.le_of_ble_eq_true rfl)) d_Mo_tells_24 ⟨Nat.le_of_ble_eq_true rfl, Nat.le_of_ble_eq_true rfl⟩) hw (fun r_14 _ H locs h hw => ?_)
          refine lv_if_eq (tgt := 34) hx hb d_Mo_tells_27 (by decide) (fun hc => ?_) (fun hc => ?_)
          · have h := h.1 hc
            exact hJ_13 () h _ _ _ hw (lv_sub hl [0, 1, 2, 3, 4] rfl)
          · have h := h.2 hc
            refine lv_iconst (v := 0) hx hb d_Mo_tells_30 (by decide) ?_
            refine lv_goto (tgt := 35) hx hb d_Mo_tells_31 (by decide) ?_
            exact hJ_4 0 h _ _ _ hw (lv_sub hl [0, 1, 2, 3, 4] rfl)
theorem xw_665 : (Jvm.Cond.code ({ cls := "QuestionDeskModel", name := "tells", desc := "(IIIZ)Z" } : Jvm.MethodName) prog_6_method_8_code (5 : Nat) (Option.some Jvm.ClassFile.FieldType.boolean)) ∈ xg := xg_t (i := 665) (by decide +kernel) (by decide +kernel)
theorem xw_662 : (Jvm.Cond.methodLink "QuestionDeskModel" (76 : Nat) ({ cls := "QuestionDeskModel", name := "tells", desc := "(IIIZ)Z" } : Jvm.MethodName)) ∈ xg := xg_t (i := 662) (by decide +kernel) (by decide +kernel)
theorem xw_664 : (Jvm.Cond.instanceMethod ({ cls := "QuestionDeskModel", name := "tells", desc := "(IIIZ)Z" } : Jvm.MethodName)) ∈ xg := xg_t (i := 664) (by decide +kernel) (by decide +kernel)
theorem xw_p23 : Cond.selects "QuestionDeskModel" ⟨"QuestionDeskModel", "tells", "(IIIZ)Z"⟩ ⟨"QuestionDeskModel", "tells", "(IIIZ)Z"⟩ ∈ xg := xg_p (q := (⟨"QuestionDeskModel", "tells", "(IIIZ)Z"⟩, 28)) (i := 23) (by decide +kernel) (by decide +kernel)
def wp_Mo_fact (post : Int32 → Int32 → (Nat → Int32) → Prop)  (m_places : Nat → Int32) (m_ruled : Nat → Int32) (m_predicates : Int32) (m_thrown : Int32) (m_told : Nat → Int32) (p0 : Int32) (p1 : Int32) (p2 : Int32) : Prop :=
wp_Mo_tells (fun r_1 m_thrown_3 m_told_4 =>
(narrow .boolean (.int r_1) = .int r_1 ∧ post r_1 m_thrown_3 m_told_4)) m_places m_ruled m_predicates m_thrown m_told p0 p1 p2 1
abbrev rm_Mo_fact : Room := { frames := 3, cells := 0, slots := 0, locals := 70 }
set_option maxHeartbeats 4000000 in
set_option maxRecDepth 100000 in
theorem c_Mo_fact {l : Launch} {D : va_G} {ad : Nat → Nat} (CE : Int32 → (Nat → Int32) → Nat → Option va_E) {cI cZ cJ cO : ClassId} {iM : Nat} {i_places : Nat} {i_ruled : Nat} {i_told : Nat} {i_model : Nat} {i_ofAtom : Nat} {i_left : Nat} {i_right : Nat} {i_size : Nat} {i_calls : Nat} {i_row : Nat} {i_patterns : Nat} {i_values : Nat} {i_by : Nat} {i_choice : Nat} {m_places : Nat → Int32} {m_ruled : Nat → Int32} {m_predicates : Int32} {m_rules : Int32} {m_begun : Int32} {m_asked : Int32} {m_asksOf : Int32} {m_asksLeft : Int32} {m_asksRight : Int32} {m_hadPredicates : Int32} {m_inRow : Int32} {m_rewritten : Int32} {m_rule : Int32} {m_atoms : Int32} {m_depth : Int32} (k_M : ∀ (m_thrown : Int32) (m_told : Nat → Int32), (CE m_thrown m_told) iM = some (.inr (4, [.int m_thrown, .ref (ad i_places), .ref (ad i_ruled), .int m_predicates, .ref (ad i_told), .ref (ad i_model), .ref (ad i_ofAtom), .ref (ad i_left), .ref (ad i_right), .ref (ad i_size), .int m_rules, .int m_begun, .int m_asked, .int m_asksOf, .int m_asksLeft, .int m_asksRight, .int m_hadPredicates, .ref (ad i_calls), .ref (ad i_row), .int m_inRow, .ref (ad i_patterns), .int m_rewritten, .ref (ad i_values), .ref (ad i_by), .ref (ad i_choice), .int m_rule, .int m_atoms, .int m_depth]))) (k_places : ∀ (m_thrown : Int32) (m_told : Nat → Int32), (CE m_thrown m_told) i_places = some (.inl (cI, 10, .inl m_places))) (k_ruled : ∀ (m_thrown : Int32) (m_told : Nat → Int32), (CE m_thrown m_told) i_ruled = some (.inl (cZ, 10, .inl m_ruled))) (k_told : ∀ (m_thrown : Int32) (m_told : Nat → Int32), (CE m_thrown m_told) i_told = some (.inl (cZ, 1000, .inl m_told))) (u_M : ∀ (m_thrown : Int32) (m_told : Nat → Int32) (m_thrown' : Int32), va_up (CE m_thrown m_told) iM (some (.inr (4, [.int m_thrown', .ref (ad i_places), .ref (ad i_ruled), .int m_predicates, .ref (ad i_told), .ref (ad i_model), .ref (ad i_ofAtom), .ref (ad i_left), .ref (ad i_right), .ref (ad i_size), .int m_rules, .int m_begun, .int m_asked, .int m_asksOf, .int m_asksLeft, .int m_asksRight, .int m_hadPredicates, .ref (ad i_calls), .ref (ad i_row), .int m_inRow, .ref (ad i_patterns), .int m_rewritten, .ref (ad i_values), .ref (ad i_by), .ref (ad i_choice), .int m_rule, .int m_atoms, .int m_depth]))) = (CE m_thrown' m_told)) (u_told : ∀ (m_thrown : Int32) (m_told : Nat → Int32) (m_told' : Nat → Int32), va_up (CE m_thrown m_told) i_told (some (.inl (cZ, 1000, .inl m_told'))) = (CE m_thrown m_told')) {post : Int32 → Int32 → (Nat → Int32) → Prop} {m_thrown : Int32} {m_told : Nat → Int32} {p0 : Int32} {p1 : Int32} {p2 : Int32} (h : wp_Mo_fact post m_places m_ruled m_predicates m_thrown m_told p0 p1 p2) : ∀ sz, Met l y_Mo_fact (Cond.code y_Mo_fact b_Mo_fact 4 (some .boolean) :: xg) rm_Mo_fact (xm_Pc D xcl (xT cI cZ cJ cO) ad (CE m_thrown m_told) sz [.ref (ad iM), .int p0, .int p1, .int p2]) (va_Qi (fun (r : Int32) (u : Int32 × (Nat → Int32)) => post r u.1 u.2) (xm_B D xcl (xT cI cZ cJ cO) (xm_A ad (CE m_thrown m_told) sz) (fun _ => ad) (fun u : Int32 × (Nat → Int32) => CE u.1 u.2)) (xm_A ad (CE m_thrown m_told) sz)) 0 0 (xm_A ad (CE m_thrown m_told) sz) := by
  refine xm_ofW (cc := b_Mo_fact) (maxL := 4) (ret := (some .boolean)) (by decide) rfl (Nat.le_of_ble_eq_true rfl) ?_
  intro p e s m args below meth c ls QQ hQQ hx hb hml hr hown hlk hnm hts hl hw
  have hl : lv_has ls 4 [(0, .ref (ad iM)), (1, .int p0), (2, .int p1), (3, .int p2)] := hl
  unfold wp_Mo_fact at h
  refine lv_aload_n hx hb d_Mo_fact_0 rfl (lv_at hl 0 rfl) ?_
  refine lv_iload_n hx hb d_Mo_fact_1 rfl (lv_at hl 1 rfl) ?_
  refine lv_iload_n hx hb d_Mo_fact_2 rfl (lv_at hl 2 rfl) ?_
  refine lv_iload_n hx hb d_Mo_fact_3 rfl (lv_at hl 3 rfl) ?_
  refine lv_iconst (v := 1) hx hb d_Mo_fact_4 (by decide) ?_
  refine xm_calli (ua := fun _ => ad) (va_runV (As := [.int p0, .int p1, .int p2, .int 1]) (rest := []) ⟨hx, hb, hml, hown, hts⟩ (c_Mo_tells (D := D) (ad := ad) (CE := (fun m_thrown m_told => (CE m_thrown m_told)))  (fun m_thrown m_told => k_M m_thrown m_told) (fun m_thrown m_told => k_places m_thrown m_told) (fun m_thrown m_told => k_ruled m_thrown m_told) (fun m_thrown m_told => k_told m_thrown m_told) (fun m_thrown m_told m_thrown' => u_M m_thrown m_told m_thrown') (fun m_thrown m_told m_told' => u_told m_thrown m_told m_told') h _) (xg_cwV 4 hts xw_665 xw_662 xw_664 xw_p23 xw_8 rfl rfl (by decide +kernel) ⟨Nat.le_of_ble_eq_true rfl, Nat.le_of_ble_eq_true rfl⟩) (xm_preV hw (k_M m_thrown m_told) rfl _) rfl rfl hl.1 rfl (lv_room (Nat.le_of_ble_eq_true rfl)) d_Mo_fact_5 ⟨Nat.le_of_ble_eq_true rfl, Nat.le_of_ble_eq_true rfl⟩) hw (fun r_1 u_2 H locs h hw => ?_)
  obtain ⟨m_thrown_3, em_thrown_3⟩ : ∃ z, z = u_2.1 := ⟨_, rfl⟩
  obtain ⟨m_told_4, em_told_4⟩ : ∃ z, z = u_2.2 := ⟨_, rfl⟩
  try dsimp only at h hw
  rw [← em_thrown_3, ← em_told_4] at h hw
  subst hQQ
  exact xm_zret hx hb hr hlk h.1 hw (m_thrown_3, m_told_4) rfl rfl h.2 d_Mo_fact_8
def wp_Mo_drop (post : Int32 → Int32 → (Nat → Int32) → Prop)  (m_places : Nat → Int32) (m_ruled : Nat → Int32) (m_predicates : Int32) (m_thrown : Int32) (m_told : Nat → Int32) (p0 : Int32) (p1 : Int32) (p2 : Int32) : Prop :=
wp_Mo_tells (fun r_1 m_thrown_3 m_told_4 =>
(narrow .boolean (.int r_1) = .int r_1 ∧ post r_1 m_thrown_3 m_told_4)) m_places m_ruled m_predicates m_thrown m_told p0 p1 p2 0
abbrev rm_Mo_drop : Room := { frames := 3, cells := 0, slots := 0, locals := 70 }
set_option maxHeartbeats 4000000 in
set_option maxRecDepth 100000 in
theorem c_Mo_drop {l : Launch} {D : va_G} {ad : Nat → Nat} (CE : Int32 → (Nat → Int32) → Nat → Option va_E) {cI cZ cJ cO : ClassId} {iM : Nat} {i_places : Nat} {i_ruled : Nat} {i_told : Nat} {i_model : Nat} {i_ofAtom : Nat} {i_left : Nat} {i_right : Nat} {i_size : Nat} {i_calls : Nat} {i_row : Nat} {i_patterns : Nat} {i_values : Nat} {i_by : Nat} {i_choice : Nat} {m_places : Nat → Int32} {m_ruled : Nat → Int32} {m_predicates : Int32} {m_rules : Int32} {m_begun : Int32} {m_asked : Int32} {m_asksOf : Int32} {m_asksLeft : Int32} {m_asksRight : Int32} {m_hadPredicates : Int32} {m_inRow : Int32} {m_rewritten : Int32} {m_rule : Int32} {m_atoms : Int32} {m_depth : Int32} (k_M : ∀ (m_thrown : Int32) (m_told : Nat → Int32), (CE m_thrown m_told) iM = some (.inr (4, [.int m_thrown, .ref (ad i_places), .ref (ad i_ruled), .int m_predicates, .ref (ad i_told), .ref (ad i_model), .ref (ad i_ofAtom), .ref (ad i_left), .ref (ad i_right), .ref (ad i_size), .int m_rules, .int m_begun, .int m_asked, .int m_asksOf, .int m_asksLeft, .int m_asksRight, .int m_hadPredicates, .ref (ad i_calls), .ref (ad i_row), .int m_inRow, .ref (ad i_patterns), .int m_rewritten, .ref (ad i_values), .ref (ad i_by), .ref (ad i_choice), .int m_rule, .int m_atoms, .int m_depth]))) (k_places : ∀ (m_thrown : Int32) (m_told : Nat → Int32), (CE m_thrown m_told) i_places = some (.inl (cI, 10, .inl m_places))) (k_ruled : ∀ (m_thrown : Int32) (m_told : Nat → Int32), (CE m_thrown m_told) i_ruled = some (.inl (cZ, 10, .inl m_ruled))) (k_told : ∀ (m_thrown : Int32) (m_told : Nat → Int32), (CE m_thrown m_told) i_told = some (.inl (cZ, 1000, .inl m_told))) (u_M : ∀ (m_thrown : Int32) (m_told : Nat → Int32) (m_thrown' : Int32), va_up (CE m_thrown m_told) iM (some (.inr (4, [.int m_thrown', .ref (ad i_places), .ref (ad i_ruled), .int m_predicates, .ref (ad i_told), .ref (ad i_model), .ref (ad i_ofAtom), .ref (ad i_left), .ref (ad i_right), .ref (ad i_size), .int m_rules, .int m_begun, .int m_asked, .int m_asksOf, .int m_asksLeft, .int m_asksRight, .int m_hadPredicates, .ref (ad i_calls), .ref (ad i_row), .int m_inRow, .ref (ad i_patterns), .int m_rewritten, .ref (ad i_values), .ref (ad i_by), .ref (ad i_choice), .int m_rule, .int m_atoms, .int m_depth]))) = (CE m_thrown' m_told)) (u_told : ∀ (m_thrown : Int32) (m_told : Nat → Int32) (m_told' : Nat → Int32), va_up (CE m_thrown m_told) i_told (some (.inl (cZ, 1000, .inl m_told'))) = (CE m_thrown m_told')) {post : Int32 → Int32 → (Nat → Int32) → Prop} {m_thrown : Int32} {m_told : Nat → Int32} {p0 : Int32} {p1 : Int32} {p2 : Int32} (h : wp_Mo_drop post m_places m_ruled m_predicates m_thrown m_told p0 p1 p2) : ∀ sz, Met l y_Mo_drop (Cond.code y_Mo_drop b_Mo_drop 4 (some .boolean) :: xg) rm_Mo_drop (xm_Pc D xcl (xT cI cZ cJ cO) ad (CE m_thrown m_told) sz [.ref (ad iM), .int p0, .int p1, .int p2]) (va_Qi (fun (r : Int32) (u : Int32 × (Nat → Int32)) => post r u.1 u.2) (xm_B D xcl (xT cI cZ cJ cO) (xm_A ad (CE m_thrown m_told) sz) (fun _ => ad) (fun u : Int32 × (Nat → Int32) => CE u.1 u.2)) (xm_A ad (CE m_thrown m_told) sz)) 0 0 (xm_A ad (CE m_thrown m_told) sz) := by
  refine xm_ofW (cc := b_Mo_drop) (maxL := 4) (ret := (some .boolean)) (by decide) rfl (Nat.le_of_ble_eq_true rfl) ?_
  intro p e s m args below meth c ls QQ hQQ hx hb hml hr hown hlk hnm hts hl hw
  have hl : lv_has ls 4 [(0, .ref (ad iM)), (1, .int p0), (2, .int p1), (3, .int p2)] := hl
  unfold wp_Mo_drop at h
  refine lv_aload_n hx hb d_Mo_drop_0 rfl (lv_at hl 0 rfl) ?_
  refine lv_iload_n hx hb d_Mo_drop_1 rfl (lv_at hl 1 rfl) ?_
  refine lv_iload_n hx hb d_Mo_drop_2 rfl (lv_at hl 2 rfl) ?_
  refine lv_iload_n hx hb d_Mo_drop_3 rfl (lv_at hl 3 rfl) ?_
  refine lv_iconst (v := 0) hx hb d_Mo_drop_4 (by decide) ?_
  refine xm_calli (ua := fun _ => ad) (va_runV (As := [.int p0, .int p1, .int p2, .int 0]) (rest := []) ⟨hx, hb, hml, hown, hts⟩ (c_Mo_tells (D := D) (ad := ad) (CE := (fun m_thrown m_told => (CE m_thrown m_told)))  (fun m_thrown m_told => k_M m_thrown m_told) (fun m_thrown m_told => k_places m_thrown m_told) (fun m_thrown m_told => k_ruled m_thrown m_told) (fun m_thrown m_told => k_told m_thrown m_told) (fun m_thrown m_told m_thrown' => u_M m_thrown m_told m_thrown') (fun m_thrown m_told m_told' => u_told m_thrown m_told m_told') h _) (xg_cwV 4 hts xw_665 xw_662 xw_664 xw_p23 xw_8 rfl rfl (by decide +kernel) ⟨Nat.le_of_ble_eq_true rfl, Nat.le_of_ble_eq_true rfl⟩) (xm_preV hw (k_M m_thrown m_told) rfl _) rfl rfl hl.1 rfl (lv_room (Nat.le_of_ble_eq_true rfl)) d_Mo_drop_5 ⟨Nat.le_of_ble_eq_true rfl, Nat.le_of_ble_eq_true rfl⟩) hw (fun r_1 u_2 H locs h hw => ?_)
  obtain ⟨m_thrown_3, em_thrown_3⟩ : ∃ z, z = u_2.1 := ⟨_, rfl⟩
  obtain ⟨m_told_4, em_told_4⟩ : ∃ z, z = u_2.2 := ⟨_, rfl⟩
  try dsimp only at h hw
  rw [← em_thrown_3, ← em_told_4] at h hw
  subst hQQ
  exact xm_zret hx hb hr hlk h.1 hw (m_thrown_3, m_told_4) rfl rfl h.2 d_Mo_drop_8
theorem xw_568 : (Jvm.Cond.fieldLink "QuestionDeskModel" (23 : Nat) "QuestionDeskModel" "ofAtom" "[I") ∈ xg := xg_t (i := 568) (by decide +kernel) (by decide +kernel)
theorem xw_569 : (Jvm.Cond.fieldLink "QuestionDeskModel" (26 : Nat) "QuestionDeskModel" "left" "[I") ∈ xg := xg_t (i := 569) (by decide +kernel) (by decide +kernel)
theorem xw_570 : (Jvm.Cond.fieldLink "QuestionDeskModel" (29 : Nat) "QuestionDeskModel" "right" "[I") ∈ xg := xg_t (i := 570) (by decide +kernel) (by decide +kernel)
def wp_Mo_atom (post : (Nat → Int32) → (Nat → Int32) → (Nat → Int32) → Prop)  (m_ofAtom : Nat → Int32) (m_left : Nat → Int32) (m_right : Nat → Int32) (p0 : Int32) (p1 : Int32) (p2 : Int32) (p3 : Int32) : Prop :=
vp_in p0 124 ∧
∀ m_ofAtom_1 : Nat → Int32, m_ofAtom_1 = upd m_ofAtom (Int32.toNatClampNeg p0) p1 →
vp_in p0 124 ∧
∀ m_left_2 : Nat → Int32, m_left_2 = upd m_left (Int32.toNatClampNeg p0) p2 →
vp_in p0 124 ∧
∀ m_right_3 : Nat → Int32, m_right_3 = upd m_right (Int32.toNatClampNeg p0) p3 →
post m_ofAtom_1 m_left_2 m_right_3
abbrev rm_Mo_atom : Room := { frames := 0, cells := 0, slots := 0, locals := 0 }
set_option maxHeartbeats 4000000 in
set_option maxRecDepth 100000 in
theorem c_Mo_atom {l : Launch} {D : va_G} {ad : Nat → Nat} (CE : (Nat → Int32) → (Nat → Int32) → (Nat → Int32) → Nat → Option va_E) {cI cZ cJ cO : ClassId} {iM : Nat} {i_places : Nat} {i_ruled : Nat} {i_told : Nat} {i_model : Nat} {i_ofAtom : Nat} {i_left : Nat} {i_right : Nat} {i_size : Nat} {i_calls : Nat} {i_row : Nat} {i_patterns : Nat} {i_values : Nat} {i_by : Nat} {i_choice : Nat} {m_thrown : Int32} {m_predicates : Int32} {m_rules : Int32} {m_begun : Int32} {m_asked : Int32} {m_asksOf : Int32} {m_asksLeft : Int32} {m_asksRight : Int32} {m_hadPredicates : Int32} {m_inRow : Int32} {m_rewritten : Int32} {m_rule : Int32} {m_atoms : Int32} {m_depth : Int32} (k_M : ∀ (m_ofAtom : Nat → Int32) (m_left : Nat → Int32) (m_right : Nat → Int32), (CE m_ofAtom m_left m_right) iM = some (.inr (4, [.int m_thrown, .ref (ad i_places), .ref (ad i_ruled), .int m_predicates, .ref (ad i_told), .ref (ad i_model), .ref (ad i_ofAtom), .ref (ad i_left), .ref (ad i_right), .ref (ad i_size), .int m_rules, .int m_begun, .int m_asked, .int m_asksOf, .int m_asksLeft, .int m_asksRight, .int m_hadPredicates, .ref (ad i_calls), .ref (ad i_row), .int m_inRow, .ref (ad i_patterns), .int m_rewritten, .ref (ad i_values), .ref (ad i_by), .ref (ad i_choice), .int m_rule, .int m_atoms, .int m_depth]))) (k_ofAtom : ∀ (m_ofAtom : Nat → Int32) (m_left : Nat → Int32) (m_right : Nat → Int32), (CE m_ofAtom m_left m_right) i_ofAtom = some (.inl (cI, 124, .inl m_ofAtom))) (k_left : ∀ (m_ofAtom : Nat → Int32) (m_left : Nat → Int32) (m_right : Nat → Int32), (CE m_ofAtom m_left m_right) i_left = some (.inl (cI, 124, .inl m_left))) (k_right : ∀ (m_ofAtom : Nat → Int32) (m_left : Nat → Int32) (m_right : Nat → Int32), (CE m_ofAtom m_left m_right) i_right = some (.inl (cI, 124, .inl m_right))) (u_ofAtom : ∀ (m_ofAtom : Nat → Int32) (m_left : Nat → Int32) (m_right : Nat → Int32) (m_ofAtom' : Nat → Int32), va_up (CE m_ofAtom m_left m_right) i_ofAtom (some (.inl (cI, 124, .inl m_ofAtom'))) = (CE m_ofAtom' m_left m_right)) (u_left : ∀ (m_ofAtom : Nat → Int32) (m_left : Nat → Int32) (m_right : Nat → Int32) (m_left' : Nat → Int32), va_up (CE m_ofAtom m_left m_right) i_left (some (.inl (cI, 124, .inl m_left'))) = (CE m_ofAtom m_left' m_right)) (u_right : ∀ (m_ofAtom : Nat → Int32) (m_left : Nat → Int32) (m_right : Nat → Int32) (m_right' : Nat → Int32), va_up (CE m_ofAtom m_left m_right) i_right (some (.inl (cI, 124, .inl m_right'))) = (CE m_ofAtom m_left m_right')) {post : (Nat → Int32) → (Nat → Int32) → (Nat → Int32) → Prop} {m_ofAtom : Nat → Int32} {m_left : Nat → Int32} {m_right : Nat → Int32} {p0 : Int32} {p1 : Int32} {p2 : Int32} {p3 : Int32} (h : wp_Mo_atom post m_ofAtom m_left m_right p0 p1 p2 p3) : ∀ sz, Met l y_Mo_atom (Cond.code y_Mo_atom b_Mo_atom 5 none :: xg) rm_Mo_atom (xm_Pc D xcl (xT cI cZ cJ cO) ad (CE m_ofAtom m_left m_right) sz [.ref (ad iM), .int p0, .int p1, .int p2, .int p3]) (va_Qv (fun u : (Nat → Int32) × (Nat → Int32) × (Nat → Int32) => post u.1 u.2.1 u.2.2) (xm_B D xcl (xT cI cZ cJ cO) (xm_A ad (CE m_ofAtom m_left m_right) sz) (fun _ => ad) (fun u : (Nat → Int32) × (Nat → Int32) × (Nat → Int32) => CE u.1 u.2.1 u.2.2)) (xm_A ad (CE m_ofAtom m_left m_right) sz)) 0 0 (xm_A ad (CE m_ofAtom m_left m_right) sz) := by
  refine xm_ofW (cc := b_Mo_atom) (maxL := 5) (ret := none) (by decide) rfl (Nat.le_of_ble_eq_true rfl) ?_
  intro p e s m args below meth c ls QQ hQQ hx hb hml hr hown hlk hnm hts hl hw
  have hl : lv_has ls 5 [(0, .ref (ad iM)), (1, .int p0), (2, .int p1), (3, .int p2), (4, .int p3)] := hl
  unfold wp_Mo_atom at h
  refine lv_aload_n hx hb d_Mo_atom_0 rfl (lv_at hl 0 rfl) ?_
  refine xm_get (D := D) (v := .ref (ad i_ofAtom)) (C := R_Mo) (T := F_Mo) (N := 28) hx hb hts (fun w h => List.mem_cons_of_mem _ (i_Mo w h)) hown hw (k_M m_ofAtom m_left m_right) rfl 6 (by decide) (hts _ (List.mem_cons_of_mem _ xw_568)) (fun _ h9 => h9) rfl d_Mo_atom_1 ?_
  refine lv_iload_n hx hb d_Mo_atom_4 rfl (lv_at hl 1 rfl) ?_
  refine lv_iload_n hx hb d_Mo_atom_5 rfl (lv_at hl 2 rfl) ?_
  obtain ⟨hin, h⟩ := h
  refine xm_iast hx hb hw 0 (k_ofAtom m_ofAtom m_left m_right) rfl hin d_Mo_atom_6 (fun H locs hw => ?_)
  have hw : xm_W D xcl (xT cI cZ cJ cO) (xm_A ad (CE m_ofAtom m_left m_right) s.heap.size) ad (CE (upd m_ofAtom (Int32.toNatClampNeg p0) p1) m_left m_right) s s.heap H locs := xm_W.cast (u_ofAtom m_ofAtom m_left m_right (upd m_ofAtom (Int32.toNatClampNeg p0) p1)) hw
  obtain ⟨m_ofAtom_1, em_ofAtom_1⟩ : ∃ z : Nat → Int32, z = upd m_ofAtom (Int32.toNatClampNeg p0) p1 := ⟨_, rfl⟩
  have h := h m_ofAtom_1 em_ofAtom_1
  rw [← em_ofAtom_1] at hw
  refine lv_aload_n hx hb d_Mo_atom_7 rfl (lv_at hl 0 rfl) ?_
  refine xm_get (D := D) (v := .ref (ad i_left)) (C := R_Mo) (T := F_Mo) (N := 28) hx hb hts (fun w h => List.mem_cons_of_mem _ (i_Mo w h)) hown hw (k_M m_ofAtom_1 m_left m_right) rfl 7 (by decide) (hts _ (List.mem_cons_of_mem _ xw_569)) (fun _ h9 => h9) rfl d_Mo_atom_8 ?_
  refine lv_iload_n hx hb d_Mo_atom_11 rfl (lv_at hl 1 rfl) ?_
  refine lv_iload_n hx hb d_Mo_atom_12 rfl (lv_at hl 3 rfl) ?_
  obtain ⟨hin, h⟩ := h
  refine xm_iast hx hb hw 0 (k_left m_ofAtom_1 m_left m_right) rfl hin d_Mo_atom_13 (fun H locs hw => ?_)
  have hw : xm_W D xcl (xT cI cZ cJ cO) (xm_A ad (CE m_ofAtom m_left m_right) s.heap.size) ad (CE m_ofAtom_1 (upd m_left (Int32.toNatClampNeg p0) p2) m_right) s s.heap H locs := xm_W.cast (u_left m_ofAtom_1 m_left m_right (upd m_left (Int32.toNatClampNeg p0) p2)) hw
  obtain ⟨m_left_2, em_left_2⟩ : ∃ z : Nat → Int32, z = upd m_left (Int32.toNatClampNeg p0) p2 := ⟨_, rfl⟩
  have h := h m_left_2 em_left_2
  rw [← em_left_2] at hw
  refine lv_aload_n hx hb d_Mo_atom_14 rfl (lv_at hl 0 rfl) ?_
  refine xm_get (D := D) (v := .ref (ad i_right)) (C := R_Mo) (T := F_Mo) (N := 28) hx hb hts (fun w h => List.mem_cons_of_mem _ (i_Mo w h)) hown hw (k_M m_ofAtom_1 m_left_2 m_right) rfl 8 (by decide) (hts _ (List.mem_cons_of_mem _ xw_570)) (fun _ h9 => h9) rfl d_Mo_atom_15 ?_
  refine lv_iload_n hx hb d_Mo_atom_18 rfl (lv_at hl 1 rfl) ?_
  refine lv_iload hx hb d_Mo_atom_19 (lv_at hl 4 rfl) ?_
  obtain ⟨hin, h⟩ := h
  refine xm_iast hx hb hw 0 (k_right m_ofAtom_1 m_left_2 m_right) rfl hin d_Mo_atom_21 (fun H locs hw => ?_)
  have hw : xm_W D xcl (xT cI cZ cJ cO) (xm_A ad (CE m_ofAtom m_left m_right) s.heap.size) ad (CE m_ofAtom_1 m_left_2 (upd m_right (Int32.toNatClampNeg p0) p3)) s s.heap H locs := xm_W.cast (u_right m_ofAtom_1 m_left_2 m_right (upd m_right (Int32.toNatClampNeg p0) p3)) hw
  obtain ⟨m_right_3, em_right_3⟩ : ∃ z : Nat → Int32, z = upd m_right (Int32.toNatClampNeg p0) p3 := ⟨_, rfl⟩
  have h := h m_right_3 em_right_3
  rw [← em_right_3] at hw
  subst hQQ
  exact xm_vret hx hb hr hlk hw (m_ofAtom_1, m_left_2, m_right_3) rfl rfl h d_Mo_atom_22
