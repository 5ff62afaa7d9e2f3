abbrev b_Qd_hasPlaces : ByteArray := prog_1_method_18_code
def y_Qd_hasPlaces : MethodName := ⟨"QuestionDesk", "hasPlaces", "(IIIII)Z"⟩
theorem d_Qd_hasPlaces_0 : decode b_Qd_hasPlaces 0 = .ok (.iload_n 1, 1) := by decide +kernel
theorem d_Qd_hasPlaces_1 : decode b_Qd_hasPlaces 1 = .ok (.ifCond .lt 23, 3) := by decide +kernel
theorem d_Qd_hasPlaces_4 : decode b_Qd_hasPlaces 4 = .ok (.iload_n 1, 1) := by decide +kernel
theorem d_Qd_hasPlaces_5 : decode b_Qd_hasPlaces 5 = .ok (.aload_n 0, 1) := by decide +kernel
theorem d_Qd_hasPlaces_6 : decode b_Qd_hasPlaces 6 = .ok (.getfield 17, 3) := by decide +kernel
theorem d_Qd_hasPlaces_9 : decode b_Qd_hasPlaces 9 = .ok (.if_icmp .ge 15, 3) := by decide +kernel
theorem d_Qd_hasPlaces_12 : decode b_Qd_hasPlaces 12 = .ok (.iload_n 2, 1) := by decide +kernel
theorem d_Qd_hasPlaces_13 : decode b_Qd_hasPlaces 13 = .ok (.iload 4, 2) := by decide +kernel
theorem d_Qd_hasPlaces_15 : decode b_Qd_hasPlaces 15 = .ok (.if_icmp .lt 9, 3) := by decide +kernel
theorem d_Qd_hasPlaces_18 : decode b_Qd_hasPlaces 18 = .ok (.iload_n 2, 1) := by decide +kernel
theorem d_Qd_hasPlaces_19 : decode b_Qd_hasPlaces 19 = .ok (.iload 5, 2) := by decide +kernel
theorem d_Qd_hasPlaces_21 : decode b_Qd_hasPlaces 21 = .ok (.if_icmp .le 5, 3) := by decide +kernel
theorem d_Qd_hasPlaces_24 : decode b_Qd_hasPlaces 24 = .ok (.iconst 0, 1) := by decide +kernel
theorem d_Qd_hasPlaces_25 : decode b_Qd_hasPlaces 25 = .ok (.ireturn, 1) := by decide +kernel
theorem d_Qd_hasPlaces_26 : decode b_Qd_hasPlaces 26 = .ok (.aload_n 0, 1) := by decide +kernel
theorem d_Qd_hasPlaces_27 : decode b_Qd_hasPlaces 27 = .ok (.getfield 9, 3) := by decide +kernel
theorem d_Qd_hasPlaces_30 : decode b_Qd_hasPlaces 30 = .ok (.iload_n 1, 1) := by decide +kernel
theorem d_Qd_hasPlaces_31 : decode b_Qd_hasPlaces 31 = .ok (.iaload, 1) := by decide +kernel
theorem d_Qd_hasPlaces_32 : decode b_Qd_hasPlaces 32 = .ok (.iconst 1, 1) := by decide +kernel
theorem d_Qd_hasPlaces_33 : decode b_Qd_hasPlaces 33 = .ok (.if_icmp .ne 16, 3) := by decide +kernel
theorem d_Qd_hasPlaces_36 : decode b_Qd_hasPlaces 36 = .ok (.iload_n 3, 1) := by decide +kernel
theorem d_Qd_hasPlaces_37 : decode b_Qd_hasPlaces 37 = .ok (.iconst (-1), 1) := by decide +kernel
theorem d_Qd_hasPlaces_38 : decode b_Qd_hasPlaces 38 = .ok (.if_icmp .ne 7, 3) := by decide +kernel
theorem d_Qd_hasPlaces_41 : decode b_Qd_hasPlaces 41 = .ok (.iconst 1, 1) := by decide +kernel
theorem d_Qd_hasPlaces_42 : decode b_Qd_hasPlaces 42 = .ok (.goto 24, 3) := by decide +kernel
theorem d_Qd_hasPlaces_45 : decode b_Qd_hasPlaces 45 = .ok (.iconst 0, 1) := by decide +kernel
theorem d_Qd_hasPlaces_46 : decode b_Qd_hasPlaces 46 = .ok (.goto 20, 3) := by decide +kernel
theorem d_Qd_hasPlaces_49 : decode b_Qd_hasPlaces 49 = .ok (.iload_n 3, 1) := by decide +kernel
theorem d_Qd_hasPlaces_50 : decode b_Qd_hasPlaces 50 = .ok (.iload 4, 2) := by decide +kernel
theorem d_Qd_hasPlaces_52 : decode b_Qd_hasPlaces 52 = .ok (.if_icmp .lt 13, 3) := by decide +kernel
theorem d_Qd_hasPlaces_55 : decode b_Qd_hasPlaces 55 = .ok (.iload_n 3, 1) := by decide +kernel
theorem d_Qd_hasPlaces_56 : decode b_Qd_hasPlaces 56 = .ok (.iload 5, 2) := by decide +kernel
theorem d_Qd_hasPlaces_58 : decode b_Qd_hasPlaces 58 = .ok (.if_icmp .gt 7, 3) := by decide +kernel
theorem d_Qd_hasPlaces_61 : decode b_Qd_hasPlaces 61 = .ok (.iconst 1, 1) := by decide +kernel
theorem d_Qd_hasPlaces_62 : decode b_Qd_hasPlaces 62 = .ok (.goto 4, 3) := by decide +kernel
theorem d_Qd_hasPlaces_65 : decode b_Qd_hasPlaces 65 = .ok (.iconst 0, 1) := by decide +kernel
theorem d_Qd_hasPlaces_66 : decode b_Qd_hasPlaces 66 = .ok (.ireturn, 1) := by decide +kernel
abbrev b_Qd_addPattern : ByteArray := prog_1_method_24_code
def y_Qd_addPattern : MethodName := ⟨"QuestionDesk", "addPattern", "(III)Z"⟩
theorem d_Qd_addPattern_0 : decode b_Qd_addPattern 0 = .ok (.iload_n 2, 1) := by decide +kernel
theorem d_Qd_addPattern_1 : decode b_Qd_addPattern 1 = .ok (.iconst (-1), 1) := by decide +kernel
theorem d_Qd_addPattern_2 : decode b_Qd_addPattern 2 = .ok (.if_icmp .ne 7, 3) := by decide +kernel
theorem d_Qd_addPattern_5 : decode b_Qd_addPattern 5 = .ok (.iconst 0, 1) := by decide +kernel
theorem d_Qd_addPattern_6 : decode b_Qd_addPattern 6 = .ok (.goto 4, 3) := by decide +kernel
theorem d_Qd_addPattern_9 : decode b_Qd_addPattern 9 = .ok (.iconst 1, 1) := by decide +kernel
theorem d_Qd_addPattern_10 : decode b_Qd_addPattern 10 = .ok (.iload_n 3, 1) := by decide +kernel
theorem d_Qd_addPattern_11 : decode b_Qd_addPattern 11 = .ok (.iconst (-1), 1) := by decide +kernel
theorem d_Qd_addPattern_12 : decode b_Qd_addPattern 12 = .ok (.if_icmp .ne 7, 3) := by decide +kernel
theorem d_Qd_addPattern_15 : decode b_Qd_addPattern 15 = .ok (.iconst 0, 1) := by decide +kernel
theorem d_Qd_addPattern_16 : decode b_Qd_addPattern 16 = .ok (.goto 4, 3) := by decide +kernel
theorem d_Qd_addPattern_19 : decode b_Qd_addPattern 19 = .ok (.iconst 2, 1) := by decide +kernel
theorem d_Qd_addPattern_20 : decode b_Qd_addPattern 20 = .ok (.iadd, 1) := by decide +kernel
theorem d_Qd_addPattern_21 : decode b_Qd_addPattern 21 = .ok (.istore 4, 2) := by decide +kernel
theorem d_Qd_addPattern_23 : decode b_Qd_addPattern 23 = .ok (.aload_n 0, 1) := by decide +kernel
theorem d_Qd_addPattern_24 : decode b_Qd_addPattern 24 = .ok (.getfield 54, 3) := by decide +kernel
theorem d_Qd_addPattern_27 : decode b_Qd_addPattern 27 = .ok (.iload_n 1, 1) := by decide +kernel
theorem d_Qd_addPattern_28 : decode b_Qd_addPattern 28 = .ok (.iaload, 1) := by decide +kernel
theorem d_Qd_addPattern_29 : decode b_Qd_addPattern 29 = .ok (.istore 5, 2) := by decide +kernel
theorem d_Qd_addPattern_31 : decode b_Qd_addPattern 31 = .ok (.aload_n 0, 1) := by decide +kernel
theorem d_Qd_addPattern_32 : decode b_Qd_addPattern 32 = .ok (.getfield 54, 3) := by decide +kernel
theorem d_Qd_addPattern_35 : decode b_Qd_addPattern 35 = .ok (.iload_n 1, 1) := by decide +kernel
theorem d_Qd_addPattern_36 : decode b_Qd_addPattern 36 = .ok (.iload 5, 2) := by decide +kernel
theorem d_Qd_addPattern_38 : decode b_Qd_addPattern 38 = .ok (.iconst 1, 1) := by decide +kernel
theorem d_Qd_addPattern_39 : decode b_Qd_addPattern 39 = .ok (.iload 4, 2) := by decide +kernel
theorem d_Qd_addPattern_41 : decode b_Qd_addPattern 41 = .ok (.ishl, 1) := by decide +kernel
theorem d_Qd_addPattern_42 : decode b_Qd_addPattern 42 = .ok (.ior, 1) := by decide +kernel
theorem d_Qd_addPattern_43 : decode b_Qd_addPattern 43 = .ok (.iastore, 1) := by decide +kernel
theorem d_Qd_addPattern_44 : decode b_Qd_addPattern 44 = .ok (.aload_n 0, 1) := by decide +kernel
theorem d_Qd_addPattern_45 : decode b_Qd_addPattern 45 = .ok (.getfield 54, 3) := by decide +kernel
theorem d_Qd_addPattern_48 : decode b_Qd_addPattern 48 = .ok (.iload_n 1, 1) := by decide +kernel
theorem d_Qd_addPattern_49 : decode b_Qd_addPattern 49 = .ok (.iaload, 1) := by decide +kernel
theorem d_Qd_addPattern_50 : decode b_Qd_addPattern 50 = .ok (.iload 5, 2) := by decide +kernel
theorem d_Qd_addPattern_52 : decode b_Qd_addPattern 52 = .ok (.if_icmp .eq 7, 3) := by decide +kernel
theorem d_Qd_addPattern_55 : decode b_Qd_addPattern 55 = .ok (.iconst 1, 1) := by decide +kernel
theorem d_Qd_addPattern_56 : decode b_Qd_addPattern 56 = .ok (.goto 4, 3) := by decide +kernel
theorem d_Qd_addPattern_59 : decode b_Qd_addPattern 59 = .ok (.iconst 0, 1) := by decide +kernel
theorem d_Qd_addPattern_60 : decode b_Qd_addPattern 60 = .ok (.ireturn, 1) := by decide +kernel
abbrev b_Qd_startCalls : ByteArray := prog_1_method_21_code
def y_Qd_startCalls : MethodName := ⟨"QuestionDesk", "startCalls", "(III)V"⟩
theorem d_Qd_startCalls_0 : decode b_Qd_startCalls 0 = .ok (.iconst 0, 1) := by decide +kernel
theorem d_Qd_startCalls_1 : decode b_Qd_startCalls 1 = .ok (.istore 4, 2) := by decide +kernel
theorem d_Qd_startCalls_3 : decode b_Qd_startCalls 3 = .ok (.iload 4, 2) := by decide +kernel
theorem d_Qd_startCalls_5 : decode b_Qd_startCalls 5 = .ok (.bipush 10, 2) := by decide +kernel
theorem d_Qd_startCalls_7 : decode b_Qd_startCalls 7 = .ok (.if_icmp .ge 17, 3) := by decide +kernel
theorem d_Qd_startCalls_10 : decode b_Qd_startCalls 10 = .ok (.aload_n 0, 1) := by decide +kernel
theorem d_Qd_startCalls_11 : decode b_Qd_startCalls 11 = .ok (.getfield 54, 3) := by decide +kernel
theorem d_Qd_startCalls_14 : decode b_Qd_startCalls 14 = .ok (.iload 4, 2) := by decide +kernel
theorem d_Qd_startCalls_16 : decode b_Qd_startCalls 16 = .ok (.iconst 0, 1) := by decide +kernel
theorem d_Qd_startCalls_17 : decode b_Qd_startCalls 17 = .ok (.iastore, 1) := by decide +kernel
theorem d_Qd_startCalls_18 : decode b_Qd_startCalls 18 = .ok (.iinc 4 1, 3) := by decide +kernel
theorem d_Qd_startCalls_21 : decode b_Qd_startCalls 21 = .ok (.goto (-18), 3) := by decide +kernel
theorem d_Qd_startCalls_24 : decode b_Qd_startCalls 24 = .ok (.aload_n 0, 1) := by decide +kernel
theorem d_Qd_startCalls_25 : decode b_Qd_startCalls 25 = .ok (.getfield 13, 3) := by decide +kernel
theorem d_Qd_startCalls_28 : decode b_Qd_startCalls 28 = .ok (.iload_n 1, 1) := by decide +kernel
theorem d_Qd_startCalls_29 : decode b_Qd_startCalls 29 = .ok (.baload, 1) := by decide +kernel
theorem d_Qd_startCalls_30 : decode b_Qd_startCalls 30 = .ok (.ifCond .eq 43, 3) := by decide +kernel
theorem d_Qd_startCalls_33 : decode b_Qd_startCalls 33 = .ok (.iload_n 2, 1) := by decide +kernel
theorem d_Qd_startCalls_34 : decode b_Qd_startCalls 34 = .ok (.iconst 0, 1) := by decide +kernel
theorem d_Qd_startCalls_35 : decode b_Qd_startCalls 35 = .ok (.invokestatic 183, 3) := by decide +kernel
theorem d_Qd_startCalls_38 : decode b_Qd_startCalls 38 = .ok (.istore 4, 2) := by decide +kernel
theorem d_Qd_startCalls_40 : decode b_Qd_startCalls 40 = .ok (.iload_n 3, 1) := by decide +kernel
theorem d_Qd_startCalls_41 : decode b_Qd_startCalls 41 = .ok (.iconst 0, 1) := by decide +kernel
theorem d_Qd_startCalls_42 : decode b_Qd_startCalls 42 = .ok (.invokestatic 183, 3) := by decide +kernel
theorem d_Qd_startCalls_45 : decode b_Qd_startCalls 45 = .ok (.istore 5, 2) := by decide +kernel
theorem d_Qd_startCalls_47 : decode b_Qd_startCalls 47 = .ok (.aload_n 0, 1) := by decide +kernel
theorem d_Qd_startCalls_48 : decode b_Qd_startCalls 48 = .ok (.iload_n 1, 1) := by decide +kernel
theorem d_Qd_startCalls_49 : decode b_Qd_startCalls 49 = .ok (.iload 4, 2) := by decide +kernel
theorem d_Qd_startCalls_51 : decode b_Qd_startCalls 51 = .ok (.iload 5, 2) := by decide +kernel
theorem d_Qd_startCalls_53 : decode b_Qd_startCalls 53 = .ok (.invokevirtual 186, 3) := by decide +kernel
theorem d_Qd_startCalls_56 : decode b_Qd_startCalls 56 = .ok (.pop, 1) := by decide +kernel
theorem d_Qd_startCalls_57 : decode b_Qd_startCalls 57 = .ok (.aload_n 0, 1) := by decide +kernel
theorem d_Qd_startCalls_58 : decode b_Qd_startCalls 58 = .ok (.getfield 35, 3) := by decide +kernel
theorem d_Qd_startCalls_61 : decode b_Qd_startCalls 61 = .ok (.bipush 10, 2) := by decide +kernel
theorem d_Qd_startCalls_63 : decode b_Qd_startCalls 63 = .ok (.iload_n 1, 1) := by decide +kernel
theorem d_Qd_startCalls_64 : decode b_Qd_startCalls 64 = .ok (.iadd, 1) := by decide +kernel
theorem d_Qd_startCalls_65 : decode b_Qd_startCalls 65 = .ok (.iload 4, 2) := by decide +kernel
theorem d_Qd_startCalls_67 : decode b_Qd_startCalls 67 = .ok (.iload 5, 2) := by decide +kernel
theorem d_Qd_startCalls_69 : decode b_Qd_startCalls 69 = .ok (.invokevirtual 75, 3) := by decide +kernel
theorem d_Qd_startCalls_72 : decode b_Qd_startCalls 72 = .ok (.pop, 1) := by decide +kernel
theorem d_Qd_startCalls_73 : decode b_Qd_startCalls 73 = .ok (.return_, 1) := by decide +kernel
abbrev b_Qd_findAnswers : ByteArray := prog_1_method_20_code
def y_Qd_findAnswers : MethodName := ⟨"QuestionDesk", "findAnswers", "(III)V"⟩
theorem d_Qd_findAnswers_0 : decode b_Qd_findAnswers 0 = .ok (.aload_n 0, 1) := by decide +kernel
theorem d_Qd_findAnswers_1 : decode b_Qd_findAnswers 1 = .ok (.getfield 51, 3) := by decide +kernel
theorem d_Qd_findAnswers_4 : decode b_Qd_findAnswers 4 = .ok (.bipush 30, 2) := by decide +kernel
theorem d_Qd_findAnswers_6 : decode b_Qd_findAnswers 6 = .ok (.iload_n 2, 1) := by decide +kernel
theorem d_Qd_findAnswers_7 : decode b_Qd_findAnswers 7 = .ok (.iload_n 3, 1) := by decide +kernel
theorem d_Qd_findAnswers_8 : decode b_Qd_findAnswers 8 = .ok (.invokevirtual 82, 3) := by decide +kernel
theorem d_Qd_findAnswers_11 : decode b_Qd_findAnswers 11 = .ok (.aload_n 0, 1) := by decide +kernel
theorem d_Qd_findAnswers_12 : decode b_Qd_findAnswers 12 = .ok (.getfield 51, 3) := by decide +kernel
theorem d_Qd_findAnswers_15 : decode b_Qd_findAnswers 15 = .ok (.iconst 0, 1) := by decide +kernel
theorem d_Qd_findAnswers_16 : decode b_Qd_findAnswers 16 = .ok (.iload_n 1, 1) := by decide +kernel
theorem d_Qd_findAnswers_17 : decode b_Qd_findAnswers 17 = .ok (.iadd, 1) := by decide +kernel
theorem d_Qd_findAnswers_18 : decode b_Qd_findAnswers 18 = .ok (.iload_n 2, 1) := by decide +kernel
theorem d_Qd_findAnswers_19 : decode b_Qd_findAnswers 19 = .ok (.iload_n 3, 1) := by decide +kernel
theorem d_Qd_findAnswers_20 : decode b_Qd_findAnswers 20 = .ok (.invokevirtual 96, 3) := by decide +kernel
theorem d_Qd_findAnswers_23 : decode b_Qd_findAnswers 23 = .ok (.aload_n 0, 1) := by decide +kernel
theorem d_Qd_findAnswers_24 : decode b_Qd_findAnswers 24 = .ok (.getfield 44, 3) := by decide +kernel
theorem d_Qd_findAnswers_27 : decode b_Qd_findAnswers 27 = .ok (.aload_n 0, 1) := by decide +kernel
theorem d_Qd_findAnswers_28 : decode b_Qd_findAnswers 28 = .ok (.getfield 51, 3) := by decide +kernel
theorem d_Qd_findAnswers_31 : decode b_Qd_findAnswers 31 = .ok (.invokevirtual 179, 3) := by decide +kernel
theorem d_Qd_findAnswers_34 : decode b_Qd_findAnswers 34 = .ok (.pop, 1) := by decide +kernel
theorem d_Qd_findAnswers_35 : decode b_Qd_findAnswers 35 = .ok (.return_, 1) := by decide +kernel
abbrev b_Qd_calledForRow : ByteArray := prog_1_method_29_code
def y_Qd_calledForRow : MethodName := ⟨"QuestionDesk", "calledForRow", "(II)I"⟩
theorem d_Qd_calledForRow_0 : decode b_Qd_calledForRow 0 = .ok (.aload_n 0, 1) := by decide +kernel
theorem d_Qd_calledForRow_1 : decode b_Qd_calledForRow 1 = .ok (.getfield 35, 3) := by decide +kernel
theorem d_Qd_calledForRow_4 : decode b_Qd_calledForRow 4 = .ok (.iconst 0, 1) := by decide +kernel
theorem d_Qd_calledForRow_5 : decode b_Qd_calledForRow 5 = .ok (.iload_n 1, 1) := by decide +kernel
theorem d_Qd_calledForRow_6 : decode b_Qd_calledForRow 6 = .ok (.iadd, 1) := by decide +kernel
theorem d_Qd_calledForRow_7 : decode b_Qd_calledForRow 7 = .ok (.iload_n 2, 1) := by decide +kernel
theorem d_Qd_calledForRow_8 : decode b_Qd_calledForRow 8 = .ok (.invokevirtual 213, 3) := by decide +kernel
theorem d_Qd_calledForRow_11 : decode b_Qd_calledForRow 11 = .ok (.istore_n 3, 1) := by decide +kernel
theorem d_Qd_calledForRow_12 : decode b_Qd_calledForRow 12 = .ok (.aload_n 0, 1) := by decide +kernel
theorem d_Qd_calledForRow_13 : decode b_Qd_calledForRow 13 = .ok (.getfield 35, 3) := by decide +kernel
theorem d_Qd_calledForRow_16 : decode b_Qd_calledForRow 16 = .ok (.bipush 10, 2) := by decide +kernel
theorem d_Qd_calledForRow_18 : decode b_Qd_calledForRow 18 = .ok (.iload_n 1, 1) := by decide +kernel
theorem d_Qd_calledForRow_19 : decode b_Qd_calledForRow 19 = .ok (.iadd, 1) := by decide +kernel
theorem d_Qd_calledForRow_20 : decode b_Qd_calledForRow 20 = .ok (.iconst (-1), 1) := by decide +kernel
theorem d_Qd_calledForRow_21 : decode b_Qd_calledForRow 21 = .ok (.invokevirtual 213, 3) := by decide +kernel
theorem d_Qd_calledForRow_24 : decode b_Qd_calledForRow 24 = .ok (.aload_n 0, 1) := by decide +kernel
theorem d_Qd_calledForRow_25 : decode b_Qd_calledForRow 25 = .ok (.getfield 35, 3) := by decide +kernel
theorem d_Qd_calledForRow_28 : decode b_Qd_calledForRow 28 = .ok (.bipush 10, 2) := by decide +kernel
theorem d_Qd_calledForRow_30 : decode b_Qd_calledForRow 30 = .ok (.iload_n 1, 1) := by decide +kernel
theorem d_Qd_calledForRow_31 : decode b_Qd_calledForRow 31 = .ok (.iadd, 1) := by decide +kernel
theorem d_Qd_calledForRow_32 : decode b_Qd_calledForRow 32 = .ok (.iload_n 2, 1) := by decide +kernel
theorem d_Qd_calledForRow_33 : decode b_Qd_calledForRow 33 = .ok (.invokevirtual 213, 3) := by decide +kernel
theorem d_Qd_calledForRow_36 : decode b_Qd_calledForRow 36 = .ok (.ior, 1) := by decide +kernel
theorem d_Qd_calledForRow_37 : decode b_Qd_calledForRow 37 = .ok (.istore 4, 2) := by decide +kernel
theorem d_Qd_calledForRow_39 : decode b_Qd_calledForRow 39 = .ok (.iload 4, 2) := by decide +kernel
theorem d_Qd_calledForRow_41 : decode b_Qd_calledForRow 41 = .ok (.iconst (-1), 1) := by decide +kernel
theorem d_Qd_calledForRow_42 : decode b_Qd_calledForRow 42 = .ok (.invokestatic 147, 3) := by decide +kernel
theorem d_Qd_calledForRow_45 : decode b_Qd_calledForRow 45 = .ok (.ifCond .eq 7, 3) := by decide +kernel
theorem d_Qd_calledForRow_48 : decode b_Qd_calledForRow 48 = .ok (.iload_n 3, 1) := by decide +kernel
theorem d_Qd_calledForRow_49 : decode b_Qd_calledForRow 49 = .ok (.goto 7, 3) := by decide +kernel
theorem d_Qd_calledForRow_52 : decode b_Qd_calledForRow 52 = .ok (.iload_n 3, 1) := by decide +kernel
theorem d_Qd_calledForRow_53 : decode b_Qd_calledForRow 53 = .ok (.iload 4, 2) := by decide +kernel
theorem d_Qd_calledForRow_55 : decode b_Qd_calledForRow 55 = .ok (.iand, 1) := by decide +kernel
theorem d_Qd_calledForRow_56 : decode b_Qd_calledForRow 56 = .ok (.ireturn, 1) := by decide +kernel
abbrev b_Qd_calledForSize : ByteArray := prog_1_method_30_code
def y_Qd_calledForSize : MethodName := ⟨"QuestionDesk", "calledForSize", "(I)I"⟩
theorem d_Qd_calledForSize_0 : decode b_Qd_calledForSize 0 = .ok (.iconst 0, 1) := by decide +kernel
theorem d_Qd_calledForSize_1 : decode b_Qd_calledForSize 1 = .ok (.istore_n 2, 1) := by decide +kernel
theorem d_Qd_calledForSize_2 : decode b_Qd_calledForSize 2 = .ok (.iconst 0, 1) := by decide +kernel
theorem d_Qd_calledForSize_3 : decode b_Qd_calledForSize 3 = .ok (.istore_n 3, 1) := by decide +kernel
theorem d_Qd_calledForSize_4 : decode b_Qd_calledForSize 4 = .ok (.iload_n 3, 1) := by decide +kernel
theorem d_Qd_calledForSize_5 : decode b_Qd_calledForSize 5 = .ok (.bipush 10, 2) := by decide +kernel
theorem d_Qd_calledForSize_7 : decode b_Qd_calledForSize 7 = .ok (.if_icmp .ge 21, 3) := by decide +kernel
theorem d_Qd_calledForSize_10 : decode b_Qd_calledForSize 10 = .ok (.iload_n 2, 1) := by decide +kernel
theorem d_Qd_calledForSize_11 : decode b_Qd_calledForSize 11 = .ok (.aload_n 0, 1) := by decide +kernel
theorem d_Qd_calledForSize_12 : decode b_Qd_calledForSize 12 = .ok (.iload_n 1, 1) := by decide +kernel
theorem d_Qd_calledForSize_13 : decode b_Qd_calledForSize 13 = .ok (.iload_n 3, 1) := by decide +kernel
theorem d_Qd_calledForSize_14 : decode b_Qd_calledForSize 14 = .ok (.invokevirtual 143, 3) := by decide +kernel
theorem d_Qd_calledForSize_17 : decode b_Qd_calledForSize 17 = .ok (.invokestatic 154, 3) := by decide +kernel
theorem d_Qd_calledForSize_20 : decode b_Qd_calledForSize 20 = .ok (.iadd, 1) := by decide +kernel
theorem d_Qd_calledForSize_21 : decode b_Qd_calledForSize 21 = .ok (.istore_n 2, 1) := by decide +kernel
theorem d_Qd_calledForSize_22 : decode b_Qd_calledForSize 22 = .ok (.iinc 3 1, 3) := by decide +kernel
theorem d_Qd_calledForSize_25 : decode b_Qd_calledForSize 25 = .ok (.goto (-21), 3) := by decide +kernel
theorem d_Qd_calledForSize_28 : decode b_Qd_calledForSize 28 = .ok (.iload_n 2, 1) := by decide +kernel
theorem d_Qd_calledForSize_29 : decode b_Qd_calledForSize 29 = .ok (.ireturn, 1) := by decide +kernel
abbrev b_Qd_calledForOfAll : ByteArray := prog_1_method_31_code
def y_Qd_calledForOfAll : MethodName := ⟨"QuestionDesk", "calledForOfAll", "()I"⟩
theorem d_Qd_calledForOfAll_0 : decode b_Qd_calledForOfAll 0 = .ok (.iconst 0, 1) := by decide +kernel
theorem d_Qd_calledForOfAll_1 : decode b_Qd_calledForOfAll 1 = .ok (.istore_n 1, 1) := by decide +kernel
theorem d_Qd_calledForOfAll_2 : decode b_Qd_calledForOfAll 2 = .ok (.iconst 0, 1) := by decide +kernel
theorem d_Qd_calledForOfAll_3 : decode b_Qd_calledForOfAll 3 = .ok (.istore_n 2, 1) := by decide +kernel
theorem d_Qd_calledForOfAll_4 : decode b_Qd_calledForOfAll 4 = .ok (.iload_n 2, 1) := by decide +kernel
theorem d_Qd_calledForOfAll_5 : decode b_Qd_calledForOfAll 5 = .ok (.bipush 10, 2) := by decide +kernel
theorem d_Qd_calledForOfAll_7 : decode b_Qd_calledForOfAll 7 = .ok (.if_icmp .ge 17, 3) := by decide +kernel
theorem d_Qd_calledForOfAll_10 : decode b_Qd_calledForOfAll 10 = .ok (.iload_n 1, 1) := by decide +kernel
theorem d_Qd_calledForOfAll_11 : decode b_Qd_calledForOfAll 11 = .ok (.aload_n 0, 1) := by decide +kernel
theorem d_Qd_calledForOfAll_12 : decode b_Qd_calledForOfAll 12 = .ok (.iload_n 2, 1) := by decide +kernel
theorem d_Qd_calledForOfAll_13 : decode b_Qd_calledForOfAll 13 = .ok (.invokevirtual 151, 3) := by decide +kernel
theorem d_Qd_calledForOfAll_16 : decode b_Qd_calledForOfAll 16 = .ok (.iadd, 1) := by decide +kernel
theorem d_Qd_calledForOfAll_17 : decode b_Qd_calledForOfAll 17 = .ok (.istore_n 1, 1) := by decide +kernel
theorem d_Qd_calledForOfAll_18 : decode b_Qd_calledForOfAll 18 = .ok (.iinc 2 1, 3) := by decide +kernel
theorem d_Qd_calledForOfAll_21 : decode b_Qd_calledForOfAll 21 = .ok (.goto (-17), 3) := by decide +kernel
theorem d_Qd_calledForOfAll_24 : decode b_Qd_calledForOfAll 24 = .ok (.iload_n 1, 1) := by decide +kernel
theorem d_Qd_calledForOfAll_25 : decode b_Qd_calledForOfAll 25 = .ok (.ireturn, 1) := by decide +kernel
abbrev b_Qd_patternsOfAll : ByteArray := prog_1_method_32_code
def y_Qd_patternsOfAll : MethodName := ⟨"QuestionDesk", "patternsOfAll", "()I"⟩
theorem d_Qd_patternsOfAll_0 : decode b_Qd_patternsOfAll 0 = .ok (.iconst 0, 1) := by decide +kernel
theorem d_Qd_patternsOfAll_1 : decode b_Qd_patternsOfAll 1 = .ok (.istore_n 1, 1) := by decide +kernel
theorem d_Qd_patternsOfAll_2 : decode b_Qd_patternsOfAll 2 = .ok (.iconst 0, 1) := by decide +kernel
theorem d_Qd_patternsOfAll_3 : decode b_Qd_patternsOfAll 3 = .ok (.istore_n 2, 1) := by decide +kernel
theorem d_Qd_patternsOfAll_4 : decode b_Qd_patternsOfAll 4 = .ok (.iload_n 2, 1) := by decide +kernel
theorem d_Qd_patternsOfAll_5 : decode b_Qd_patternsOfAll 5 = .ok (.bipush 10, 2) := by decide +kernel
theorem d_Qd_patternsOfAll_7 : decode b_Qd_patternsOfAll 7 = .ok (.if_icmp .ge 21, 3) := by decide +kernel
theorem d_Qd_patternsOfAll_10 : decode b_Qd_patternsOfAll 10 = .ok (.iload_n 1, 1) := by decide +kernel
theorem d_Qd_patternsOfAll_11 : decode b_Qd_patternsOfAll 11 = .ok (.aload_n 0, 1) := by decide +kernel
theorem d_Qd_patternsOfAll_12 : decode b_Qd_patternsOfAll 12 = .ok (.getfield 54, 3) := by decide +kernel
theorem d_Qd_patternsOfAll_15 : decode b_Qd_patternsOfAll 15 = .ok (.iload_n 2, 1) := by decide +kernel
theorem d_Qd_patternsOfAll_16 : decode b_Qd_patternsOfAll 16 = .ok (.iaload, 1) := by decide +kernel
theorem d_Qd_patternsOfAll_17 : decode b_Qd_patternsOfAll 17 = .ok (.invokestatic 154, 3) := by decide +kernel
theorem d_Qd_patternsOfAll_20 : decode b_Qd_patternsOfAll 20 = .ok (.iadd, 1) := by decide +kernel
theorem d_Qd_patternsOfAll_21 : decode b_Qd_patternsOfAll 21 = .ok (.istore_n 1, 1) := by decide +kernel
theorem d_Qd_patternsOfAll_22 : decode b_Qd_patternsOfAll 22 = .ok (.iinc 2 1, 3) := by decide +kernel
theorem d_Qd_patternsOfAll_25 : decode b_Qd_patternsOfAll 25 = .ok (.goto (-21), 3) := by decide +kernel
theorem d_Qd_patternsOfAll_28 : decode b_Qd_patternsOfAll 28 = .ok (.iload_n 1, 1) := by decide +kernel
theorem d_Qd_patternsOfAll_29 : decode b_Qd_patternsOfAll 29 = .ok (.ireturn, 1) := by decide +kernel
abbrev b_Qd_sizeOfAll : ByteArray := prog_1_method_33_code
def y_Qd_sizeOfAll : MethodName := ⟨"QuestionDesk", "sizeOfAll", "(I)I"⟩
theorem d_Qd_sizeOfAll_0 : decode b_Qd_sizeOfAll 0 = .ok (.iconst 0, 1) := by decide +kernel
theorem d_Qd_sizeOfAll_1 : decode b_Qd_sizeOfAll 1 = .ok (.istore_n 2, 1) := by decide +kernel
theorem d_Qd_sizeOfAll_2 : decode b_Qd_sizeOfAll 2 = .ok (.iconst 0, 1) := by decide +kernel
theorem d_Qd_sizeOfAll_3 : decode b_Qd_sizeOfAll 3 = .ok (.istore_n 3, 1) := by decide +kernel
theorem d_Qd_sizeOfAll_4 : decode b_Qd_sizeOfAll 4 = .ok (.iload_n 3, 1) := by decide +kernel
theorem d_Qd_sizeOfAll_5 : decode b_Qd_sizeOfAll 5 = .ok (.bipush 10, 2) := by decide +kernel
theorem d_Qd_sizeOfAll_7 : decode b_Qd_sizeOfAll 7 = .ok (.if_icmp .ge 22, 3) := by decide +kernel
theorem d_Qd_sizeOfAll_10 : decode b_Qd_sizeOfAll 10 = .ok (.iload_n 2, 1) := by decide +kernel
theorem d_Qd_sizeOfAll_11 : decode b_Qd_sizeOfAll 11 = .ok (.aload_n 0, 1) := by decide +kernel
theorem d_Qd_sizeOfAll_12 : decode b_Qd_sizeOfAll 12 = .ok (.getfield 35, 3) := by decide +kernel
theorem d_Qd_sizeOfAll_15 : decode b_Qd_sizeOfAll 15 = .ok (.iload_n 1, 1) := by decide +kernel
theorem d_Qd_sizeOfAll_16 : decode b_Qd_sizeOfAll 16 = .ok (.iload_n 3, 1) := by decide +kernel
theorem d_Qd_sizeOfAll_17 : decode b_Qd_sizeOfAll 17 = .ok (.iadd, 1) := by decide +kernel
theorem d_Qd_sizeOfAll_18 : decode b_Qd_sizeOfAll 18 = .ok (.invokevirtual 137, 3) := by decide +kernel
theorem d_Qd_sizeOfAll_21 : decode b_Qd_sizeOfAll 21 = .ok (.iadd, 1) := by decide +kernel
theorem d_Qd_sizeOfAll_22 : decode b_Qd_sizeOfAll 22 = .ok (.istore_n 2, 1) := by decide +kernel
theorem d_Qd_sizeOfAll_23 : decode b_Qd_sizeOfAll 23 = .ok (.iinc 3 1, 3) := by decide +kernel
theorem d_Qd_sizeOfAll_26 : decode b_Qd_sizeOfAll 26 = .ok (.goto (-22), 3) := by decide +kernel
theorem d_Qd_sizeOfAll_29 : decode b_Qd_sizeOfAll 29 = .ok (.iload_n 2, 1) := by decide +kernel
theorem d_Qd_sizeOfAll_30 : decode b_Qd_sizeOfAll 30 = .ok (.ireturn, 1) := by decide +kernel
abbrev b_Qd_countOfQuestion : ByteArray := prog_1_method_16_code
def y_Qd_countOfQuestion : MethodName := ⟨"QuestionDesk", "countOfQuestion", "(I)I"⟩
theorem d_Qd_countOfQuestion_0 : decode b_Qd_countOfQuestion 0 = .ok (.iload_n 1, 1) := by decide +kernel
theorem d_Qd_countOfQuestion_1 : decode b_Qd_countOfQuestion 1 = .ok (.tableswitch 53 3 6 #[31, 36, 41, 48], 31) := by decide +kernel
theorem d_Qd_countOfQuestion_32 : decode b_Qd_countOfQuestion 32 = .ok (.aload_n 0, 1) := by decide +kernel
theorem d_Qd_countOfQuestion_33 : decode b_Qd_countOfQuestion 33 = .ok (.invokevirtual 165, 3) := by decide +kernel
theorem d_Qd_countOfQuestion_36 : decode b_Qd_countOfQuestion 36 = .ok (.ireturn, 1) := by decide +kernel
theorem d_Qd_countOfQuestion_37 : decode b_Qd_countOfQuestion 37 = .ok (.aload_n 0, 1) := by decide +kernel
theorem d_Qd_countOfQuestion_38 : decode b_Qd_countOfQuestion 38 = .ok (.getfield 57, 3) := by decide +kernel
theorem d_Qd_countOfQuestion_41 : decode b_Qd_countOfQuestion 41 = .ok (.ireturn, 1) := by decide +kernel
theorem d_Qd_countOfQuestion_42 : decode b_Qd_countOfQuestion 42 = .ok (.aload_n 0, 1) := by decide +kernel
theorem d_Qd_countOfQuestion_43 : decode b_Qd_countOfQuestion 43 = .ok (.bipush 10, 2) := by decide +kernel
theorem d_Qd_countOfQuestion_45 : decode b_Qd_countOfQuestion 45 = .ok (.invokevirtual 159, 3) := by decide +kernel
theorem d_Qd_countOfQuestion_48 : decode b_Qd_countOfQuestion 48 = .ok (.ireturn, 1) := by decide +kernel
theorem d_Qd_countOfQuestion_49 : decode b_Qd_countOfQuestion 49 = .ok (.aload_n 0, 1) := by decide +kernel
theorem d_Qd_countOfQuestion_50 : decode b_Qd_countOfQuestion 50 = .ok (.invokevirtual 168, 3) := by decide +kernel
theorem d_Qd_countOfQuestion_53 : decode b_Qd_countOfQuestion 53 = .ok (.ireturn, 1) := by decide +kernel
theorem d_Qd_countOfQuestion_54 : decode b_Qd_countOfQuestion 54 = .ok (.iconst (-1), 1) := by decide +kernel
theorem d_Qd_countOfQuestion_55 : decode b_Qd_countOfQuestion 55 = .ok (.ireturn, 1) := by decide +kernel
abbrev b_Qd_answer : ByteArray := prog_1_method_10_code
def y_Qd_answer : MethodName := ⟨"QuestionDesk", "answer", "(I)I"⟩
theorem d_Qd_answer_0 : decode b_Qd_answer 0 = .ok (.iconst 0, 1) := by decide +kernel
theorem d_Qd_answer_1 : decode b_Qd_answer 1 = .ok (.istore_n 2, 1) := by decide +kernel
theorem d_Qd_answer_2 : decode b_Qd_answer 2 = .ok (.iconst 0, 1) := by decide +kernel
theorem d_Qd_answer_3 : decode b_Qd_answer 3 = .ok (.istore_n 3, 1) := by decide +kernel
theorem d_Qd_answer_4 : decode b_Qd_answer 4 = .ok (.iload_n 3, 1) := by decide +kernel
theorem d_Qd_answer_5 : decode b_Qd_answer 5 = .ok (.bipush 10, 2) := by decide +kernel
theorem d_Qd_answer_7 : decode b_Qd_answer 7 = .ok (.if_icmp .ge 66, 3) := by decide +kernel
theorem d_Qd_answer_10 : decode b_Qd_answer 10 = .ok (.iconst (-1), 1) := by decide +kernel
theorem d_Qd_answer_11 : decode b_Qd_answer 11 = .ok (.istore 4, 2) := by decide +kernel
theorem d_Qd_answer_13 : decode b_Qd_answer 13 = .ok (.iload 4, 2) := by decide +kernel
theorem d_Qd_answer_15 : decode b_Qd_answer 15 = .ok (.bipush 10, 2) := by decide +kernel
theorem d_Qd_answer_17 : decode b_Qd_answer 17 = .ok (.if_icmp .ge 50, 3) := by decide +kernel
theorem d_Qd_answer_20 : decode b_Qd_answer 20 = .ok (.aload_n 0, 1) := by decide +kernel
theorem d_Qd_answer_21 : decode b_Qd_answer 21 = .ok (.getfield 35, 3) := by decide +kernel
theorem d_Qd_answer_24 : decode b_Qd_answer 24 = .ok (.bipush 30, 2) := by decide +kernel
theorem d_Qd_answer_26 : decode b_Qd_answer 26 = .ok (.iload_n 3, 1) := by decide +kernel
theorem d_Qd_answer_27 : decode b_Qd_answer 27 = .ok (.iload 4, 2) := by decide +kernel
theorem d_Qd_answer_29 : decode b_Qd_answer 29 = .ok (.invokevirtual 140, 3) := by decide +kernel
theorem d_Qd_answer_32 : decode b_Qd_answer 32 = .ok (.ifCond .eq 29, 3) := by decide +kernel
theorem d_Qd_answer_35 : decode b_Qd_answer 35 = .ok (.iload_n 2, 1) := by decide +kernel
theorem d_Qd_answer_36 : decode b_Qd_answer 36 = .ok (.iload_n 1, 1) := by decide +kernel
theorem d_Qd_answer_37 : decode b_Qd_answer 37 = .ok (.if_icmp .ne 21, 3) := by decide +kernel
theorem d_Qd_answer_40 : decode b_Qd_answer 40 = .ok (.iload 4, 2) := by decide +kernel
theorem d_Qd_answer_42 : decode b_Qd_answer 42 = .ok (.iconst (-1), 1) := by decide +kernel
theorem d_Qd_answer_43 : decode b_Qd_answer 43 = .ok (.if_icmp .ne 7, 3) := by decide +kernel
theorem d_Qd_answer_46 : decode b_Qd_answer 46 = .ok (.iload_n 3, 1) := by decide +kernel
theorem d_Qd_answer_47 : decode b_Qd_answer 47 = .ok (.goto 10, 3) := by decide +kernel
theorem d_Qd_answer_50 : decode b_Qd_answer 50 = .ok (.bipush 10, 2) := by decide +kernel
theorem d_Qd_answer_52 : decode b_Qd_answer 52 = .ok (.iload_n 3, 1) := by decide +kernel
theorem d_Qd_answer_53 : decode b_Qd_answer 53 = .ok (.imul, 1) := by decide +kernel
theorem d_Qd_answer_54 : decode b_Qd_answer 54 = .ok (.iload 4, 2) := by decide +kernel
theorem d_Qd_answer_56 : decode b_Qd_answer 56 = .ok (.iadd, 1) := by decide +kernel
theorem d_Qd_answer_57 : decode b_Qd_answer 57 = .ok (.ireturn, 1) := by decide +kernel
theorem d_Qd_answer_58 : decode b_Qd_answer 58 = .ok (.iinc 2 1, 3) := by decide +kernel
theorem d_Qd_answer_61 : decode b_Qd_answer 61 = .ok (.iinc 4 1, 3) := by decide +kernel
theorem d_Qd_answer_64 : decode b_Qd_answer 64 = .ok (.goto (-51), 3) := by decide +kernel
theorem d_Qd_answer_67 : decode b_Qd_answer 67 = .ok (.iinc 3 1, 3) := by decide +kernel
theorem d_Qd_answer_70 : decode b_Qd_answer 70 = .ok (.goto (-66), 3) := by decide +kernel
theorem d_Qd_answer_73 : decode b_Qd_answer 73 = .ok (.iconst (-1), 1) := by decide +kernel
theorem d_Qd_answer_74 : decode b_Qd_answer 74 = .ok (.ireturn, 1) := by decide +kernel
abbrev b_Qd_of : ByteArray := prog_1_method_14_code
def y_Qd_of : MethodName := ⟨"QuestionDesk", "of", "(II)I"⟩
theorem d_Qd_of_0 : decode b_Qd_of 0 = .ok (.aload_n 0, 1) := by decide +kernel
theorem d_Qd_of_1 : decode b_Qd_of 1 = .ok (.getfield 60, 3) := by decide +kernel
theorem d_Qd_of_4 : decode b_Qd_of 4 = .ok (.ifCond .eq 15, 3) := by decide +kernel
theorem d_Qd_of_7 : decode b_Qd_of 7 = .ok (.iload_n 1, 1) := by decide +kernel
theorem d_Qd_of_8 : decode b_Qd_of 8 = .ok (.ifCond .lt 11, 3) := by decide +kernel
theorem d_Qd_of_11 : decode b_Qd_of 11 = .ok (.iload_n 1, 1) := by decide +kernel
theorem d_Qd_of_12 : decode b_Qd_of 12 = .ok (.aload_n 0, 1) := by decide +kernel
theorem d_Qd_of_13 : decode b_Qd_of 13 = .ok (.getfield 64, 3) := by decide +kernel
theorem d_Qd_of_16 : decode b_Qd_of 16 = .ok (.if_icmp .lt 5, 3) := by decide +kernel
theorem d_Qd_of_19 : decode b_Qd_of 19 = .ok (.iconst (-1), 1) := by decide +kernel
theorem d_Qd_of_20 : decode b_Qd_of 20 = .ok (.ireturn, 1) := by decide +kernel
theorem d_Qd_of_21 : decode b_Qd_of 21 = .ok (.iload_n 2, 1) := by decide +kernel
theorem d_Qd_of_22 : decode b_Qd_of 22 = .ok (.tableswitch 69 0 3 #[30, 41, 47, 59], 30) := by decide +kernel
theorem d_Qd_of_52 : decode b_Qd_of 52 = .ok (.aload_n 0, 1) := by decide +kernel
theorem d_Qd_of_53 : decode b_Qd_of 53 = .ok (.getfield 35, 3) := by decide +kernel
theorem d_Qd_of_56 : decode b_Qd_of 56 = .ok (.iconst 0, 1) := by decide +kernel
theorem d_Qd_of_57 : decode b_Qd_of 57 = .ok (.iload_n 1, 1) := by decide +kernel
theorem d_Qd_of_58 : decode b_Qd_of 58 = .ok (.iadd, 1) := by decide +kernel
theorem d_Qd_of_59 : decode b_Qd_of 59 = .ok (.invokevirtual 137, 3) := by decide +kernel
theorem d_Qd_of_62 : decode b_Qd_of 62 = .ok (.ireturn, 1) := by decide +kernel
theorem d_Qd_of_63 : decode b_Qd_of 63 = .ok (.aload_n 0, 1) := by decide +kernel
theorem d_Qd_of_64 : decode b_Qd_of 64 = .ok (.iload_n 1, 1) := by decide +kernel
theorem d_Qd_of_65 : decode b_Qd_of 65 = .ok (.invokevirtual 151, 3) := by decide +kernel
theorem d_Qd_of_68 : decode b_Qd_of 68 = .ok (.ireturn, 1) := by decide +kernel
theorem d_Qd_of_69 : decode b_Qd_of 69 = .ok (.aload_n 0, 1) := by decide +kernel
theorem d_Qd_of_70 : decode b_Qd_of 70 = .ok (.getfield 35, 3) := by decide +kernel
theorem d_Qd_of_73 : decode b_Qd_of 73 = .ok (.bipush 10, 2) := by decide +kernel
theorem d_Qd_of_75 : decode b_Qd_of 75 = .ok (.iload_n 1, 1) := by decide +kernel
theorem d_Qd_of_76 : decode b_Qd_of 76 = .ok (.iadd, 1) := by decide +kernel
theorem d_Qd_of_77 : decode b_Qd_of 77 = .ok (.invokevirtual 137, 3) := by decide +kernel
theorem d_Qd_of_80 : decode b_Qd_of 80 = .ok (.ireturn, 1) := by decide +kernel
theorem d_Qd_of_81 : decode b_Qd_of 81 = .ok (.aload_n 0, 1) := by decide +kernel
theorem d_Qd_of_82 : decode b_Qd_of 82 = .ok (.getfield 54, 3) := by decide +kernel
theorem d_Qd_of_85 : decode b_Qd_of 85 = .ok (.iload_n 1, 1) := by decide +kernel
theorem d_Qd_of_86 : decode b_Qd_of 86 = .ok (.iaload, 1) := by decide +kernel
theorem d_Qd_of_87 : decode b_Qd_of 87 = .ok (.invokestatic 154, 3) := by decide +kernel
theorem d_Qd_of_90 : decode b_Qd_of 90 = .ok (.ireturn, 1) := by decide +kernel
theorem d_Qd_of_91 : decode b_Qd_of 91 = .ok (.iconst (-1), 1) := by decide +kernel
theorem d_Qd_of_92 : decode b_Qd_of 92 = .ok (.ireturn, 1) := by decide +kernel
abbrev b_Qd_count : ByteArray := prog_1_method_15_code
def y_Qd_count : MethodName := ⟨"QuestionDesk", "count", "(I)I"⟩
theorem d_Qd_count_0 : decode b_Qd_count 0 = .ok (.iload_n 1, 1) := by decide +kernel
theorem d_Qd_count_1 : decode b_Qd_count 1 = .ok (.tableswitch 47 0 2 #[27, 32, 40], 27) := by decide +kernel
theorem d_Qd_count_28 : decode b_Qd_count 28 = .ok (.aload_n 0, 1) := by decide +kernel
theorem d_Qd_count_29 : decode b_Qd_count 29 = .ok (.getfield 17, 3) := by decide +kernel
theorem d_Qd_count_32 : decode b_Qd_count 32 = .ok (.ireturn, 1) := by decide +kernel
theorem d_Qd_count_33 : decode b_Qd_count 33 = .ok (.aload_n 0, 1) := by decide +kernel
theorem d_Qd_count_34 : decode b_Qd_count 34 = .ok (.getfield 24, 3) := by decide +kernel
theorem d_Qd_count_37 : decode b_Qd_count 37 = .ok (.invokevirtual 105, 3) := by decide +kernel
theorem d_Qd_count_40 : decode b_Qd_count 40 = .ok (.ireturn, 1) := by decide +kernel
theorem d_Qd_count_41 : decode b_Qd_count 41 = .ok (.aload_n 0, 1) := by decide +kernel
theorem d_Qd_count_42 : decode b_Qd_count 42 = .ok (.bipush 20, 2) := by decide +kernel
theorem d_Qd_count_44 : decode b_Qd_count 44 = .ok (.invokevirtual 159, 3) := by decide +kernel
theorem d_Qd_count_47 : decode b_Qd_count 47 = .ok (.ireturn, 1) := by decide +kernel
theorem d_Qd_count_48 : decode b_Qd_count 48 = .ok (.aload_n 0, 1) := by decide +kernel
theorem d_Qd_count_49 : decode b_Qd_count 49 = .ok (.getfield 60, 3) := by decide +kernel
theorem d_Qd_count_52 : decode b_Qd_count 52 = .ok (.ifCond .eq 11, 3) := by decide +kernel
theorem d_Qd_count_55 : decode b_Qd_count 55 = .ok (.aload_n 0, 1) := by decide +kernel
theorem d_Qd_count_56 : decode b_Qd_count 56 = .ok (.iload_n 1, 1) := by decide +kernel
theorem d_Qd_count_57 : decode b_Qd_count 57 = .ok (.invokevirtual 162, 3) := by decide +kernel
theorem d_Qd_count_60 : decode b_Qd_count 60 = .ok (.goto 4, 3) := by decide +kernel
theorem d_Qd_count_63 : decode b_Qd_count 63 = .ok (.iconst (-1), 1) := by decide +kernel
theorem d_Qd_count_64 : decode b_Qd_count 64 = .ok (.ireturn, 1) := by decide +kernel
theorem xw_109 : (Jvm.Cond.fieldLink "QuestionDesk" (17 : Nat) "QuestionDesk" "predicates" "I") ∈ xg := xg_t (i := 109) (by decide +kernel) (by decide +kernel)
theorem xw_107 : (Jvm.Cond.fieldLink "QuestionDesk" (9 : Nat) "QuestionDesk" "places" "[I") ∈ xg := xg_t (i := 107) (by decide +kernel) (by decide +kernel)
theorem i_Qd : ∀ w ∈ u_ws R_Qd F_Qd 12, w ∈ xg := by decide +kernel
def wp_Qd_hasPlaces (post : Int32 → Prop)  (np : Int32) (qpl : Nat → Int32) (p0 : Int32) (x : Int32) (y : Int32) (lo : Int32) (hi : Int32) : Prop :=
xj (fun (v_1 : Unit) =>
post 0) (fun (J_2 : Unit → Prop) =>
((p0 < 0 →
J_2 ()) ∧ (¬ p0 < 0 →
((np ≤ p0 →
J_2 ()) ∧ (¬ np ≤ p0 →
((x < lo →
J_2 ()) ∧ (¬ x < lo →
((x ≤ hi →
vp_in p0 10 ∧
xj (fun (v_3 : Int32) =>
(narrow .boolean (.int v_3) = .int v_3 ∧ post v_3)) (fun (J_4 : Int32 → Prop) =>
((¬ (qpl (Int32.toNatClampNeg p0)) = 1 →
xj (fun (v_5 : Unit) =>
J_4 0) (fun (J_6 : Unit → Prop) =>
((y < lo →
J_6 ()) ∧ (¬ y < lo →
((hi < y →
J_6 ()) ∧ (¬ hi < y →
J_4 1)))))) ∧ ((qpl (Int32.toNatClampNeg p0)) = 1 →
((¬ y = (-1) →
J_4 0) ∧ (y = (-1) →
J_4 1)))))) ∧ (¬ x ≤ hi →
J_2 ())))))))))
abbrev rm_Qd_hasPlaces : Room := { frames := 0, cells := 0, slots := 0, locals := 0 }
set_option maxHeartbeats 4000000 in
set_option maxRecDepth 100000 in
theorem c_Qd_hasPlaces {l : Launch} {D : va_G} {ad : Nat → Nat} (CE : Nat → Option va_E) {cI cZ cJ cO : ClassId} {iQ : Nat} {ipl : Nat} {ibr : Nat} {iL : Nat} {iP : Nat} {iM : Nat} {iU : Nat} {ipt : Nat} {np : Int32} {qpl : Nat → Int32} {bg : Value} {rw : Int32} {aq : Int32} {pn : Int32} (k_Q : CE iQ = some (.inr (0, [.ref (ad ipl), .ref (ad ibr), .int np, .ref (ad iL), bg, .ref (ad iP), .ref (ad iM), .ref (ad iU), .ref (ad ipt), .int rw, .int aq, .int pn]))) (k_pl : CE ipl = some (.inl (cI, 10, .inl qpl))) {post : Int32 → Prop} {p0 : Int32} {x : Int32} {y : Int32} {lo : Int32} {hi : Int32} (h : wp_Qd_hasPlaces post np qpl p0 x y lo hi) : ∀ sz, Met l y_Qd_hasPlaces (Cond.code y_Qd_hasPlaces b_Qd_hasPlaces 6 (some .boolean) :: xg) rm_Qd_hasPlaces (xm_Pc D xcl (xT cI cZ cJ cO) ad CE sz [.ref (ad iQ), .int p0, .int x, .int y, .int lo, .int hi]) (va_Qi (fun (r : Int32) (_ : Unit) => post r) (xm_B D xcl (xT cI cZ cJ cO) (xm_A ad CE sz) (fun _ => ad) (fun _ : Unit => CE)) (xm_A ad CE sz)) 0 0 (xm_A ad CE sz) := by
  refine xm_ofW (cc := b_Qd_hasPlaces) (maxL := 6) (ret := (some .boolean)) (by decide) rfl (Nat.le_of_ble_eq_true rfl) ?_
  intro p e s m args below meth c ls QQ hQQ hx hb hml hr hown hlk hnm hts hl hw
  have hl : lv_has ls 6 [(0, .ref (ad iQ)), (1, .int p0), (2, .int x), (3, .int y), (4, .int lo), (5, .int hi)] := hl
  unfold wp_Qd_hasPlaces at h
  refine lv_iload_n hx hb d_Qd_hasPlaces_0 rfl (lv_at hl 1 rfl) ?_
  refine xj_use h (fun (v_1 : Unit) => ∀ (H : Heap) (locs : List Loc) (ls : Array Slot), xm_W D xcl (xT cI cZ cJ cO) (xm_A ad CE s.heap.size) ad CE s s.heap H locs → lv_has ls 6 [] → W p l e rm_Qd_hasPlaces s m args below meth c H locs 0 0 QQ (F0 m 24 ls [])) (fun v_1 h H locs ls hw hl => ?_) (fun J_2 hJ_2 h => ?_)
  · refine lv_iconst (v := 0) hx hb d_Qd_hasPlaces_24 (by decide) ?_
    subst hQQ
    exact xm_zret hx hb hr hlk rfl hw () rfl rfl h d_Qd_hasPlaces_25
  · refine lv_if_lt (tgt := 24) hx hb d_Qd_hasPlaces_1 (by decide) (fun hc => ?_) (fun hc => ?_)
    · have h := h.1 hc
      exact hJ_2 () h _ _ _ hw (lv_sub hl [] rfl)
    · have h := h.2 hc
      refine lv_iload_n hx hb d_Qd_hasPlaces_4 rfl (lv_at hl 1 rfl) ?_
      refine lv_aload_n hx hb d_Qd_hasPlaces_5 rfl (lv_at hl 0 rfl) ?_
      refine xm_get (D := D) (v := .int np) (C := R_Qd) (T := F_Qd) (N := 12) hx hb hts (fun w h => List.mem_cons_of_mem _ (i_Qd w h)) hown hw k_Q rfl 2 (by decide) (hts _ (List.mem_cons_of_mem _ xw_109)) (fun _ h9 => h9) rfl d_Qd_hasPlaces_6 ?_
      refine lv_icmp_ge (tgt := 24) hx hb d_Qd_hasPlaces_9 (by decide) (fun hc => ?_) (fun hc => ?_)
      · have h := h.1 hc
        exact hJ_2 () h _ _ _ hw (lv_sub hl [] rfl)
      · have h := h.2 hc
        refine lv_iload_n hx hb d_Qd_hasPlaces_12 rfl (lv_at hl 2 rfl) ?_
        refine lv_iload hx hb d_Qd_hasPlaces_13 (lv_at hl 4 rfl) ?_
        refine lv_icmp_lt (tgt := 24) hx hb d_Qd_hasPlaces_15 (by decide) (fun hc => ?_) (fun hc => ?_)
        · have h := h.1 hc
          exact hJ_2 () h _ _ _ hw (lv_sub hl [] rfl)
        · have h := h.2 hc
          refine lv_iload_n hx hb d_Qd_hasPlaces_18 rfl (lv_at hl 2 rfl) ?_
          refine lv_iload hx hb d_Qd_hasPlaces_19 (lv_at hl 5 rfl) ?_
          refine lv_icmp_le (tgt := 26) hx hb d_Qd_hasPlaces_21 (by decide) (fun hc => ?_) (fun hc => ?_)
          · have h := h.1 hc
            refine lv_aload_n hx hb d_Qd_hasPlaces_26 rfl (lv_at hl 0 rfl) ?_
            refine xm_get (D := D) (v := .ref (ad ipl)) (C := R_Qd) (T := F_Qd) (N := 12) hx hb hts (fun w h => List.mem_cons_of_mem _ (i_Qd w h)) hown hw k_Q rfl 0 (by decide) (hts _ (List.mem_cons_of_mem _ xw_107)) (fun _ h9 => h9) rfl d_Qd_hasPlaces_27 ?_
            refine lv_iload_n hx hb d_Qd_hasPlaces_30 rfl (lv_at hl 1 rfl) ?_
            obtain ⟨hin, h⟩ := h
            refine xm_iald hx hb hw 0 k_pl rfl hin d_Qd_hasPlaces_31 ?_
            refine lv_iconst (v := 1) hx hb d_Qd_hasPlaces_32 (by decide) ?_
            refine xj_use h (fun (v_3 : Int32) => ∀ (H : Heap) (locs : List Loc) (ls : Array Slot), xm_W D xcl (xT cI cZ cJ cO) (xm_A ad CE s.heap.size) ad CE s s.heap H locs → lv_has ls 6 [] → W p l e rm_Qd_hasPlaces s m args below meth c H locs 0 0 QQ (F0 m 66 ls [.int v_3])) (fun v_3 h H locs ls hw hl => ?_) (fun J_4 hJ_4 h => ?_)
            · subst hQQ
              exact xm_zret hx hb hr hlk h.1 hw () rfl rfl h.2 d_Qd_hasPlaces_66
            · refine lv_icmp_ne (tgt := 49) hx hb d_Qd_hasPlaces_33 (by decide) (fun hc => ?_) (fun hc => ?_)
              · have h := h.1 hc
                refine lv_iload_n hx hb d_Qd_hasPlaces_49 rfl (lv_at hl 3 rfl) ?_
                refine lv_iload hx hb d_Qd_hasPlaces_50 (lv_at hl 4 rfl) ?_
                refine xj_use h (fun (v_5 : Unit) => ∀ (H : Heap) (locs : List Loc) (ls : Array Slot), xm_W D xcl (xT cI cZ cJ cO) (xm_A ad CE s.heap.size) ad CE s s.heap H locs → lv_has ls 6 [] → W p l e rm_Qd_hasPlaces s m args below meth c H locs 0 0 QQ (F0 m 65 ls [])) (fun v_5 h H locs ls hw hl => ?_) (fun J_6 hJ_6 h => ?_)
                · refine lv_iconst (v := 0) hx hb d_Qd_hasPlaces_65 (by decide) ?_
                  exact hJ_4 0 h _ _ _ hw (lv_sub hl [] rfl)
                · refine lv_icmp_lt (tgt := 65) hx hb d_Qd_hasPlaces_52 (by decide) (fun hc => ?_) (fun hc => ?_)
                  · have h := h.1 hc
                    exact hJ_6 () h _ _ _ hw (lv_sub hl [] rfl)
                  · have h := h.2 hc
                    refine lv_iload_n hx hb d_Qd_hasPlaces_55 rfl (lv_at hl 3 rfl) ?_
                    refine lv_iload hx hb d_Qd_hasPlaces_56 (lv_at hl 5 rfl) ?_
                    refine lv_icmp_gt (tgt := 65) hx hb d_Qd_hasPlaces_58 (by decide) (fun hc => ?_) (fun hc => ?_)
                    · have h := h.1 hc
                      exact hJ_6 () h _ _ _ hw (lv_sub hl [] rfl)
                    · have h := h.2 hc
                      refine lv_iconst (v := 1) hx hb d_Qd_hasPlaces_61 (by decide) ?_
                      refine lv_goto (tgt := 66) hx hb d_Qd_hasPlaces_62 (by decide) ?_
                      exact hJ_4 1 h _ _ _ hw (lv_sub hl [] rfl)
              · have h := h.2 hc
                refine lv_iload_n hx hb d_Qd_hasPlaces_36 rfl (lv_at hl 3 rfl) ?_
                refine lv_iconst (v := (-1)) hx hb d_Qd_hasPlaces_37 (by decide) ?_
                refine lv_icmp_ne (tgt := 45) hx hb d_Qd_hasPlaces_38 (by decide) (fun hc => ?_) (fun hc => ?_)
                · have h := h.1 hc
                  refine lv_iconst (v := 0) hx hb d_Qd_hasPlaces_45 (by decide) ?_
                  refine lv_goto (tgt := 66) hx hb d_Qd_hasPlaces_46 (by decide) ?_
                  exact hJ_4 0 h _ _ _ hw (lv_sub hl [] rfl)
                · have h := h.2 hc
                  refine lv_iconst (v := 1) hx hb d_Qd_hasPlaces_41 (by decide) ?_
                  refine lv_goto (tgt := 66) hx hb d_Qd_hasPlaces_42 (by decide) ?_
                  exact hJ_4 1 h _ _ _ hw (lv_sub hl [] rfl)
          · have h := h.2 hc
            exact hJ_2 () h _ _ _ hw (lv_sub hl [] rfl)
theorem xw_115 : (Jvm.Cond.fieldLink "QuestionDesk" (54 : Nat) "QuestionDesk" "patterns" "[I") ∈ xg := xg_t (i := 115) (by decide +kernel) (by decide +kernel)
def wp_Qd_addPattern (post : Int32 → (Nat → Int32) → Prop)  (qpt : Nat → Int32) (p0 : Int32) (x : Int32) (y : Int32) : Prop :=
xj (fun (v_1 : Int32) =>
xj (fun (v_3 : Int32) =>
∀ x_5 : Int32, x_5 = v_1 + v_3 →
vp_in p0 10 ∧
∀ x_6 : Int32, x_6 = qpt (Int32.toNatClampNeg p0) →
vp_in p0 10 ∧
∀ qpt_7 : Nat → Int32, qpt_7 = upd qpt (Int32.toNatClampNeg p0) (x_6 ||| (1 <<< (x_5 &&& 31))) →
vp_in p0 10 ∧
xj (fun (v_8 : Int32) =>
(narrow .boolean (.int v_8) = .int v_8 ∧ post v_8 qpt_7)) (fun (J_9 : Int32 → Prop) =>
(((qpt_7 (Int32.toNatClampNeg p0)) = x_6 →
J_9 0) ∧ (¬ (qpt_7 (Int32.toNatClampNeg p0)) = x_6 →
J_9 1)))) (fun (J_4 : Int32 → Prop) =>
((¬ y = (-1) →
J_4 2) ∧ (y = (-1) →
J_4 0)))) (fun (J_2 : Int32 → Prop) =>
((¬ x = (-1) →
J_2 1) ∧ (x = (-1) →
J_2 0)))
abbrev rm_Qd_addPattern : Room := { frames := 0, cells := 0, slots := 0, locals := 0 }
set_option maxHeartbeats 4000000 in
set_option maxRecDepth 100000 in
theorem c_Qd_addPattern {l : Launch} {D : va_G} {ad : Nat → Nat} (CE : (Nat → Int32) → Nat → Option va_E) {cI cZ cJ cO : ClassId} {iQ : Nat} {ipl : Nat} {ibr : Nat} {iL : Nat} {iP : Nat} {iM : Nat} {iU : Nat} {ipt : Nat} {np : Int32} {bg : Value} {rw : Int32} {aq : Int32} {pn : Int32} (k_Q : ∀ (qpt : Nat → Int32), (CE qpt) iQ = some (.inr (0, [.ref (ad ipl), .ref (ad ibr), .int np, .ref (ad iL), bg, .ref (ad iP), .ref (ad iM), .ref (ad iU), .ref (ad ipt), .int rw, .int aq, .int pn]))) (k_pt : ∀ (qpt : Nat → Int32), (CE qpt) ipt = some (.inl (cI, 10, .inl qpt))) (u_pt : ∀ (qpt : Nat → Int32) (qpt' : Nat → Int32), va_up (CE qpt) ipt (some (.inl (cI, 10, .inl qpt'))) = (CE qpt')) {post : Int32 → (Nat → Int32) → Prop} {qpt : Nat → Int32} {p0 : Int32} {x : Int32} {y : Int32} (h : wp_Qd_addPattern post qpt p0 x y) : ∀ sz, Met l y_Qd_addPattern (Cond.code y_Qd_addPattern b_Qd_addPattern 6 (some .boolean) :: xg) rm_Qd_addPattern (xm_Pc D xcl (xT cI cZ cJ cO) ad (CE qpt) sz [.ref (ad iQ), .int p0, .int x, .int y]) (va_Qi (fun (r : Int32) (u : (Nat → Int32)) => post r u) (xm_B D xcl (xT cI cZ cJ cO) (xm_A ad (CE qpt) sz) (fun _ => ad) (fun u : (Nat → Int32) => CE u)) (xm_A ad (CE qpt) sz)) 0 0 (xm_A ad (CE qpt) sz) := by
  refine xm_ofW (cc := b_Qd_addPattern) (maxL := 6) (ret := (some .boolean)) (by decide) rfl (Nat.le_of_ble_eq_true rfl) ?_
  intro p e s m args below meth c ls QQ hQQ hx hb hml hr hown hlk hnm hts hl hw
  have hl : lv_has ls 6 [(0, .ref (ad iQ)), (1, .int p0), (2, .int x), (3, .int y)] := hl
  unfold wp_Qd_addPattern at h
  refine lv_iload_n hx hb d_Qd_addPattern_0 rfl (lv_at hl 2 rfl) ?_
  refine lv_iconst (v := (-1)) hx hb d_Qd_addPattern_1 (by decide) ?_
  refine xj_use h (fun (v_1 : Int32) => ∀ (H : Heap) (locs : List Loc) (ls : Array Slot), xm_W D xcl (xT cI cZ cJ cO) (xm_A ad (CE qpt) s.heap.size) ad (CE qpt) s s.heap H locs → lv_has ls 6 [(0, .ref (ad iQ)), (1, .int p0), (3, .int y)] → W p l e rm_Qd_addPattern s m args below meth c H locs 0 0 QQ (F0 m 10 ls [.int v_1])) (fun v_1 h H locs ls hw hl => ?_) (fun J_2 hJ_2 h => ?_)
  · refine lv_iload_n hx hb d_Qd_addPattern_10 rfl (lv_at hl 2 rfl) ?_
    refine lv_iconst (v := (-1)) hx hb d_Qd_addPattern_11 (by decide) ?_
    refine xj_use h (fun (v_3 : Int32) => ∀ (H : Heap) (locs : List Loc) (ls : Array Slot), xm_W D xcl (xT cI cZ cJ cO) (xm_A ad (CE qpt) s.heap.size) ad (CE qpt) s s.heap H locs → lv_has ls 6 [(0, .ref (ad iQ)), (1, .int p0)] → W p l e rm_Qd_addPattern s m args below meth c H locs 0 0 QQ (F0 m 20 ls [.int v_3, .int v_1])) (fun v_3 h H locs ls hw hl => ?_) (fun J_4 hJ_4 h => ?_)
    · refine lv_iadd hx hb d_Qd_addPattern_20 ?_
      refine lv_topi (fun x_5 ex_5 => ?_)
      have h := h x_5 ex_5
      refine lv_istore (lv' := [(4, .int x_5), (0, .ref (ad iQ)), (1, .int p0)]) hx hb d_Qd_addPattern_21 hl (by decide) rfl (fun ls hl => ?_)
      refine lv_aload_n hx hb d_Qd_addPattern_23 rfl (lv_at hl 1 rfl) ?_
      refine xm_get (D := D) (v := .ref (ad ipt)) (C := R_Qd) (T := F_Qd) (N := 12) hx hb hts (fun w h => List.mem_cons_of_mem _ (i_Qd w h)) hown hw (k_Q qpt) rfl 8 (by decide) (hts _ (List.mem_cons_of_mem _ xw_115)) (fun _ h9 => h9) rfl d_Qd_addPattern_24 ?_
      refine lv_iload_n hx hb d_Qd_addPattern_27 rfl (lv_at hl 2 rfl) ?_
      obtain ⟨hin, h⟩ := h
      refine xm_iald hx hb hw 0 (k_pt qpt) rfl hin d_Qd_addPattern_28 ?_
      refine lv_topi (fun x_6 ex_6 => ?_)
      have h := h x_6 ex_6
      refine lv_istore (lv' := [(5, .int x_6), (4, .int x_5), (0, .ref (ad iQ)), (1, .int p0)]) hx hb d_Qd_addPattern_29 hl (by decide) rfl (fun ls hl => ?_)
      refine lv_aload_n hx hb d_Qd_addPattern_31 rfl (lv_at hl 2 rfl) ?_
      refine xm_get (D := D) (v := .ref (ad ipt)) (C := R_Qd) (T := F_Qd) (N := 12) hx hb hts (fun w h => List.mem_cons_of_mem _ (i_Qd w h)) hown hw (k_Q qpt) rfl 8 (by decide) (hts _ (List.mem_cons_of_mem _ xw_115)) (fun _ h9 => h9) rfl d_Qd_addPattern_32 ?_
      refine lv_iload_n hx hb d_Qd_addPattern_35 rfl (lv_at hl 3 rfl) ?_
      refine lv_iload hx hb d_Qd_addPattern_36 (lv_at hl 0 rfl) ?_
      refine lv_iconst (v := 1) hx hb d_Qd_addPattern_38 (by decide) ?_
      refine lv_iload hx hb d_Qd_addPattern_39 (lv_at hl 1 rfl) ?_
      refine lv_ishl hx hb d_Qd_addPattern_41 ?_
      refine lv_ior hx hb d_Qd_addPattern_42 ?_
      obtain ⟨hin, h⟩ := h
      refine xm_iast hx hb hw 0 (k_pt qpt) rfl hin d_Qd_addPattern_43 (fun H locs hw => ?_)
      have hw : xm_W D xcl (xT cI cZ cJ cO) (xm_A ad (CE qpt) s.heap.size) ad (CE (upd qpt (Int32.toNatClampNeg p0) (x_6 ||| (1 <<< (x_5 &&& 31))))) s s.heap H locs := xm_W.cast (u_pt qpt (upd qpt (Int32.toNatClampNeg p0) (x_6 ||| (1 <<< (x_5 &&& 31))))) hw
      obtain ⟨qpt_7, eqpt_7⟩ : ∃ z : Nat → Int32, z = upd qpt (Int32.toNatClampNeg p0) (x_6 ||| (1 <<< (x_5 &&& 31))) := ⟨_, rfl⟩
      have h := h qpt_7 eqpt_7
      rw [← eqpt_7] at hw
      refine lv_aload_n hx hb d_Qd_addPattern_44 rfl (lv_at hl 2 rfl) ?_
      refine xm_get (D := D) (v := .ref (ad ipt)) (C := R_Qd) (T := F_Qd) (N := 12) hx hb hts (fun w h => List.mem_cons_of_mem _ (i_Qd w h)) hown hw (k_Q qpt_7) rfl 8 (by decide) (hts _ (List.mem_cons_of_mem _ xw_115)) (fun _ h9 => h9) rfl d_Qd_addPattern_45 ?_
      refine lv_iload_n hx hb d_Qd_addPattern_48 rfl (lv_at hl 3 rfl) ?_
      obtain ⟨hin, h⟩ := h
      refine xm_iald hx hb hw 0 (k_pt qpt_7) rfl hin d_Qd_addPattern_49 ?_
      refine lv_iload hx hb d_Qd_addPattern_50 (lv_at hl 0 rfl) ?_
      refine xj_use h (fun (v_8 : Int32) => ∀ (H : Heap) (locs : List Loc) (ls : Array Slot), xm_W D xcl (xT cI cZ cJ cO) (xm_A ad (CE qpt) s.heap.size) ad (CE qpt_7) s s.heap H locs → lv_has ls 6 [] → W p l e rm_Qd_addPattern s m args below meth c H locs 0 0 QQ (F0 m 60 ls [.int v_8])) (fun v_8 h H locs ls hw hl => ?_) (fun J_9 hJ_9 h => ?_)
      · subst hQQ
        exact xm_zret hx hb hr hlk h.1 hw (qpt_7) rfl rfl h.2 d_Qd_addPattern_60
      · refine lv_icmp_eq (tgt := 59) hx hb d_Qd_addPattern_52 (by decide) (fun hc => ?_) (fun hc => ?_)
        · have h := h.1 hc
          refine lv_iconst (v := 0) hx hb d_Qd_addPattern_59 (by decide) ?_
          exact hJ_9 0 h _ _ _ hw (lv_sub hl [] rfl)
        · have h := h.2 hc
          refine lv_iconst (v := 1) hx hb d_Qd_addPattern_55 (by decide) ?_
          refine lv_goto (tgt := 60) hx hb d_Qd_addPattern_56 (by decide) ?_
          exact hJ_9 1 h _ _ _ hw (lv_sub hl [] rfl)
    · refine lv_icmp_ne (tgt := 19) hx hb d_Qd_addPattern_12 (by decide) (fun hc => ?_) (fun hc => ?_)
      · have h := h.1 hc
        refine lv_iconst (v := 2) hx hb d_Qd_addPattern_19 (by decide) ?_
        exact hJ_4 2 h _ _ _ hw (lv_sub hl [0, 1] rfl)
      · have h := h.2 hc
        refine lv_iconst (v := 0) hx hb d_Qd_addPattern_15 (by decide) ?_
        refine lv_goto (tgt := 20) hx hb d_Qd_addPattern_16 (by decide) ?_
        exact hJ_4 0 h _ _ _ hw (lv_sub hl [0, 1] rfl)
  · refine lv_icmp_ne (tgt := 9) hx hb d_Qd_addPattern_2 (by decide) (fun hc => ?_) (fun hc => ?_)
    · have h := h.1 hc
      refine lv_iconst (v := 1) hx hb d_Qd_addPattern_9 (by decide) ?_
      exact hJ_2 1 h _ _ _ hw (lv_sub hl [0, 1, 3] rfl)
    · have h := h.2 hc
      refine lv_iconst (v := 0) hx hb d_Qd_addPattern_5 (by decide) ?_
      refine lv_goto (tgt := 10) hx hb d_Qd_addPattern_6 (by decide) ?_
      exact hJ_2 0 h _ _ _ hw (lv_sub hl [0, 1, 3] rfl)
theorem xw_108 : (Jvm.Cond.fieldLink "QuestionDesk" (13 : Nat) "QuestionDesk" "byRules" "[Z") ∈ xg := xg_t (i := 108) (by decide +kernel) (by decide +kernel)
theorem xw_112 : (Jvm.Cond.fieldLink "QuestionDesk" (35 : Nat) "QuestionDesk" "pairs" "LQuestionDesk$Pairs;") ∈ xg := xg_t (i := 112) (by decide +kernel) (by decide +kernel)
theorem xw_318 : (Jvm.Cond.methodLink "QuestionDesk" (75 : Nat) ({ cls := "QuestionDesk$Pairs", name := "put", desc := "(III)Z" } : Jvm.MethodName)) ∈ xg := xg_t (i := 318) (by decide +kernel) (by decide +kernel)
theorem xw_517 : (Jvm.Cond.code ({ cls := "QuestionDesk", name := "addPattern", desc := "(III)Z" } : Jvm.MethodName) prog_1_method_24_code (6 : Nat) (Option.some Jvm.ClassFile.FieldType.boolean)) ∈ xg := xg_t (i := 517) (by decide +kernel) (by decide +kernel)
theorem xw_514 : (Jvm.Cond.methodLink "QuestionDesk" (186 : Nat) ({ cls := "QuestionDesk", name := "addPattern", desc := "(III)Z" } : Jvm.MethodName)) ∈ xg := xg_t (i := 514) (by decide +kernel) (by decide +kernel)
theorem xw_516 : (Jvm.Cond.instanceMethod ({ cls := "QuestionDesk", name := "addPattern", desc := "(III)Z" } : Jvm.MethodName)) ∈ xg := xg_t (i := 516) (by decide +kernel) (by decide +kernel)
theorem xw_p19 : Cond.selects "QuestionDesk" ⟨"QuestionDesk", "addPattern", "(III)Z"⟩ ⟨"QuestionDesk", "addPattern", "(III)Z"⟩ ∈ xg := xg_p (q := (⟨"QuestionDesk", "addPattern", "(III)Z"⟩, 12)) (i := 19) (by decide +kernel) (by decide +kernel)
theorem xw_512 : (Jvm.Cond.code ({ cls := "QuestionDesk", name := "boundOrFree", desc := "(II)I" } : Jvm.MethodName) prog_1_method_25_code (2 : Nat) (Option.some Jvm.ClassFile.FieldType.int)) ∈ xg := xg_t (i := 512) (by decide +kernel) (by decide +kernel)
theorem xw_510 : (Jvm.Cond.methodLink "QuestionDesk" (183 : Nat) ({ cls := "QuestionDesk", name := "boundOrFree", desc := "(II)I" } : Jvm.MethodName)) ∈ xg := xg_t (i := 510) (by decide +kernel) (by decide +kernel)
theorem xw_511 : (Jvm.Cond.static ({ cls := "QuestionDesk", name := "boundOrFree", desc := "(II)I" } : Jvm.MethodName)) ∈ xg := xg_t (i := 511) (by decide +kernel) (by decide +kernel)
def wp_Qd_startCalls (post : (Nat → Int32) → (Nat → Int32) → Prop)  (qbr : Nat → Int32) (qpt : Nat → Int32) (f : Nat → Int32) (p0 : Int32) (x : Int32) (y : Int32) : Prop :=
xL (fun (K_2 : Int32 × (Nat → Int32) × (Nat → Int32) → Prop) (v_1 : Int32 × (Nat → Int32) × (Nat → Int32)) =>
((10 ≤ v_1.1 →
vp_in p0 10 ∧
xj (fun (v_3 : (Nat → Int32) × (Nat → Int32)) =>
post v_3.1 v_3.2) (fun (J_4 : (Nat → Int32) × (Nat → Int32) → Prop) =>
(((qbr (Int32.toNatClampNeg p0)) = 0 →
J_4 (v_1.2.1, v_1.2.2)) ∧ (¬ (qbr (Int32.toNatClampNeg p0)) = 0 →
wp_Qd_boundOrFree (fun r_5 =>
wp_Qd_boundOrFree (fun r_7 =>
wp_Qd_addPattern (fun r_9 qpt_11 =>
wp_Pr_put (fun r_12 f_14 =>
J_4 (qpt_11, f_14)) v_1.2.2 (10 + p0) r_5 r_7) v_1.2.1 p0 r_5 r_7) y 0) x 0)))) ∧ (¬ 10 ≤ v_1.1 →
vp_in v_1.1 10 ∧
∀ qpt_15 : Nat → Int32, qpt_15 = upd v_1.2.1 (Int32.toNatClampNeg v_1.1) 0 →
∀ x_16 : Int32, x_16 = v_1.1 + 1 →
K_2 (x_16, qpt_15, v_1.2.2)))) (0, qpt, f)
abbrev rm_Qd_startCalls : Room := { frames := 3, cells := 0, slots := 0, locals := 61 }
set_option maxHeartbeats 4000000 in
set_option maxRecDepth 100000 in
theorem c_Qd_startCalls {l : Launch} {D : va_G} {ad : Nat → Nat} (CE : (Nat → Int32) → (Nat → Int32) → Nat → Option va_E) {cI cZ cJ cO : ClassId} {iQ : Nat} {ipl : Nat} {ibr : Nat} {iL : Nat} {iP : Nat} {iM : Nat} {iU : Nat} {ipt : Nat} {iR : Nat} {qbr : Nat → Int32} {np : Int32} {bg : Value} {rw : Int32} {aq : Int32} {pn : Int32} (k_Q : ∀ (qpt : Nat → Int32) (f : Nat → Int32), (CE qpt f) iQ = some (.inr (0, [.ref (ad ipl), .ref (ad ibr), .int np, .ref (ad iL), bg, .ref (ad iP), .ref (ad iM), .ref (ad iU), .ref (ad ipt), .int rw, .int aq, .int pn]))) (k_br : ∀ (qpt : Nat → Int32) (f : Nat → Int32), (CE qpt f) ibr = some (.inl (cZ, 10, .inl qbr))) (k_pt : ∀ (qpt : Nat → Int32) (f : Nat → Int32), (CE qpt f) ipt = some (.inl (cI, 10, .inl qpt))) (k_P : ∀ (qpt : Nat → Int32) (f : Nat → Int32), (CE qpt f) iP = some (.inr (1, [.ref (ad iR)]))) (k_R : ∀ (qpt : Nat → Int32) (f : Nat → Int32), (CE qpt f) iR = some (.inl (cI, 341, .inl f))) (u_pt : ∀ (qpt : Nat → Int32) (f : Nat → Int32) (qpt' : Nat → Int32), va_up (CE qpt f) ipt (some (.inl (cI, 10, .inl qpt'))) = (CE qpt' f)) (u_R : ∀ (qpt : Nat → Int32) (f : Nat → Int32) (f' : Nat → Int32), va_up (CE qpt f) iR (some (.inl (cI, 341, .inl f'))) = (CE qpt f')) {post : (Nat → Int32) → (Nat → Int32) → Prop} {qpt : Nat → Int32} {f : Nat → Int32} {p0 : Int32} {x : Int32} {y : Int32} (h : wp_Qd_startCalls post qbr qpt f p0 x y) : ∀ sz, Met l y_Qd_startCalls (Cond.code y_Qd_startCalls b_Qd_startCalls 6 none :: xg) rm_Qd_startCalls (xm_Pc D xcl (xT cI cZ cJ cO) ad (CE qpt f) sz [.ref (ad iQ), .int p0, .int x, .int y]) (va_Qv (fun u : (Nat → Int32) × (Nat → Int32) => post u.1 u.2) (xm_B D xcl (xT cI cZ cJ cO) (xm_A ad (CE qpt f) sz) (fun _ => ad) (fun u : (Nat → Int32) × (Nat → Int32) => CE u.1 u.2)) (xm_A ad (CE qpt f) sz)) 0 0 (xm_A ad (CE qpt f) sz) := by
  refine xm_ofW (cc := b_Qd_startCalls) (maxL := 6) (ret := none) (by decide) rfl (Nat.le_of_ble_eq_true rfl) ?_
  intro p e s m args below meth c ls QQ hQQ hx hb hml hr hown hlk hnm hts hl hw
  have hl : lv_has ls 6 [(0, .ref (ad iQ)), (1, .int p0), (2, .int x), (3, .int y)] := hl
  unfold wp_Qd_startCalls at h
  refine lv_iconst (v := 0) hx hb d_Qd_startCalls_0 (by decide) ?_
  refine lv_istore (lv' := [(4, .int 0), (0, .ref (ad iQ)), (1, .int p0), (2, .int x), (3, .int y)]) hx hb d_Qd_startCalls_1 hl (by decide) rfl (fun ls hl => ?_)
  refine xL_use h (fun (v_1 : Int32 × (Nat → Int32) × (Nat → Int32)) => ∀ (H : Heap) (locs : List Loc) (ls : Array Slot), xm_W D xcl (xT cI cZ cJ cO) (xm_A ad (CE qpt f) s.heap.size) ad (CE v_1.2.1 v_1.2.2) s s.heap H locs → lv_has ls 6 [(4, .int v_1.1), (0, .ref (ad iQ)), (1, .int p0), (2, .int x), (3, .int y)] → W p l e rm_Qd_startCalls s m args below meth c H locs 0 0 QQ (F0 m 3 ls [])) (fun K_2 hK_2 v_1 h H locs ls hw hl => ?_) _ _ _ hw (lv_sub hl [0, 1, 2, 3, 4] rfl)
  refine lv_iload hx hb d_Qd_startCalls_3 (lv_at hl 0 rfl) ?_
  refine lv_bipush (v := 10) hx hb d_Qd_startCalls_5 (by decide) ?_
  refine lv_icmp_ge (tgt := 24) hx hb d_Qd_startCalls_7 (by decide) (fun hc => ?_) (fun hc => ?_)
  · have h := h.1 hc
    refine lv_aload_n hx hb d_Qd_startCalls_24 rfl (lv_at hl 1 rfl) ?_
    refine xm_get (D := D) (v := .ref (ad ibr)) (C := R_Qd) (T := F_Qd) (N := 12) hx hb hts (fun w h => List.mem_cons_of_mem _ (i_Qd w h)) hown hw (k_Q v_1.2.1 v_1.2.2) rfl 1 (by decide) (hts _ (List.mem_cons_of_mem _ xw_108)) (fun _ h9 => h9) rfl d_Qd_startCalls_25 ?_
    refine lv_iload_n hx hb d_Qd_startCalls_28 rfl (lv_at hl 2 rfl) ?_
    obtain ⟨hin, h⟩ := h
    refine xm_zald hx hb hw 1 (k_br v_1.2.1 v_1.2.2) rfl hin d_Qd_startCalls_29 ?_
    refine xj_use h (fun (v_3 : (Nat → Int32) × (Nat → Int32)) => ∀ (H : Heap) (locs : List Loc) (ls : Array Slot), xm_W D xcl (xT cI cZ cJ cO) (xm_A ad (CE qpt f) s.heap.size) ad (CE v_3.1 v_3.2) s s.heap H locs → lv_has ls 6 [] → W p l e rm_Qd_startCalls s m args below meth c H locs 0 0 QQ (F0 m 73 ls [])) (fun v_3 h H locs ls hw hl => ?_) (fun J_4 hJ_4 h => ?_)
    · subst hQQ
      exact xm_vret hx hb hr hlk hw (v_3.1, v_3.2) rfl rfl h d_Qd_startCalls_73
    · refine lv_if_eq (tgt := 73) hx hb d_Qd_startCalls_30 (by decide) (fun hc => ?_) (fun hc => ?_)
      · have h := h.1 hc
        exact hJ_4 (v_1.2.1, v_1.2.2) h _ _ _ hw (lv_sub hl [] rfl)
      · have h := h.2 hc
        refine lv_iload_n hx hb d_Qd_startCalls_33 rfl (lv_at hl 3 rfl) ?_
        refine lv_iconst (v := 0) hx hb d_Qd_startCalls_34 (by decide) ?_
        refine xm_calli (ua := fun _ => ad) (va_runS (As := [.int x, .int 0]) (rest := []) ⟨hx, hb, hml, hown, hts⟩ (c_Qd_boundOrFree (D := D) (ad := ad) (CE := ((CE v_1.2.1 v_1.2.2)))   h _) (xg_cwS 2 hts xw_512 xw_510 xw_511 xw_1 rfl rfl (by decide +kernel) ⟨Nat.le_of_ble_eq_true rfl, Nat.le_of_ble_eq_true rfl⟩) (xm_pre hw _) rfl rfl hl.1 rfl (lv_room (Nat.le_of_ble_eq_true rfl)) d_Qd_startCalls_35 ⟨Nat.le_of_ble_eq_true rfl, Nat.le_of_ble_eq_true rfl⟩) hw (fun r_5 _ H locs h hw => ?_)
        refine lv_istore (lv' := [(4, .int r_5), (0, .ref (ad iQ)), (1, .int p0), (2, .int x), (3, .int y)]) hx hb d_Qd_startCalls_38 hl (by decide) rfl (fun ls hl => ?_)
        refine lv_iload_n hx hb d_Qd_startCalls_40 rfl (lv_at hl 4 rfl) ?_
        refine lv_iconst (v := 0) hx hb d_Qd_startCalls_41 (by decide) ?_
        refine xm_calli (ua := fun _ => ad) (va_runS (As := [.int y, .int 0]) (rest := []) ⟨hx, hb, hml, hown, hts⟩ (c_Qd_boundOrFree (D := D) (ad := ad) (CE := ((CE v_1.2.1 v_1.2.2)))   h _) (xg_cwS 2 hts xw_512 xw_510 xw_511 xw_1 rfl rfl (by decide +kernel) ⟨Nat.le_of_ble_eq_true rfl, Nat.le_of_ble_eq_true rfl⟩) (xm_pre hw _) rfl rfl hl.1 rfl (lv_room (Nat.le_of_ble_eq_true rfl)) d_Qd_startCalls_42 ⟨Nat.le_of_ble_eq_true rfl, Nat.le_of_ble_eq_true rfl⟩) hw (fun r_7 _ H locs h hw => ?_)
        refine lv_istore (lv' := [(5, .int r_7), (4, .int r_5), (0, .ref (ad iQ)), (1, .int p0), (2, .int x), (3, .int y)]) hx hb d_Qd_startCalls_45 hl (by decide) rfl (fun ls hl => ?_)
        refine lv_aload_n hx hb d_Qd_startCalls_47 rfl (lv_at hl 2 rfl) ?_
        refine lv_iload_n hx hb d_Qd_startCalls_48 rfl (lv_at hl 3 rfl) ?_
        refine lv_iload hx hb d_Qd_startCalls_49 (lv_at hl 1 rfl) ?_
        refine lv_iload hx hb d_Qd_startCalls_51 (lv_at hl 0 rfl) ?_
        refine xm_calli (ua := fun _ => ad) (va_runV (As := [.int p0, .int r_5, .int r_7]) (rest := []) ⟨hx, hb, hml, hown, hts⟩ (c_Qd_addPattern (D := D) (ad := ad) (CE := (fun qpt => (CE qpt v_1.2.2)))  (fun qpt => k_Q qpt v_1.2.2) (fun qpt => k_pt qpt v_1.2.2) (fun qpt qpt' => u_pt qpt v_1.2.2 qpt') h _) (xg_cwV 3 hts xw_517 xw_514 xw_516 xw_p19 xw_1 rfl rfl (by decide +kernel) ⟨Nat.le_of_ble_eq_true rfl, Nat.le_of_ble_eq_true rfl⟩) (xm_preV hw (k_Q v_1.2.1 v_1.2.2) rfl _) rfl rfl hl.1 rfl (lv_room (Nat.le_of_ble_eq_true rfl)) d_Qd_startCalls_53 ⟨Nat.le_of_ble_eq_true rfl, Nat.le_of_ble_eq_true rfl⟩) hw (fun r_9 u_10 H locs h hw => ?_)
        obtain ⟨qpt_11, eqpt_11⟩ : ∃ z, z = u_10 := ⟨_, rfl⟩
        try dsimp only at h hw
        rw [← eqpt_11] at h hw
        refine lv_pop hx hb d_Qd_startCalls_56 rfl ?_
        refine lv_aload_n hx hb d_Qd_startCalls_57 rfl (lv_at hl 2 rfl) ?_
        refine xm_get (D := D) (v := .ref (ad iP)) (C := R_Qd) (T := F_Qd) (N := 12) hx hb hts (fun w h => List.mem_cons_of_mem _ (i_Qd w h)) hown hw (k_Q qpt_11 v_1.2.2) rfl 5 (by decide) (hts _ (List.mem_cons_of_mem _ xw_112)) (fun _ h9 => h9) rfl d_Qd_startCalls_58 ?_
        refine lv_bipush (v := 10) hx hb d_Qd_startCalls_61 (by decide) ?_
        refine lv_iload_n hx hb d_Qd_startCalls_63 rfl (lv_at hl 3 rfl) ?_
        refine lv_iadd hx hb d_Qd_startCalls_64 ?_
        refine lv_iload hx hb d_Qd_startCalls_65 (lv_at hl 1 rfl) ?_
        refine lv_iload hx hb d_Qd_startCalls_67 (lv_at hl 0 rfl) ?_
        refine xm_calli (ua := fun _ => ad) (va_runV (As := [.int (10 + p0), .int r_5, .int r_7]) (rest := []) ⟨hx, hb, hml, hown, hts⟩ (c_Pr_put (D := D) (ad := ad) (CE := (fun f => (CE qpt_11 f)))  (fun f => k_P qpt_11 f) (fun f => k_R qpt_11 f) (fun f f' => u_R qpt_11 f f') h _) (xg_cwV 3 hts xw_321 xw_318 xw_319 xw_320 xw_5 rfl rfl (by decide +kernel) ⟨Nat.le_of_ble_eq_true rfl, Nat.le_of_ble_eq_true rfl⟩) (xm_preV hw (k_P qpt_11 v_1.2.2) rfl _) rfl rfl hl.1 rfl (lv_room (Nat.le_of_ble_eq_true rfl)) d_Qd_startCalls_69 ⟨Nat.le_of_ble_eq_true rfl, Nat.le_of_ble_eq_true rfl⟩) hw (fun r_12 u_13 H locs h hw => ?_)
        obtain ⟨f_14, ef_14⟩ : ∃ z, z = u_13 := ⟨_, rfl⟩
        try dsimp only at h hw
        rw [← ef_14] at h hw
        refine lv_pop hx hb d_Qd_startCalls_72 rfl ?_
        exact hJ_4 (qpt_11, f_14) h _ _ _ hw (lv_sub hl [] rfl)
  · have h := h.2 hc
    refine lv_aload_n hx hb d_Qd_startCalls_10 rfl (lv_at hl 1 rfl) ?_
    refine xm_get (D := D) (v := .ref (ad ipt)) (C := R_Qd) (T := F_Qd) (N := 12) hx hb hts (fun w h => List.mem_cons_of_mem _ (i_Qd w h)) hown hw (k_Q v_1.2.1 v_1.2.2) rfl 8 (by decide) (hts _ (List.mem_cons_of_mem _ xw_115)) (fun _ h9 => h9) rfl d_Qd_startCalls_11 ?_
    refine lv_iload hx hb d_Qd_startCalls_14 (lv_at hl 0 rfl) ?_
    refine lv_iconst (v := 0) hx hb d_Qd_startCalls_16 (by decide) ?_
    obtain ⟨hin, h⟩ := h
    refine xm_iast hx hb hw 0 (k_pt v_1.2.1 v_1.2.2) rfl hin d_Qd_startCalls_17 (fun H locs hw => ?_)
    have hw : xm_W D xcl (xT cI cZ cJ cO) (xm_A ad (CE qpt f) s.heap.size) ad (CE (upd v_1.2.1 (Int32.toNatClampNeg v_1.1) 0) v_1.2.2) s s.heap H locs := xm_W.cast (u_pt v_1.2.1 v_1.2.2 (upd v_1.2.1 (Int32.toNatClampNeg v_1.1) 0)) hw
    obtain ⟨qpt_15, eqpt_15⟩ : ∃ z : Nat → Int32, z = upd v_1.2.1 (Int32.toNatClampNeg v_1.1) 0 := ⟨_, rfl⟩
    have h := h qpt_15 eqpt_15
    rw [← eqpt_15] at hw
    obtain ⟨x_16, ex_16⟩ : ∃ y : Int32, y = v_1.1 + 1 := ⟨_, rfl⟩
    have h := h x_16 ex_16
    refine lv_iinc (v := x_16) (lv' := [(4, .int x_16), (0, .ref (ad iQ)), (1, .int p0), (2, .int x), (3, .int y)]) hx hb d_Qd_startCalls_18 hl (k := 0) rfl (by rw [ex_16]; rfl) (by decide) rfl (fun ls hl => ?_)
    refine lv_goto (tgt := 3) hx hb d_Qd_startCalls_21 (by decide) ?_
    exact hK_2 (x_16, qpt_15, v_1.2.2) h _ _ _ hw (lv_sub hl [0, 1, 2, 3, 4] rfl)
theorem xw_114 : (Jvm.Cond.fieldLink "QuestionDesk" (51 : Nat) "QuestionDesk" "rewritten" "LQuestionDesk$Rule;") ∈ xg := xg_t (i := 114) (by decide +kernel) (by decide +kernel)
theorem xw_113 : (Jvm.Cond.fieldLink "QuestionDesk" (44 : Nat) "QuestionDesk" "matcher" "LQuestionDesk$Matcher;") ∈ xg := xg_t (i := 113) (by decide +kernel) (by decide +kernel)
theorem xw_485 : (Jvm.Cond.code ({ cls := "QuestionDesk$Matcher", name := "follow", desc := "(LQuestionDesk$Rule;)Z" } : Jvm.MethodName) prog_2_method_2_code (2 : Nat) (Option.some Jvm.ClassFile.FieldType.boolean)) ∈ xg := xg_t (i := 485) (by decide +kernel) (by decide +kernel)
theorem xw_482 : (Jvm.Cond.methodLink "QuestionDesk" (179 : Nat) ({ cls := "QuestionDesk$Matcher", name := "follow", desc := "(LQuestionDesk$Rule;)Z" } : Jvm.MethodName)) ∈ xg := xg_t (i := 482) (by decide +kernel) (by decide +kernel)
theorem xw_483 : (Jvm.Cond.instanceMethod ({ cls := "QuestionDesk$Matcher", name := "follow", desc := "(LQuestionDesk$Rule;)Z" } : Jvm.MethodName)) ∈ xg := xg_t (i := 483) (by decide +kernel) (by decide +kernel)
theorem xw_484 : (Jvm.Cond.selects "QuestionDesk$Matcher" ({ cls := "QuestionDesk$Matcher", name := "follow", desc := "(LQuestionDesk$Rule;)Z" } : Jvm.MethodName) ({ cls := "QuestionDesk$Matcher", name := "follow", desc := "(LQuestionDesk$Rule;)Z" } : Jvm.MethodName)) ∈ xg := xg_t (i := 484) (by decide +kernel) (by decide +kernel)
theorem xw_372 : (Jvm.Cond.methodLink "QuestionDesk" (96 : Nat) ({ cls := "QuestionDesk$Rule", name := "append", desc := "(III)V" } : Jvm.MethodName)) ∈ xg := xg_t (i := 372) (by decide +kernel) (by decide +kernel)
theorem xw_343 : (Jvm.Cond.code ({ cls := "QuestionDesk$Rule", name := "begin", desc := "(III)V" } : Jvm.MethodName) prog_4_method_2_code (4 : Nat) (Option.none : Option Jvm.ClassFile.FieldType)) ∈ xg := xg_t (i := 343) (by decide +kernel) (by decide +kernel)
theorem xw_340 : (Jvm.Cond.methodLink "QuestionDesk" (82 : Nat) ({ cls := "QuestionDesk$Rule", name := "begin", desc := "(III)V" } : Jvm.MethodName)) ∈ xg := xg_t (i := 340) (by decide +kernel) (by decide +kernel)
theorem xw_341 : (Jvm.Cond.instanceMethod ({ cls := "QuestionDesk$Rule", name := "begin", desc := "(III)V" } : Jvm.MethodName)) ∈ xg := xg_t (i := 341) (by decide +kernel) (by decide +kernel)
theorem xw_342 : (Jvm.Cond.selects "QuestionDesk$Rule" ({ cls := "QuestionDesk$Rule", name := "begin", desc := "(III)V" } : Jvm.MethodName) ({ cls := "QuestionDesk$Rule", name := "begin", desc := "(III)V" } : Jvm.MethodName)) ∈ xg := xg_t (i := 342) (by decide +kernel) (by decide +kernel)
def wp_Qd_findAnswers (post : (Nat → Int32) → (Nat → Int32) → (Nat → Int32) → Int32 → (Nat → Int32) → (Nat → Int32) → Prop)  (rs : Nat → Int32) (rf : Nat → Int32) (rc : Nat → Int32) (na : Int32) (f : Nat → Int32) (v : Nat → Int32) (p0 : Int32) (x : Int32) (y : Int32) : Prop :=
wp_Ru_begin (fun rs_3 rf_4 rc_5 na_6 =>
wp_Ru_append (fun rs_9 rf_10 rc_11 na_12 =>
wp_Mt_follow (fun r_13 f_15 v_16 =>
post rs_9 rf_10 rc_11 na_12 f_15 v_16) rs_9 rf_10 rc_11 na_12 f v) rs_3 rf_4 rc_5 na_6 (0 + p0) x y) rs rf rc na 30 x y
abbrev rm_Qd_findAnswers : Room := { frames := 10, cells := 0, slots := 0, locals := 260 }
set_option maxHeartbeats 4000000 in
set_option maxRecDepth 100000 in
theorem c_Qd_findAnswers {l : Launch} {D : va_G} {ad : Nat → Nat} (CE : (Nat → Int32) → (Nat → Int32) → (Nat → Int32) → Int32 → (Nat → Int32) → (Nat → Int32) → Nat → Option va_E) {cI cZ cJ cO : ClassId} {iQ : Nat} {ipl : Nat} {ibr : Nat} {iL : Nat} {iP : Nat} {iM : Nat} {iU : Nat} {ipt : Nat} {iR : Nat} {iV : Nat} {iA : Nat} {iB : Nat} {iC : Nat} {np : Int32} {bg : Value} {rw : Int32} {aq : Int32} {pn : Int32} (k_Q : ∀ (rs : Nat → Int32) (rf : Nat → Int32) (rc : Nat → Int32) (na : Int32) (f : Nat → Int32) (v : Nat → Int32), (CE rs rf rc na f v) iQ = some (.inr (0, [.ref (ad ipl), .ref (ad ibr), .int np, .ref (ad iL), bg, .ref (ad iP), .ref (ad iM), .ref (ad iU), .ref (ad ipt), .int rw, .int aq, .int pn]))) (k_P : ∀ (rs : Nat → Int32) (rf : Nat → Int32) (rc : Nat → Int32) (na : Int32) (f : Nat → Int32) (v : Nat → Int32), (CE rs rf rc na f v) iP = some (.inr (1, [.ref (ad iR)]))) (k_R : ∀ (rs : Nat → Int32) (rf : Nat → Int32) (rc : Nat → Int32) (na : Int32) (f : Nat → Int32) (v : Nat → Int32), (CE rs rf rc na f v) iR = some (.inl (cI, 341, .inl f))) (k_M : ∀ (rs : Nat → Int32) (rf : Nat → Int32) (rc : Nat → Int32) (na : Int32) (f : Nat → Int32) (v : Nat → Int32), (CE rs rf rc na f v) iM = some (.inr (2, [.ref (ad iP), .ref (ad iV)]))) (k_V : ∀ (rs : Nat → Int32) (rf : Nat → Int32) (rc : Nat → Int32) (na : Int32) (f : Nat → Int32) (v : Nat → Int32), (CE rs rf rc na f v) iV = some (.inl (cI, 20, .inl v))) (k_U : ∀ (rs : Nat → Int32) (rf : Nat → Int32) (rc : Nat → Int32) (na : Int32) (f : Nat → Int32) (v : Nat → Int32), (CE rs rf rc na f v) iU = some (.inr (3, [.ref (ad iA), .ref (ad iB), .ref (ad iC), .int na]))) (k_A : ∀ (rs : Nat → Int32) (rf : Nat → Int32) (rc : Nat → Int32) (na : Int32) (f : Nat → Int32) (v : Nat → Int32), (CE rs rf rc na f v) iA = some (.inl (cI, 4, .inl rs))) (k_B : ∀ (rs : Nat → Int32) (rf : Nat → Int32) (rc : Nat → Int32) (na : Int32) (f : Nat → Int32) (v : Nat → Int32), (CE rs rf rc na f v) iB = some (.inl (cI, 4, .inl rf))) (k_C : ∀ (rs : Nat → Int32) (rf : Nat → Int32) (rc : Nat → Int32) (na : Int32) (f : Nat → Int32) (v : Nat → Int32), (CE rs rf rc na f v) iC = some (.inl (cI, 4, .inl rc))) (u_R : ∀ (rs : Nat → Int32) (rf : Nat → Int32) (rc : Nat → Int32) (na : Int32) (f : Nat → Int32) (v : Nat → Int32) (f' : Nat → Int32), va_up (CE rs rf rc na f v) iR (some (.inl (cI, 341, .inl f'))) = (CE rs rf rc na f' v)) (u_V : ∀ (rs : Nat → Int32) (rf : Nat → Int32) (rc : Nat → Int32) (na : Int32) (f : Nat → Int32) (v : Nat → Int32) (v' : Nat → Int32), va_up (CE rs rf rc na f v) iV (some (.inl (cI, 20, .inl v'))) = (CE rs rf rc na f v')) (u_U : ∀ (rs : Nat → Int32) (rf : Nat → Int32) (rc : Nat → Int32) (na : Int32) (f : Nat → Int32) (v : Nat → Int32) (na' : Int32), va_up (CE rs rf rc na f v) iU (some (.inr (3, [.ref (ad iA), .ref (ad iB), .ref (ad iC), .int na']))) = (CE rs rf rc na' f v)) (u_A : ∀ (rs : Nat → Int32) (rf : Nat → Int32) (rc : Nat → Int32) (na : Int32) (f : Nat → Int32) (v : Nat → Int32) (rs' : Nat → Int32), va_up (CE rs rf rc na f v) iA (some (.inl (cI, 4, .inl rs'))) = (CE rs' rf rc na f v)) (u_B : ∀ (rs : Nat → Int32) (rf : Nat → Int32) (rc : Nat → Int32) (na : Int32) (f : Nat → Int32) (v : Nat → Int32) (rf' : Nat → Int32), va_up (CE rs rf rc na f v) iB (some (.inl (cI, 4, .inl rf'))) = (CE rs rf' rc na f v)) (u_C : ∀ (rs : Nat → Int32) (rf : Nat → Int32) (rc : Nat → Int32) (na : Int32) (f : Nat → Int32) (v : Nat → Int32) (rc' : Nat → Int32), va_up (CE rs rf rc na f v) iC (some (.inl (cI, 4, .inl rc'))) = (CE rs rf rc' na f v)) {post : (Nat → Int32) → (Nat → Int32) → (Nat → Int32) → Int32 → (Nat → Int32) → (Nat → Int32) → Prop} {rs : Nat → Int32} {rf : Nat → Int32} {rc : Nat → Int32} {na : Int32} {f : Nat → Int32} {v : Nat → Int32} {p0 : Int32} {x : Int32} {y : Int32} (h : wp_Qd_findAnswers post rs rf rc na f v p0 x y) : ∀ sz, Met l y_Qd_findAnswers (Cond.code y_Qd_findAnswers b_Qd_findAnswers 4 none :: xg) rm_Qd_findAnswers (xm_Pc D xcl (xT cI cZ cJ cO) ad (CE rs rf rc na f v) sz [.ref (ad iQ), .int p0, .int x, .int y]) (va_Qv (fun u : (Nat → Int32) × (Nat → Int32) × (Nat → Int32) × Int32 × (Nat → Int32) × (Nat → Int32) => post u.1 u.2.1 u.2.2.1 u.2.2.2.1 u.2.2.2.2.1 u.2.2.2.2.2) (xm_B D xcl (xT cI cZ cJ cO) (xm_A ad (CE rs rf rc na f v) sz) (fun _ => ad) (fun u : (Nat → Int32) × (Nat → Int32) × (Nat → Int32) × Int32 × (Nat → Int32) × (Nat → Int32) => CE u.1 u.2.1 u.2.2.1 u.2.2.2.1 u.2.2.2.2.1 u.2.2.2.2.2)) (xm_A ad (CE rs rf rc na f v) sz)) 0 0 (xm_A ad (CE rs rf rc na f v) sz) := by
  refine xm_ofW (cc := b_Qd_findAnswers) (maxL := 4) (ret := none) (by decide) rfl (Nat.le_of_ble_eq_true rfl) ?_
  intro p e s m args below meth c ls QQ hQQ hx hb hml hr hown hlk hnm hts hl hw
  have hl : lv_has ls 4 [(0, .ref (ad iQ)), (1, .int p0), (2, .int x), (3, .int y)] := hl
  unfold wp_Qd_findAnswers at h
  refine lv_aload_n hx hb d_Qd_findAnswers_0 rfl (lv_at hl 0 rfl) ?_
  refine xm_get (D := D) (v := .ref (ad iU)) (C := R_Qd) (T := F_Qd) (N := 12) hx hb hts (fun w h => List.mem_cons_of_mem _ (i_Qd w h)) hown hw (k_Q rs rf rc na f v) rfl 7 (by decide) (hts _ (List.mem_cons_of_mem _ xw_114)) (fun _ h9 => h9) rfl d_Qd_findAnswers_1 ?_
  refine lv_bipush (v := 30) hx hb d_Qd_findAnswers_4 (by decide) ?_
  refine lv_iload_n hx hb d_Qd_findAnswers_6 rfl (lv_at hl 2 rfl) ?_
  refine lv_iload_n hx hb d_Qd_findAnswers_7 rfl (lv_at hl 3 rfl) ?_
  refine xm_callv (ua := fun _ => ad) (va_runV (As := [.int 30, .int x, .int y]) (rest := []) ⟨hx, hb, hml, hown, hts⟩ (c_Ru_begin (D := D) (ad := ad) (CE := (fun rs rf rc na => (CE rs rf rc na f v)))  (fun rs rf rc na => k_U rs rf rc na f v) (fun rs rf rc na => k_A rs rf rc na f v) (fun rs rf rc na => k_B rs rf rc na f v) (fun rs rf rc na => k_C rs rf rc na f v) (fun rs rf rc na na' => u_U rs rf rc na f v na') (fun rs rf rc na rs' => u_A rs rf rc na f v rs') (fun rs rf rc na rf' => u_B rs rf rc na f v rf') (fun rs rf rc na rc' => u_C rs rf rc na f v rc') h _) (xg_cwV 3 hts xw_343 xw_340 xw_341 xw_342 xw_7 rfl rfl (by decide +kernel) ⟨Nat.le_of_ble_eq_true rfl, Nat.le_of_ble_eq_true rfl⟩) (xm_preV hw (k_U rs rf rc na f v) rfl _) rfl rfl hl.1 rfl (lv_room (Nat.le_of_ble_eq_true rfl)) d_Qd_findAnswers_8 ⟨Nat.le_of_ble_eq_true rfl, Nat.le_of_ble_eq_true rfl⟩) hw (fun u_2 H locs h hw => ?_)
  obtain ⟨rs_3, ers_3⟩ : ∃ z, z = u_2.1 := ⟨_, rfl⟩
  obtain ⟨rf_4, erf_4⟩ : ∃ z, z = u_2.2.1 := ⟨_, rfl⟩
  obtain ⟨rc_5, erc_5⟩ : ∃ z, z = u_2.2.2.1 := ⟨_, rfl⟩
  obtain ⟨na_6, ena_6⟩ : ∃ z, z = u_2.2.2.2 := ⟨_, rfl⟩
  try dsimp only at h hw
  rw [← ers_3, ← erf_4, ← erc_5, ← ena_6] at h hw
  refine lv_aload_n hx hb d_Qd_findAnswers_11 rfl (lv_at hl 0 rfl) ?_
  refine xm_get (D := D) (v := .ref (ad iU)) (C := R_Qd) (T := F_Qd) (N := 12) hx hb hts (fun w h => List.mem_cons_of_mem _ (i_Qd w h)) hown hw (k_Q rs_3 rf_4 rc_5 na_6 f v) rfl 7 (by decide) (hts _ (List.mem_cons_of_mem _ xw_114)) (fun _ h9 => h9) rfl d_Qd_findAnswers_12 ?_
  refine lv_iconst (v := 0) hx hb d_Qd_findAnswers_15 (by decide) ?_
  refine lv_iload_n hx hb d_Qd_findAnswers_16 rfl (lv_at hl 1 rfl) ?_
  refine lv_iadd hx hb d_Qd_findAnswers_17 ?_
  refine lv_iload_n hx hb d_Qd_findAnswers_18 rfl (lv_at hl 2 rfl) ?_
  refine lv_iload_n hx hb d_Qd_findAnswers_19 rfl (lv_at hl 3 rfl) ?_
  refine xm_callv (ua := fun _ => ad) (va_runV (As := [.int (0 + p0), .int x, .int y]) (rest := []) ⟨hx, hb, hml, hown, hts⟩ (c_Ru_append (D := D) (ad := ad) (CE := (fun rs rf rc na => (CE rs rf rc na f v)))  (fun rs rf rc na => k_U rs rf rc na f v) (fun rs rf rc na => k_A rs rf rc na f v) (fun rs rf rc na => k_B rs rf rc na f v) (fun rs rf rc na => k_C rs rf rc na f v) (fun rs rf rc na na' => u_U rs rf rc na f v na') (fun rs rf rc na rs' => u_A rs rf rc na f v rs') (fun rs rf rc na rf' => u_B rs rf rc na f v rf') (fun rs rf rc na rc' => u_C rs rf rc na f v rc') h _) (xg_cwV 3 hts xw_375 xw_372 xw_373 xw_374 xw_7 rfl rfl (by decide +kernel) ⟨Nat.le_of_ble_eq_true rfl, Nat.le_of_ble_eq_true rfl⟩) (xm_preV hw (k_U rs_3 rf_4 rc_5 na_6 f v) rfl _) rfl rfl hl.1 rfl (lv_room (Nat.le_of_ble_eq_true rfl)) d_Qd_findAnswers_20 ⟨Nat.le_of_ble_eq_true rfl, Nat.le_of_ble_eq_true rfl⟩) hw (fun u_8 H locs h hw => ?_)
  obtain ⟨rs_9, ers_9⟩ : ∃ z, z = u_8.1 := ⟨_, rfl⟩
  obtain ⟨rf_10, erf_10⟩ : ∃ z, z = u_8.2.1 := ⟨_, rfl⟩
  obtain ⟨rc_11, erc_11⟩ : ∃ z, z = u_8.2.2.1 := ⟨_, rfl⟩
  obtain ⟨na_12, ena_12⟩ : ∃ z, z = u_8.2.2.2 := ⟨_, rfl⟩
  try dsimp only at h hw
  rw [← ers_9, ← erf_10, ← erc_11, ← ena_12] at h hw
  refine lv_aload_n hx hb d_Qd_findAnswers_23 rfl (lv_at hl 0 rfl) ?_
  refine xm_get (D := D) (v := .ref (ad iM)) (C := R_Qd) (T := F_Qd) (N := 12) hx hb hts (fun w h => List.mem_cons_of_mem _ (i_Qd w h)) hown hw (k_Q rs_9 rf_10 rc_11 na_12 f v) rfl 6 (by decide) (hts _ (List.mem_cons_of_mem _ xw_113)) (fun _ h9 => h9) rfl d_Qd_findAnswers_24 ?_
  refine lv_aload_n hx hb d_Qd_findAnswers_27 rfl (lv_at hl 0 rfl) ?_
  refine xm_get (D := D) (v := .ref (ad iU)) (C := R_Qd) (T := F_Qd) (N := 12) hx hb hts (fun w h => List.mem_cons_of_mem _ (i_Qd w h)) hown hw (k_Q rs_9 rf_10 rc_11 na_12 f v) rfl 7 (by decide) (hts _ (List.mem_cons_of_mem _ xw_114)) (fun _ h9 => h9) rfl d_Qd_findAnswers_28 ?_
  refine xm_calli (ua := fun _ => ad) (va_runV (As := [.ref (ad iU)]) (rest := []) ⟨hx, hb, hml, hown, hts⟩ (c_Mt_follow (D := D) (ad := ad) (CE := (fun f v => (CE rs_9 rf_10 rc_11 na_12 f v)))  (fun f v => k_M rs_9 rf_10 rc_11 na_12 f v) (fun f v => k_V rs_9 rf_10 rc_11 na_12 f v) (fun f v => k_P rs_9 rf_10 rc_11 na_12 f v) (fun f v => k_R rs_9 rf_10 rc_11 na_12 f v) (fun f v => k_U rs_9 rf_10 rc_11 na_12 f v) (fun f v => k_A rs_9 rf_10 rc_11 na_12 f v) (fun f v => k_B rs_9 rf_10 rc_11 na_12 f v) (fun f v => k_C rs_9 rf_10 rc_11 na_12 f v) (fun f v v' => u_V rs_9 rf_10 rc_11 na_12 f v v') (fun f v f' => u_R rs_9 rf_10 rc_11 na_12 f v f') h _) (xg_cwV 1 hts xw_485 xw_482 xw_483 xw_484 xw_6 rfl rfl (by decide +kernel) ⟨Nat.le_of_ble_eq_true rfl, Nat.le_of_ble_eq_true rfl⟩) (xm_preV hw (k_M rs_9 rf_10 rc_11 na_12 f v) rfl _) rfl rfl hl.1 rfl (lv_room (Nat.le_of_ble_eq_true rfl)) d_Qd_findAnswers_31 ⟨Nat.le_of_ble_eq_true rfl, Nat.le_of_ble_eq_true rfl⟩) hw (fun r_13 u_14 H locs h hw => ?_)
  obtain ⟨f_15, ef_15⟩ : ∃ z, z = u_14.1 := ⟨_, rfl⟩
  obtain ⟨v_16, ev_16⟩ : ∃ z, z = u_14.2 := ⟨_, rfl⟩
  try dsimp only at h hw
  rw [← ef_15, ← ev_16] at h hw
  refine lv_pop hx hb d_Qd_findAnswers_34 rfl ?_
  subst hQQ
  exact xm_vret hx hb hr hlk hw (rs_9, rf_10, rc_11, na_12, f_15, v_16) rfl rfl h d_Qd_findAnswers_35
theorem xw_207 : (Jvm.Cond.methodLink "QuestionDesk" (147 : Nat) ({ cls := "QuestionDesk$Pairs", name := "isIn", desc := "(II)Z" } : Jvm.MethodName)) ∈ xg := xg_t (i := 207) (by decide +kernel) (by decide +kernel)
theorem xw_206 : (Jvm.Cond.methodLink "QuestionDesk" (213 : Nat) ({ cls := "QuestionDesk$Pairs", name := "row", desc := "(II)I" } : Jvm.MethodName)) ∈ xg := xg_t (i := 206) (by decide +kernel) (by decide +kernel)
def wp_Qd_calledForRow (post : Int32 → Prop)  (f : Nat → Int32) (p0 : Int32) (x : Int32) : Prop :=
wp_Pr_row (fun r_1 =>
wp_Pr_row (fun r_3 =>
wp_Pr_row (fun r_5 =>
∀ x_7 : Int32, x_7 = r_3 ||| r_5 →
wp_Pr_isIn (fun r_8 =>
xj (fun (v_10 : Int32) =>
post v_10) (fun (J_11 : Int32 → Prop) =>
((r_8 = 0 →
J_11 (r_1 &&& x_7)) ∧ (¬ r_8 = 0 →
J_11 r_1)))) x_7 (-1)) f (10 + p0) x) f (10 + p0) (-1)) f (0 + p0) x
abbrev rm_Qd_calledForRow : Room := { frames := 1, cells := 0, slots := 0, locals := 22 }
set_option maxHeartbeats 4000000 in
set_option maxRecDepth 100000 in
theorem c_Qd_calledForRow {l : Launch} {D : va_G} {ad : Nat → Nat} (CE : Nat → Option va_E) {cI cZ cJ cO : ClassId} {iQ : Nat} {ipl : Nat} {ibr : Nat} {iL : Nat} {iP : Nat} {iM : Nat} {iU : Nat} {ipt : Nat} {iR : Nat} {f : Nat → Int32} {np : Int32} {bg : Value} {rw : Int32} {aq : Int32} {pn : Int32} (k_Q : CE iQ = some (.inr (0, [.ref (ad ipl), .ref (ad ibr), .int np, .ref (ad iL), bg, .ref (ad iP), .ref (ad iM), .ref (ad iU), .ref (ad ipt), .int rw, .int aq, .int pn]))) (k_P : CE iP = some (.inr (1, [.ref (ad iR)]))) (k_R : CE iR = some (.inl (cI, 341, .inl f))) {post : Int32 → Prop} {p0 : Int32} {x : Int32} (h : wp_Qd_calledForRow post f p0 x) : ∀ sz, Met l y_Qd_calledForRow (Cond.code y_Qd_calledForRow b_Qd_calledForRow 5 (some .int) :: xg) rm_Qd_calledForRow (xm_Pc D xcl (xT cI cZ cJ cO) ad CE sz [.ref (ad iQ), .int p0, .int x]) (va_Qi (fun (r : Int32) (_ : Unit) => post r) (xm_B D xcl (xT cI cZ cJ cO) (xm_A ad CE sz) (fun _ => ad) (fun _ : Unit => CE)) (xm_A ad CE sz)) 0 0 (xm_A ad CE sz) := by
  refine xm_ofW (cc := b_Qd_calledForRow) (maxL := 5) (ret := (some .int)) (by decide) rfl (Nat.le_of_ble_eq_true rfl) ?_
  intro p e s m args below meth c ls QQ hQQ hx hb hml hr hown hlk hnm hts hl hw
  have hl : lv_has ls 5 [(0, .ref (ad iQ)), (1, .int p0), (2, .int x)] := hl
  unfold wp_Qd_calledForRow at h
  refine lv_aload_n hx hb d_Qd_calledForRow_0 rfl (lv_at hl 0 rfl) ?_
  refine xm_get (D := D) (v := .ref (ad iP)) (C := R_Qd) (T := F_Qd) (N := 12) hx hb hts (fun w h => List.mem_cons_of_mem _ (i_Qd w h)) hown hw k_Q rfl 5 (by decide) (hts _ (List.mem_cons_of_mem _ xw_112)) (fun _ h9 => h9) rfl d_Qd_calledForRow_1 ?_
  refine lv_iconst (v := 0) hx hb d_Qd_calledForRow_4 (by decide) ?_
  refine lv_iload_n hx hb d_Qd_calledForRow_5 rfl (lv_at hl 1 rfl) ?_
  refine lv_iadd hx hb d_Qd_calledForRow_6 ?_
  refine lv_iload_n hx hb d_Qd_calledForRow_7 rfl (lv_at hl 2 rfl) ?_
  refine xm_calli (ua := fun _ => ad) (va_runV (As := [.int (0 + p0), .int x]) (rest := []) ⟨hx, hb, hml, hown, hts⟩ (c_Pr_row (D := D) (ad := ad) (CE := (CE))  k_P k_R h _) (xg_cwV 2 hts xw_180 xw_206 xw_178 xw_179 xw_5 rfl rfl (by decide +kernel) ⟨Nat.le_of_ble_eq_true rfl, Nat.le_of_ble_eq_true rfl⟩) (xm_preV hw k_P rfl _) rfl rfl hl.1 rfl (lv_room (Nat.le_of_ble_eq_true rfl)) d_Qd_calledForRow_8 ⟨Nat.le_of_ble_eq_true rfl, Nat.le_of_ble_eq_true rfl⟩) hw (fun r_1 _ H locs h hw => ?_)
  refine lv_istore_n (lv' := [(3, .int r_1), (0, .ref (ad iQ)), (1, .int p0), (2, .int x)]) hx hb d_Qd_calledForRow_11 rfl hl (by decide) rfl (fun ls hl => ?_)
  refine lv_aload_n hx hb d_Qd_calledForRow_12 rfl (lv_at hl 1 rfl) ?_
  refine xm_get (D := D) (v := .ref (ad iP)) (C := R_Qd) (T := F_Qd) (N := 12) hx hb hts (fun w h => List.mem_cons_of_mem _ (i_Qd w h)) hown hw k_Q rfl 5 (by decide) (hts _ (List.mem_cons_of_mem _ xw_112)) (fun _ h9 => h9) rfl d_Qd_calledForRow_13 ?_
  refine lv_bipush (v := 10) hx hb d_Qd_calledForRow_16 (by decide) ?_
  refine lv_iload_n hx hb d_Qd_calledForRow_18 rfl (lv_at hl 2 rfl) ?_
  refine lv_iadd hx hb d_Qd_calledForRow_19 ?_
  refine lv_iconst (v := (-1)) hx hb d_Qd_calledForRow_20 (by decide) ?_
  refine xm_calli (ua := fun _ => ad) (va_runV (As := [.int (10 + p0), .int (-1)]) (rest := []) ⟨hx, hb, hml, hown, hts⟩ (c_Pr_row (D := D) (ad := ad) (CE := (CE))  k_P k_R h _) (xg_cwV 2 hts xw_180 xw_206 xw_178 xw_179 xw_5 rfl rfl (by decide +kernel) ⟨Nat.le_of_ble_eq_true rfl, Nat.le_of_ble_eq_true rfl⟩) (xm_preV hw k_P rfl _) rfl rfl hl.1 rfl (lv_room (Nat.le_of_ble_eq_true rfl)) d_Qd_calledForRow_21 ⟨Nat.le_of_ble_eq_true rfl, Nat.le_of_ble_eq_true rfl⟩) hw (fun r_3 _ H locs h hw => ?_)
  refine lv_aload_n hx hb d_Qd_calledForRow_24 rfl (lv_at hl 1 rfl) ?_
  refine xm_get (D := D) (v := .ref (ad iP)) (C := R_Qd) (T := F_Qd) (N := 12) hx hb hts (fun w h => List.mem_cons_of_mem _ (i_Qd w h)) hown hw k_Q rfl 5 (by decide) (hts _ (List.mem_cons_of_mem _ xw_112)) (fun _ h9 => h9) rfl d_Qd_calledForRow_25 ?_
  refine lv_bipush (v := 10) hx hb d_Qd_calledForRow_28 (by decide) ?_
  refine lv_iload_n hx hb d_Qd_calledForRow_30 rfl (lv_at hl 2 rfl) ?_
  refine lv_iadd hx hb d_Qd_calledForRow_31 ?_
  refine lv_iload_n hx hb d_Qd_calledForRow_32 rfl (lv_at hl 3 rfl) ?_
  refine xm_calli (ua := fun _ => ad) (va_runV (As := [.int (10 + p0), .int x]) (rest := [.int r_3]) ⟨hx, hb, hml, hown, hts⟩ (c_Pr_row (D := D) (ad := ad) (CE := (CE))  k_P k_R h _) (xg_cwV 2 hts xw_180 xw_206 xw_178 xw_179 xw_5 rfl rfl (by decide +kernel) ⟨Nat.le_of_ble_eq_true rfl, Nat.le_of_ble_eq_true rfl⟩) (xm_preV hw k_P rfl _) rfl rfl hl.1 rfl (lv_room (Nat.le_of_ble_eq_true rfl)) d_Qd_calledForRow_33 ⟨Nat.le_of_ble_eq_true rfl, Nat.le_of_ble_eq_true rfl⟩) hw (fun r_5 _ H locs h hw => ?_)
  refine lv_ior hx hb d_Qd_calledForRow_36 ?_
  refine lv_topi (fun x_7 ex_7 => ?_)
  have h := h x_7 ex_7
  refine lv_istore (lv' := [(4, .int x_7), (3, .int r_1), (0, .ref (ad iQ)), (1, .int p0), (2, .int x)]) hx hb d_Qd_calledForRow_37 hl (by decide) rfl (fun ls hl => ?_)
  refine lv_iload hx hb d_Qd_calledForRow_39 (lv_at hl 0 rfl) ?_
  refine lv_iconst (v := (-1)) hx hb d_Qd_calledForRow_41 (by decide) ?_
  refine xm_calli (ua := fun _ => ad) (va_runS (As := [.int x_7, .int (-1)]) (rest := []) ⟨hx, hb, hml, hown, hts⟩ (c_Pr_isIn (D := D) (ad := ad) (CE := (CE))   h _) (xg_cwS 2 hts xw_183 xw_207 xw_182 xw_5 rfl rfl (by decide +kernel) ⟨Nat.le_of_ble_eq_true rfl, Nat.le_of_ble_eq_true rfl⟩) (xm_pre hw _) rfl rfl hl.1 rfl (lv_room (Nat.le_of_ble_eq_true rfl)) d_Qd_calledForRow_42 ⟨Nat.le_of_ble_eq_true rfl, Nat.le_of_ble_eq_true rfl⟩) hw (fun r_8 _ H locs h hw => ?_)
  refine xj_use h (fun (v_10 : Int32) => ∀ (H : Heap) (locs : List Loc) (ls : Array Slot), xm_W D xcl (xT cI cZ cJ cO) (xm_A ad CE s.heap.size) ad CE s s.heap H locs → lv_has ls 5 [] → W p l e rm_Qd_calledForRow s m args below meth c H locs 0 0 QQ (F0 m 56 ls [.int v_10])) (fun v_10 h H locs ls hw hl => ?_) (fun J_11 hJ_11 h => ?_)
  · subst hQQ
    exact xm_iret hx hb hr hlk hw () rfl rfl h d_Qd_calledForRow_56
  · refine lv_if_eq (tgt := 52) hx hb d_Qd_calledForRow_45 (by decide) (fun hc => ?_) (fun hc => ?_)
    · have h := h.1 hc
      refine lv_iload_n hx hb d_Qd_calledForRow_52 rfl (lv_at hl 1 rfl) ?_
      refine lv_iload hx hb d_Qd_calledForRow_53 (lv_at hl 0 rfl) ?_
      refine lv_iand hx hb d_Qd_calledForRow_55 ?_
      exact hJ_11 (r_1 &&& x_7) h _ _ _ hw (lv_sub hl [] rfl)
    · have h := h.2 hc
      refine lv_iload_n hx hb d_Qd_calledForRow_48 rfl (lv_at hl 1 rfl) ?_
      refine lv_goto (tgt := 56) hx hb d_Qd_calledForRow_49 (by decide) ?_
      exact hJ_11 r_1 h _ _ _ hw (lv_sub hl [] rfl)
theorem xw_208 : (Jvm.Cond.methodLink "QuestionDesk" (154 : Nat) ({ cls := "java/lang/Integer", name := "bitCount", desc := "(I)I" } : Jvm.MethodName)) ∈ xg := xg_t (i := 208) (by decide +kernel) (by decide +kernel)
theorem xw_205 : (Jvm.Cond.code ({ cls := "QuestionDesk", name := "calledForRow", desc := "(II)I" } : Jvm.MethodName) prog_1_method_29_code (5 : Nat) (Option.some Jvm.ClassFile.FieldType.int)) ∈ xg := xg_t (i := 205) (by decide +kernel) (by decide +kernel)
theorem xw_202 : (Jvm.Cond.methodLink "QuestionDesk" (143 : Nat) ({ cls := "QuestionDesk", name := "calledForRow", desc := "(II)I" } : Jvm.MethodName)) ∈ xg := xg_t (i := 202) (by decide +kernel) (by decide +kernel)
theorem xw_204 : (Jvm.Cond.instanceMethod ({ cls := "QuestionDesk", name := "calledForRow", desc := "(II)I" } : Jvm.MethodName)) ∈ xg := xg_t (i := 204) (by decide +kernel) (by decide +kernel)
theorem xw_p2 : Cond.selects "QuestionDesk" ⟨"QuestionDesk", "calledForRow", "(II)I"⟩ ⟨"QuestionDesk", "calledForRow", "(II)I"⟩ ∈ xg := xg_p (q := (⟨"QuestionDesk", "calledForRow", "(II)I"⟩, 12)) (i := 2) (by decide +kernel) (by decide +kernel)
def wp_Qd_calledForSize (post : Int32 → Prop)  (f : Nat → Int32) (p0 : Int32) : Prop :=
xL (fun (K_2 : Int32 × Int32 → Prop) (v_1 : Int32 × Int32) =>
((10 ≤ v_1.1 →
post v_1.2) ∧ (¬ 10 ≤ v_1.1 →
wp_Qd_calledForRow (fun r_3 =>
wp_In_bitCount (fun r_5 =>
∀ x_7 : Int32, x_7 = v_1.2 + r_5 →
∀ x_8 : Int32, x_8 = v_1.1 + 1 →
K_2 (x_8, x_7)) r_3) f p0 v_1.1))) (0, 0)
abbrev rm_Qd_calledForSize : Room := { frames := 2, cells := 0, slots := 0, locals := 46 }
set_option maxHeartbeats 4000000 in
set_option maxRecDepth 100000 in
theorem c_Qd_calledForSize {l : Launch} {D : va_G} {ad : Nat → Nat} (CE : Nat → Option va_E) {cI cZ cJ cO : ClassId} {iQ : Nat} {ipl : Nat} {ibr : Nat} {iL : Nat} {iP : Nat} {iM : Nat} {iU : Nat} {ipt : Nat} {iR : Nat} {f : Nat → Int32} {np : Int32} {bg : Value} {rw : Int32} {aq : Int32} {pn : Int32} (k_Q : CE iQ = some (.inr (0, [.ref (ad ipl), .ref (ad ibr), .int np, .ref (ad iL), bg, .ref (ad iP), .ref (ad iM), .ref (ad iU), .ref (ad ipt), .int rw, .int aq, .int pn]))) (k_P : CE iP = some (.inr (1, [.ref (ad iR)]))) (k_R : CE iR = some (.inl (cI, 341, .inl f))) {post : Int32 → Prop} {p0 : Int32} (h : wp_Qd_calledForSize post f p0) : ∀ sz, Met l y_Qd_calledForSize (Cond.code y_Qd_calledForSize b_Qd_calledForSize 4 (some .int) :: xg) rm_Qd_calledForSize (xm_Pc D xcl (xT cI cZ cJ cO) ad CE sz [.ref (ad iQ), .int p0]) (va_Qi (fun (r : Int32) (_ : Unit) => post r) (xm_B D xcl (xT cI cZ cJ cO) (xm_A ad CE sz) (fun _ => ad) (fun _ : Unit => CE)) (xm_A ad CE sz)) 0 0 (xm_A ad CE sz) := by
  refine xm_ofW (cc := b_Qd_calledForSize) (maxL := 4) (ret := (some .int)) (by decide) rfl (Nat.le_of_ble_eq_true rfl) ?_
  intro p e s m args below meth c ls QQ hQQ hx hb hml hr hown hlk hnm hts hl hw
  have hl : lv_has ls 4 [(0, .ref (ad iQ)), (1, .int p0)] := hl
  unfold wp_Qd_calledForSize at h
  refine lv_iconst (v := 0) hx hb d_Qd_calledForSize_0 (by decide) ?_
  refine lv_istore_n (lv' := [(2, .int 0), (0, .ref (ad iQ)), (1, .int p0)]) hx hb d_Qd_calledForSize_1 rfl hl (by decide) rfl (fun ls hl => ?_)
  refine lv_iconst (v := 0) hx hb d_Qd_calledForSize_2 (by decide) ?_
  refine lv_istore_n (lv' := [(3, .int 0), (2, .int 0), (0, .ref (ad iQ)), (1, .int p0)]) hx hb d_Qd_calledForSize_3 rfl hl (by decide) rfl (fun ls hl => ?_)
  refine xL_use h (fun (v_1 : Int32 × Int32) => ∀ (H : Heap) (locs : List Loc) (ls : Array Slot), xm_W D xcl (xT cI cZ cJ cO) (xm_A ad CE s.heap.size) ad CE s s.heap H locs → lv_has ls 4 [(3, .int v_1.1), (2, .int v_1.2), (0, .ref (ad iQ)), (1, .int p0)] → W p l e rm_Qd_calledForSize s m args below meth c H locs 0 0 QQ (F0 m 4 ls [])) (fun K_2 hK_2 v_1 h H locs ls hw hl => ?_) _ _ _ hw (lv_sub hl [0, 1, 2, 3] rfl)
  refine lv_iload_n hx hb d_Qd_calledForSize_4 rfl (lv_at hl 0 rfl) ?_
  refine lv_bipush (v := 10) hx hb d_Qd_calledForSize_5 (by decide) ?_
  refine lv_icmp_ge (tgt := 28) hx hb d_Qd_calledForSize_7 (by decide) (fun hc => ?_) (fun hc => ?_)
  · have h := h.1 hc
    refine lv_iload_n hx hb d_Qd_calledForSize_28 rfl (lv_at hl 1 rfl) ?_
    subst hQQ
    exact xm_iret hx hb hr hlk hw () rfl rfl h d_Qd_calledForSize_29
  · have h := h.2 hc
    refine lv_iload_n hx hb d_Qd_calledForSize_10 rfl (lv_at hl 1 rfl) ?_
    refine lv_aload_n hx hb d_Qd_calledForSize_11 rfl (lv_at hl 2 rfl) ?_
    refine lv_iload_n hx hb d_Qd_calledForSize_12 rfl (lv_at hl 3 rfl) ?_
    refine lv_iload_n hx hb d_Qd_calledForSize_13 rfl (lv_at hl 0 rfl) ?_
    refine xm_calli (ua := fun _ => ad) (va_runV (As := [.int p0, .int v_1.1]) (rest := [.int v_1.2]) ⟨hx, hb, hml, hown, hts⟩ (c_Qd_calledForRow (D := D) (ad := ad) (CE := (CE))  k_Q k_P k_R h _) (xg_cwV 2 hts xw_205 xw_202 xw_204 xw_p2 xw_1 rfl rfl (by decide +kernel) ⟨Nat.le_of_ble_eq_true rfl, Nat.le_of_ble_eq_true rfl⟩) (xm_preV hw k_Q rfl _) rfl rfl hl.1 rfl (lv_room (Nat.le_of_ble_eq_true rfl)) d_Qd_calledForSize_14 ⟨Nat.le_of_ble_eq_true rfl, Nat.le_of_ble_eq_true rfl⟩) hw (fun r_3 _ H locs h hw => ?_)
    refine xm_calli (ua := fun _ => ad) (va_runS (As := [.int r_3]) (rest := [.int v_1.2]) ⟨hx, hb, hml, hown, hts⟩ (c_In_bitCount (D := D) (ad := ad) (CE := (CE))   h _) (xg_cwS 1 hts xw_194 xw_208 xw_193 xw_20 rfl rfl (by decide +kernel) ⟨Nat.le_of_ble_eq_true rfl, Nat.le_of_ble_eq_true rfl⟩) (xm_pre hw _) rfl rfl hl.1 rfl (lv_room (Nat.le_of_ble_eq_true rfl)) d_Qd_calledForSize_17 ⟨Nat.le_of_ble_eq_true rfl, Nat.le_of_ble_eq_true rfl⟩) hw (fun r_5 _ H locs h hw => ?_)
    refine lv_iadd hx hb d_Qd_calledForSize_20 ?_
    refine lv_topi (fun x_7 ex_7 => ?_)
    have h := h x_7 ex_7
    refine lv_istore_n (lv' := [(2, .int x_7), (3, .int v_1.1), (0, .ref (ad iQ)), (1, .int p0)]) hx hb d_Qd_calledForSize_21 rfl hl (by decide) rfl (fun ls hl => ?_)
    obtain ⟨x_8, ex_8⟩ : ∃ y : Int32, y = v_1.1 + 1 := ⟨_, rfl⟩
    have h := h x_8 ex_8
    refine lv_iinc (v := x_8) (lv' := [(3, .int x_8), (2, .int x_7), (0, .ref (ad iQ)), (1, .int p0)]) hx hb d_Qd_calledForSize_22 hl (k := 1) rfl (by rw [ex_8]; rfl) (by decide) rfl (fun ls hl => ?_)
    refine lv_goto (tgt := 4) hx hb d_Qd_calledForSize_25 (by decide) ?_
    exact hK_2 (x_8, x_7) h _ _ _ hw (lv_sub hl [0, 1, 2, 3] rfl)
theorem xw_201 : (Jvm.Cond.code ({ cls := "QuestionDesk", name := "calledForSize", desc := "(I)I" } : Jvm.MethodName) prog_1_method_30_code (4 : Nat) (Option.some Jvm.ClassFile.FieldType.int)) ∈ xg := xg_t (i := 201) (by decide +kernel) (by decide +kernel)
theorem xw_198 : (Jvm.Cond.methodLink "QuestionDesk" (151 : Nat) ({ cls := "QuestionDesk", name := "calledForSize", desc := "(I)I" } : Jvm.MethodName)) ∈ xg := xg_t (i := 198) (by decide +kernel) (by decide +kernel)
theorem xw_200 : (Jvm.Cond.instanceMethod ({ cls := "QuestionDesk", name := "calledForSize", desc := "(I)I" } : Jvm.MethodName)) ∈ xg := xg_t (i := 200) (by decide +kernel) (by decide +kernel)
theorem xw_p1 : Cond.selects "QuestionDesk" ⟨"QuestionDesk", "calledForSize", "(I)I"⟩ ⟨"QuestionDesk", "calledForSize", "(I)I"⟩ ∈ xg := xg_p (q := (⟨"QuestionDesk", "calledForSize", "(I)I"⟩, 12)) (i := 1) (by decide +kernel) (by decide +kernel)
def wp_Qd_calledForOfAll (post : Int32 → Prop)  (f : Nat → Int32) : Prop :=
xL (fun (K_2 : Int32 × Int32 → Prop) (v_1 : Int32 × Int32) =>
((10 ≤ v_1.1 →
post v_1.2) ∧ (¬ 10 ≤ v_1.1 →
wp_Qd_calledForSize (fun r_3 =>
∀ x_5 : Int32, x_5 = v_1.2 + r_3 →
∀ x_6 : Int32, x_6 = v_1.1 + 1 →
K_2 (x_6, x_5)) f v_1.1))) (0, 0)
abbrev rm_Qd_calledForOfAll : Room := { frames := 3, cells := 0, slots := 0, locals := 69 }
set_option maxHeartbeats 4000000 in
set_option maxRecDepth 100000 in
theorem c_Qd_calledForOfAll {l : Launch} {D : va_G} {ad : Nat → Nat} (CE : Nat → Option va_E) {cI cZ cJ cO : ClassId} {iQ : Nat} {ipl : Nat} {ibr : Nat} {iL : Nat} {iP : Nat} {iM : Nat} {iU : Nat} {ipt : Nat} {iR : Nat} {f : Nat → Int32} {np : Int32} {bg : Value} {rw : Int32} {aq : Int32} {pn : Int32} (k_Q : CE iQ = some (.inr (0, [.ref (ad ipl), .ref (ad ibr), .int np, .ref (ad iL), bg, .ref (ad iP), .ref (ad iM), .ref (ad iU), .ref (ad ipt), .int rw, .int aq, .int pn]))) (k_P : CE iP = some (.inr (1, [.ref (ad iR)]))) (k_R : CE iR = some (.inl (cI, 341, .inl f))) {post : Int32 → Prop}  (h : wp_Qd_calledForOfAll post f) : ∀ sz, Met l y_Qd_calledForOfAll (Cond.code y_Qd_calledForOfAll b_Qd_calledForOfAll 3 (some .int) :: xg) rm_Qd_calledForOfAll (xm_Pc D xcl (xT cI cZ cJ cO) ad CE sz [.ref (ad iQ)]) (va_Qi (fun (r : Int32) (_ : Unit) => post r) (xm_B D xcl (xT cI cZ cJ cO) (xm_A ad CE sz) (fun _ => ad) (fun _ : Unit => CE)) (xm_A ad CE sz)) 0 0 (xm_A ad CE sz) := by
  refine xm_ofW (cc := b_Qd_calledForOfAll) (maxL := 3) (ret := (some .int)) (by decide) rfl (Nat.le_of_ble_eq_true rfl) ?_
  intro p e s m args below meth c ls QQ hQQ hx hb hml hr hown hlk hnm hts hl hw
  have hl : lv_has ls 3 [(0, .ref (ad iQ))] := hl
  unfold wp_Qd_calledForOfAll at h
  refine lv_iconst (v := 0) hx hb d_Qd_calledForOfAll_0 (by decide) ?_
  refine lv_istore_n (lv' := [(1, .int 0), (0, .ref (ad iQ))]) hx hb d_Qd_calledForOfAll_1 rfl hl (by decide) rfl (fun ls hl => ?_)
  refine lv_iconst (v := 0) hx hb d_Qd_calledForOfAll_2 (by decide) ?_
  refine lv_istore_n (lv' := [(2, .int 0), (1, .int 0), (0, .ref (ad iQ))]) hx hb d_Qd_calledForOfAll_3 rfl hl (by decide) rfl (fun ls hl => ?_)
  refine xL_use h (fun (v_1 : Int32 × Int32) => ∀ (H : Heap) (locs : List Loc) (ls : Array Slot), xm_W D xcl (xT cI cZ cJ cO) (xm_A ad CE s.heap.size) ad CE s s.heap H locs → lv_has ls 3 [(2, .int v_1.1), (1, .int v_1.2), (0, .ref (ad iQ))] → W p l e rm_Qd_calledForOfAll s m args below meth c H locs 0 0 QQ (F0 m 4 ls [])) (fun K_2 hK_2 v_1 h H locs ls hw hl => ?_) _ _ _ hw (lv_sub hl [0, 1, 2] rfl)
  refine lv_iload_n hx hb d_Qd_calledForOfAll_4 rfl (lv_at hl 0 rfl) ?_
  refine lv_bipush (v := 10) hx hb d_Qd_calledForOfAll_5 (by decide) ?_
  refine lv_icmp_ge (tgt := 24) hx hb d_Qd_calledForOfAll_7 (by decide) (fun hc => ?_) (fun hc => ?_)
  · have h := h.1 hc
    refine lv_iload_n hx hb d_Qd_calledForOfAll_24 rfl (lv_at hl 1 rfl) ?_
    subst hQQ
    exact xm_iret hx hb hr hlk hw () rfl rfl h d_Qd_calledForOfAll_25
  · have h := h.2 hc
    refine lv_iload_n hx hb d_Qd_calledForOfAll_10 rfl (lv_at hl 1 rfl) ?_
    refine lv_aload_n hx hb d_Qd_calledForOfAll_11 rfl (lv_at hl 2 rfl) ?_
    refine lv_iload_n hx hb d_Qd_calledForOfAll_12 rfl (lv_at hl 0 rfl) ?_
    refine xm_calli (ua := fun _ => ad) (va_runV (As := [.int v_1.1]) (rest := [.int v_1.2]) ⟨hx, hb, hml, hown, hts⟩ (c_Qd_calledForSize (D := D) (ad := ad) (CE := (CE))  k_Q k_P k_R h _) (xg_cwV 1 hts xw_201 xw_198 xw_200 xw_p1 xw_1 rfl rfl (by decide +kernel) ⟨Nat.le_of_ble_eq_true rfl, Nat.le_of_ble_eq_true rfl⟩) (xm_preV hw k_Q rfl _) rfl rfl hl.1 rfl (lv_room (Nat.le_of_ble_eq_true rfl)) d_Qd_calledForOfAll_13 ⟨Nat.le_of_ble_eq_true rfl, Nat.le_of_ble_eq_true rfl⟩) hw (fun r_3 _ H locs h hw => ?_)
    refine lv_iadd hx hb d_Qd_calledForOfAll_16 ?_
    refine lv_topi (fun x_5 ex_5 => ?_)
    have h := h x_5 ex_5
    refine lv_istore_n (lv' := [(1, .int x_5), (2, .int v_1.1), (0, .ref (ad iQ))]) hx hb d_Qd_calledForOfAll_17 rfl hl (by decide) rfl (fun ls hl => ?_)
    obtain ⟨x_6, ex_6⟩ : ∃ y : Int32, y = v_1.1 + 1 := ⟨_, rfl⟩
    have h := h x_6 ex_6
    refine lv_iinc (v := x_6) (lv' := [(2, .int x_6), (1, .int x_5), (0, .ref (ad iQ))]) hx hb d_Qd_calledForOfAll_18 hl (k := 1) rfl (by rw [ex_6]; rfl) (by decide) rfl (fun ls hl => ?_)
    refine lv_goto (tgt := 4) hx hb d_Qd_calledForOfAll_21 (by decide) ?_
    exact hK_2 (x_6, x_5) h _ _ _ hw (lv_sub hl [0, 1, 2] rfl)
def wp_Qd_patternsOfAll (post : Int32 → Prop)  (qpt : Nat → Int32) : Prop :=
xL (fun (K_2 : Int32 × Int32 → Prop) (v_1 : Int32 × Int32) =>
((10 ≤ v_1.1 →
post v_1.2) ∧ (¬ 10 ≤ v_1.1 →
vp_in v_1.1 10 ∧
wp_In_bitCount (fun r_3 =>
∀ x_5 : Int32, x_5 = v_1.2 + r_3 →
∀ x_6 : Int32, x_6 = v_1.1 + 1 →
K_2 (x_6, x_5)) (qpt (Int32.toNatClampNeg v_1.1))))) (0, 0)
abbrev rm_Qd_patternsOfAll : Room := { frames := 1, cells := 0, slots := 0, locals := 20 }
set_option maxHeartbeats 4000000 in
set_option maxRecDepth 100000 in
theorem c_Qd_patternsOfAll {l : Launch} {D : va_G} {ad : Nat → Nat} (CE : Nat → Option va_E) {cI cZ cJ cO : ClassId} {iQ : Nat} {ipl : Nat} {ibr : Nat} {iL : Nat} {iP : Nat} {iM : Nat} {iU : Nat} {ipt : Nat} {qpt : Nat → Int32} {np : Int32} {bg : Value} {rw : Int32} {aq : Int32} {pn : Int32} (k_Q : CE iQ = some (.inr (0, [.ref (ad ipl), .ref (ad ibr), .int np, .ref (ad iL), bg, .ref (ad iP), .ref (ad iM), .ref (ad iU), .ref (ad ipt), .int rw, .int aq, .int pn]))) (k_pt : CE ipt = some (.inl (cI, 10, .inl qpt))) {post : Int32 → Prop}  (h : wp_Qd_patternsOfAll post qpt) : ∀ sz, Met l y_Qd_patternsOfAll (Cond.code y_Qd_patternsOfAll b_Qd_patternsOfAll 3 (some .int) :: xg) rm_Qd_patternsOfAll (xm_Pc D xcl (xT cI cZ cJ cO) ad CE sz [.ref (ad iQ)]) (va_Qi (fun (r : Int32) (_ : Unit) => post r) (xm_B D xcl (xT cI cZ cJ cO) (xm_A ad CE sz) (fun _ => ad) (fun _ : Unit => CE)) (xm_A ad CE sz)) 0 0 (xm_A ad CE sz) := by
  refine xm_ofW (cc := b_Qd_patternsOfAll) (maxL := 3) (ret := (some .int)) (by decide) rfl (Nat.le_of_ble_eq_true rfl) ?_
  intro p e s m args below meth c ls QQ hQQ hx hb hml hr hown hlk hnm hts hl hw
  have hl : lv_has ls 3 [(0, .ref (ad iQ))] := hl
  unfold wp_Qd_patternsOfAll at h
  refine lv_iconst (v := 0) hx hb d_Qd_patternsOfAll_0 (by decide) ?_
  refine lv_istore_n (lv' := [(1, .int 0), (0, .ref (ad iQ))]) hx hb d_Qd_patternsOfAll_1 rfl hl (by decide) rfl (fun ls hl => ?_)
  refine lv_iconst (v := 0) hx hb d_Qd_patternsOfAll_2 (by decide) ?_
  refine lv_istore_n (lv' := [(2, .int 0), (1, .int 0), (0, .ref (ad iQ))]) hx hb d_Qd_patternsOfAll_3 rfl hl (by decide) rfl (fun ls hl => ?_)
  refine xL_use h (fun (v_1 : Int32 × Int32) => ∀ (H : Heap) (locs : List Loc) (ls : Array Slot), xm_W D xcl (xT cI cZ cJ cO) (xm_A ad CE s.heap.size) ad CE s s.heap H locs → lv_has ls 3 [(2, .int v_1.1), (1, .int v_1.2), (0, .ref (ad iQ))] → W p l e rm_Qd_patternsOfAll s m args below meth c H locs 0 0 QQ (F0 m 4 ls [])) (fun K_2 hK_2 v_1 h H locs ls hw hl => ?_) _ _ _ hw (lv_sub hl [0, 1, 2] rfl)
  refine lv_iload_n hx hb d_Qd_patternsOfAll_4 rfl (lv_at hl 0 rfl) ?_
  refine lv_bipush (v := 10) hx hb d_Qd_patternsOfAll_5 (by decide) ?_
  refine lv_icmp_ge (tgt := 28) hx hb d_Qd_patternsOfAll_7 (by decide) (fun hc => ?_) (fun hc => ?_)
  · have h := h.1 hc
    refine lv_iload_n hx hb d_Qd_patternsOfAll_28 rfl (lv_at hl 1 rfl) ?_
    subst hQQ
    exact xm_iret hx hb hr hlk hw () rfl rfl h d_Qd_patternsOfAll_29
  · have h := h.2 hc
    refine lv_iload_n hx hb d_Qd_patternsOfAll_10 rfl (lv_at hl 1 rfl) ?_
    refine lv_aload_n hx hb d_Qd_patternsOfAll_11 rfl (lv_at hl 2 rfl) ?_
    refine xm_get (D := D) (v := .ref (ad ipt)) (C := R_Qd) (T := F_Qd) (N := 12) hx hb hts (fun w h => List.mem_cons_of_mem _ (i_Qd w h)) hown hw k_Q rfl 8 (by decide) (hts _ (List.mem_cons_of_mem _ xw_115)) (fun _ h9 => h9) rfl d_Qd_patternsOfAll_12 ?_
    refine lv_iload_n hx hb d_Qd_patternsOfAll_15 rfl (lv_at hl 0 rfl) ?_
    obtain ⟨hin, h⟩ := h
    refine xm_iald hx hb hw 0 k_pt rfl hin d_Qd_patternsOfAll_16 ?_
    refine xm_calli (ua := fun _ => ad) (va_runS (As := [.int (qpt (Int32.toNatClampNeg v_1.1))]) (rest := [.int v_1.2]) ⟨hx, hb, hml, hown, hts⟩ (c_In_bitCount (D := D) (ad := ad) (CE := (CE))   h _) (xg_cwS 1 hts xw_194 xw_208 xw_193 xw_20 rfl rfl (by decide +kernel) ⟨Nat.le_of_ble_eq_true rfl, Nat.le_of_ble_eq_true rfl⟩) (xm_pre hw _) rfl rfl hl.1 rfl (lv_room (Nat.le_of_ble_eq_true rfl)) d_Qd_patternsOfAll_17 ⟨Nat.le_of_ble_eq_true rfl, Nat.le_of_ble_eq_true rfl⟩) hw (fun r_3 _ H locs h hw => ?_)
    refine lv_iadd hx hb d_Qd_patternsOfAll_20 ?_
    refine lv_topi (fun x_5 ex_5 => ?_)
    have h := h x_5 ex_5
    refine lv_istore_n (lv' := [(1, .int x_5), (2, .int v_1.1), (0, .ref (ad iQ))]) hx hb d_Qd_patternsOfAll_21 rfl hl (by decide) rfl (fun ls hl => ?_)
    obtain ⟨x_6, ex_6⟩ : ∃ y : Int32, y = v_1.1 + 1 := ⟨_, rfl⟩
    have h := h x_6 ex_6
    refine lv_iinc (v := x_6) (lv' := [(2, .int x_6), (1, .int x_5), (0, .ref (ad iQ))]) hx hb d_Qd_patternsOfAll_22 hl (k := 1) rfl (by rw [ex_6]; rfl) (by decide) rfl (fun ls hl => ?_)
    refine lv_goto (tgt := 4) hx hb d_Qd_patternsOfAll_25 (by decide) ?_
    exact hK_2 (x_6, x_5) h _ _ _ hw (lv_sub hl [0, 1, 2] rfl)
theorem xw_191 : (Jvm.Cond.code ({ cls := "QuestionDesk$Pairs", name := "size", desc := "(I)I" } : Jvm.MethodName) prog_3_method_8_code (4 : Nat) (Option.some Jvm.ClassFile.FieldType.int)) ∈ xg := xg_t (i := 191) (by decide +kernel) (by decide +kernel)
theorem xw_188 : (Jvm.Cond.methodLink "QuestionDesk" (137 : Nat) ({ cls := "QuestionDesk$Pairs", name := "size", desc := "(I)I" } : Jvm.MethodName)) ∈ xg := xg_t (i := 188) (by decide +kernel) (by decide +kernel)
theorem xw_189 : (Jvm.Cond.instanceMethod ({ cls := "QuestionDesk$Pairs", name := "size", desc := "(I)I" } : Jvm.MethodName)) ∈ xg := xg_t (i := 189) (by decide +kernel) (by decide +kernel)
theorem xw_190 : (Jvm.Cond.selects "QuestionDesk$Pairs" ({ cls := "QuestionDesk$Pairs", name := "size", desc := "(I)I" } : Jvm.MethodName) ({ cls := "QuestionDesk$Pairs", name := "size", desc := "(I)I" } : Jvm.MethodName)) ∈ xg := xg_t (i := 190) (by decide +kernel) (by decide +kernel)
def wp_Qd_sizeOfAll (post : Int32 → Prop)  (f : Nat → Int32) (kd : Int32) : Prop :=
xL (fun (K_2 : Int32 × Int32 → Prop) (v_1 : Int32 × Int32) =>
((10 ≤ v_1.1 →
post v_1.2) ∧ (¬ 10 ≤ v_1.1 →
wp_Pr_size (fun r_3 =>
∀ x_5 : Int32, x_5 = v_1.2 + r_3 →
∀ x_6 : Int32, x_6 = v_1.1 + 1 →
K_2 (x_6, x_5)) f (kd + v_1.1)))) (0, 0)
abbrev rm_Qd_sizeOfAll : Room := { frames := 2, cells := 0, slots := 0, locals := 45 }
set_option maxHeartbeats 4000000 in
set_option maxRecDepth 100000 in
theorem c_Qd_sizeOfAll {l : Launch} {D : va_G} {ad : Nat → Nat} (CE : Nat → Option va_E) {cI cZ cJ cO : ClassId} {iQ : Nat} {ipl : Nat} {ibr : Nat} {iL : Nat} {iP : Nat} {iM : Nat} {iU : Nat} {ipt : Nat} {iR : Nat} {f : Nat → Int32} {np : Int32} {bg : Value} {rw : Int32} {aq : Int32} {pn : Int32} (k_Q : CE iQ = some (.inr (0, [.ref (ad ipl), .ref (ad ibr), .int np, .ref (ad iL), bg, .ref (ad iP), .ref (ad iM), .ref (ad iU), .ref (ad ipt), .int rw, .int aq, .int pn]))) (k_P : CE iP = some (.inr (1, [.ref (ad iR)]))) (k_R : CE iR = some (.inl (cI, 341, .inl f))) {post : Int32 → Prop} {kd : Int32} (h : wp_Qd_sizeOfAll post f kd) : ∀ sz, Met l y_Qd_sizeOfAll (Cond.code y_Qd_sizeOfAll b_Qd_sizeOfAll 4 (some .int) :: xg) rm_Qd_sizeOfAll (xm_Pc D xcl (xT cI cZ cJ cO) ad CE sz [.ref (ad iQ), .int kd]) (va_Qi (fun (r : Int32) (_ : Unit) => post r) (xm_B D xcl (xT cI cZ cJ cO) (xm_A ad CE sz) (fun _ => ad) (fun _ : Unit => CE)) (xm_A ad CE sz)) 0 0 (xm_A ad CE sz) := by
  refine xm_ofW (cc := b_Qd_sizeOfAll) (maxL := 4) (ret := (some .int)) (by decide) rfl (Nat.le_of_ble_eq_true rfl) ?_
  intro p e s m args below meth c ls QQ hQQ hx hb hml hr hown hlk hnm hts hl hw
  have hl : lv_has ls 4 [(0, .ref (ad iQ)), (1, .int kd)] := hl
  unfold wp_Qd_sizeOfAll at h
  refine lv_iconst (v := 0) hx hb d_Qd_sizeOfAll_0 (by decide) ?_
  refine lv_istore_n (lv' := [(2, .int 0), (0, .ref (ad iQ)), (1, .int kd)]) hx hb d_Qd_sizeOfAll_1 rfl hl (by decide) rfl (fun ls hl => ?_)
  refine lv_iconst (v := 0) hx hb d_Qd_sizeOfAll_2 (by decide) ?_
  refine lv_istore_n (lv' := [(3, .int 0), (2, .int 0), (0, .ref (ad iQ)), (1, .int kd)]) hx hb d_Qd_sizeOfAll_3 rfl hl (by decide) rfl (fun ls hl => ?_)
  refine xL_use h (fun (v_1 : Int32 × Int32) => ∀ (H : Heap) (locs : List Loc) (ls : Array Slot), xm_W D xcl (xT cI cZ cJ cO) (xm_A ad CE s.heap.size) ad CE s s.heap H locs → lv_has ls 4 [(3, .int v_1.1), (2, .int v_1.2), (0, .ref (ad iQ)), (1, .int kd)] → W p l e rm_Qd_sizeOfAll s m args below meth c H locs 0 0 QQ (F0 m 4 ls [])) (fun K_2 hK_2 v_1 h H locs ls hw hl => ?_) _ _ _ hw (lv_sub hl [0, 1, 2, 3] rfl)
  refine lv_iload_n hx hb d_Qd_sizeOfAll_4 rfl (lv_at hl 0 rfl) ?_
  refine lv_bipush (v := 10) hx hb d_Qd_sizeOfAll_5 (by decide) ?_
  refine lv_icmp_ge (tgt := 29) hx hb d_Qd_sizeOfAll_7 (by decide) (fun hc => ?_) (fun hc => ?_)
  · have h := h.1 hc
    refine lv_iload_n hx hb d_Qd_sizeOfAll_29 rfl (lv_at hl 1 rfl) ?_
    subst hQQ
    exact xm_iret hx hb hr hlk hw () rfl rfl h d_Qd_sizeOfAll_30
  · have h := h.2 hc
    refine lv_iload_n hx hb d_Qd_sizeOfAll_10 rfl (lv_at hl 1 rfl) ?_
    refine lv_aload_n hx hb d_Qd_sizeOfAll_11 rfl (lv_at hl 2 rfl) ?_
    refine xm_get (D := D) (v := .ref (ad iP)) (C := R_Qd) (T := F_Qd) (N := 12) hx hb hts (fun w h => List.mem_cons_of_mem _ (i_Qd w h)) hown hw k_Q rfl 5 (by decide) (hts _ (List.mem_cons_of_mem _ xw_112)) (fun _ h9 => h9) rfl d_Qd_sizeOfAll_12 ?_
    refine lv_iload_n hx hb d_Qd_sizeOfAll_15 rfl (lv_at hl 3 rfl) ?_
    refine lv_iload_n hx hb d_Qd_sizeOfAll_16 rfl (lv_at hl 0 rfl) ?_
    refine lv_iadd hx hb d_Qd_sizeOfAll_17 ?_
    refine xm_calli (ua := fun _ => ad) (va_runV (As := [.int (kd + v_1.1)]) (rest := [.int v_1.2]) ⟨hx, hb, hml, hown, hts⟩ (c_Pr_size (D := D) (ad := ad) (CE := (CE))  k_P k_R h _) (xg_cwV 1 hts xw_191 xw_188 xw_189 xw_190 xw_5 rfl rfl (by decide +kernel) ⟨Nat.le_of_ble_eq_true rfl, Nat.le_of_ble_eq_true rfl⟩) (xm_preV hw k_P rfl _) rfl rfl hl.1 rfl (lv_room (Nat.le_of_ble_eq_true rfl)) d_Qd_sizeOfAll_18 ⟨Nat.le_of_ble_eq_true rfl, Nat.le_of_ble_eq_true rfl⟩) hw (fun r_3 _ H locs h hw => ?_)
    refine lv_iadd hx hb d_Qd_sizeOfAll_21 ?_
    refine lv_topi (fun x_5 ex_5 => ?_)
    have h := h x_5 ex_5
    refine lv_istore_n (lv' := [(2, .int x_5), (3, .int v_1.1), (0, .ref (ad iQ)), (1, .int kd)]) hx hb d_Qd_sizeOfAll_22 rfl hl (by decide) rfl (fun ls hl => ?_)
    obtain ⟨x_6, ex_6⟩ : ∃ y : Int32, y = v_1.1 + 1 := ⟨_, rfl⟩
    have h := h x_6 ex_6
    refine lv_iinc (v := x_6) (lv' := [(3, .int x_6), (2, .int x_5), (0, .ref (ad iQ)), (1, .int kd)]) hx hb d_Qd_sizeOfAll_23 hl (k := 1) rfl (by rw [ex_6]; rfl) (by decide) rfl (fun ls hl => ?_)
    refine lv_goto (tgt := 4) hx hb d_Qd_sizeOfAll_26 (by decide) ?_
    exact hK_2 (x_6, x_5) h _ _ _ hw (lv_sub hl [0, 1, 2, 3] rfl)
theorem xw_224 : (Jvm.Cond.code ({ cls := "QuestionDesk", name := "patternsOfAll", desc := "()I" } : Jvm.MethodName) prog_1_method_32_code (3 : Nat) (Option.some Jvm.ClassFile.FieldType.int)) ∈ xg := xg_t (i := 224) (by decide +kernel) (by decide +kernel)
theorem xw_221 : (Jvm.Cond.methodLink "QuestionDesk" (165 : Nat) ({ cls := "QuestionDesk", name := "patternsOfAll", desc := "()I" } : Jvm.MethodName)) ∈ xg := xg_t (i := 221) (by decide +kernel) (by decide +kernel)
theorem xw_223 : (Jvm.Cond.instanceMethod ({ cls := "QuestionDesk", name := "patternsOfAll", desc := "()I" } : Jvm.MethodName)) ∈ xg := xg_t (i := 223) (by decide +kernel) (by decide +kernel)
theorem xw_p5 : Cond.selects "QuestionDesk" ⟨"QuestionDesk", "patternsOfAll", "()I"⟩ ⟨"QuestionDesk", "patternsOfAll", "()I"⟩ ∈ xg := xg_p (q := (⟨"QuestionDesk", "patternsOfAll", "()I"⟩, 12)) (i := 5) (by decide +kernel) (by decide +kernel)
theorem xw_116 : (Jvm.Cond.fieldLink "QuestionDesk" (57 : Nat) "QuestionDesk" "rewrittenRules" "I") ∈ xg := xg_t (i := 116) (by decide +kernel) (by decide +kernel)
theorem xw_216 : (Jvm.Cond.code ({ cls := "QuestionDesk", name := "sizeOfAll", desc := "(I)I" } : Jvm.MethodName) prog_1_method_33_code (4 : Nat) (Option.some Jvm.ClassFile.FieldType.int)) ∈ xg := xg_t (i := 216) (by decide +kernel) (by decide +kernel)
theorem xw_213 : (Jvm.Cond.methodLink "QuestionDesk" (159 : Nat) ({ cls := "QuestionDesk", name := "sizeOfAll", desc := "(I)I" } : Jvm.MethodName)) ∈ xg := xg_t (i := 213) (by decide +kernel) (by decide +kernel)
theorem xw_215 : (Jvm.Cond.instanceMethod ({ cls := "QuestionDesk", name := "sizeOfAll", desc := "(I)I" } : Jvm.MethodName)) ∈ xg := xg_t (i := 215) (by decide +kernel) (by decide +kernel)
theorem xw_p3 : Cond.selects "QuestionDesk" ⟨"QuestionDesk", "sizeOfAll", "(I)I"⟩ ⟨"QuestionDesk", "sizeOfAll", "(I)I"⟩ ∈ xg := xg_p (q := (⟨"QuestionDesk", "sizeOfAll", "(I)I"⟩, 12)) (i := 3) (by decide +kernel) (by decide +kernel)
theorem xw_228 : (Jvm.Cond.code ({ cls := "QuestionDesk", name := "calledForOfAll", desc := "()I" } : Jvm.MethodName) prog_1_method_31_code (3 : Nat) (Option.some Jvm.ClassFile.FieldType.int)) ∈ xg := xg_t (i := 228) (by decide +kernel) (by decide +kernel)
theorem xw_225 : (Jvm.Cond.methodLink "QuestionDesk" (168 : Nat) ({ cls := "QuestionDesk", name := "calledForOfAll", desc := "()I" } : Jvm.MethodName)) ∈ xg := xg_t (i := 225) (by decide +kernel) (by decide +kernel)
theorem xw_227 : (Jvm.Cond.instanceMethod ({ cls := "QuestionDesk", name := "calledForOfAll", desc := "()I" } : Jvm.MethodName)) ∈ xg := xg_t (i := 227) (by decide +kernel) (by decide +kernel)
theorem xw_p6 : Cond.selects "QuestionDesk" ⟨"QuestionDesk", "calledForOfAll", "()I"⟩ ⟨"QuestionDesk", "calledForOfAll", "()I"⟩ ∈ xg := xg_p (q := (⟨"QuestionDesk", "calledForOfAll", "()I"⟩, 12)) (i := 6) (by decide +kernel) (by decide +kernel)
def wp_Qd_countOfQuestion (post : Int32 → Prop)  (f : Nat → Int32) (qpt : Nat → Int32) (rw : Int32) (wh : Int32) : Prop :=
((wh = 3 →
wp_Qd_patternsOfAll (fun r_1 =>
post r_1) qpt) ∧ (wh = 4 →
post rw) ∧ (wh = 5 →
wp_Qd_sizeOfAll (fun r_3 =>
post r_3) f 10) ∧ (wh = 6 →
wp_Qd_calledForOfAll (fun r_5 =>
post r_5) f) ∧ (wh.toInt < 3 ∨ 6 < wh.toInt →
post (-1)))
abbrev rm_Qd_countOfQuestion : Room := { frames := 4, cells := 0, slots := 0, locals := 91 }
set_option maxHeartbeats 4000000 in
set_option maxRecDepth 100000 in
theorem c_Qd_countOfQuestion {l : Launch} {D : va_G} {ad : Nat → Nat} (CE : Nat → Option va_E) {cI cZ cJ cO : ClassId} {iQ : Nat} {ipl : Nat} {ibr : Nat} {iL : Nat} {iP : Nat} {iM : Nat} {iU : Nat} {ipt : Nat} {iR : Nat} {f : Nat → Int32} {qpt : Nat → Int32} {rw : Int32} {np : Int32} {bg : Value} {aq : Int32} {pn : Int32} (k_Q : CE iQ = some (.inr (0, [.ref (ad ipl), .ref (ad ibr), .int np, .ref (ad iL), bg, .ref (ad iP), .ref (ad iM), .ref (ad iU), .ref (ad ipt), .int rw, .int aq, .int pn]))) (k_pt : CE ipt = some (.inl (cI, 10, .inl qpt))) (k_P : CE iP = some (.inr (1, [.ref (ad iR)]))) (k_R : CE iR = some (.inl (cI, 341, .inl f))) {post : Int32 → Prop} {wh : Int32} (h : wp_Qd_countOfQuestion post f qpt rw wh) : ∀ sz, Met l y_Qd_countOfQuestion (Cond.code y_Qd_countOfQuestion b_Qd_countOfQuestion 2 (some .int) :: xg) rm_Qd_countOfQuestion (xm_Pc D xcl (xT cI cZ cJ cO) ad CE sz [.ref (ad iQ), .int wh]) (va_Qi (fun (r : Int32) (_ : Unit) => post r) (xm_B D xcl (xT cI cZ cJ cO) (xm_A ad CE sz) (fun _ => ad) (fun _ : Unit => CE)) (xm_A ad CE sz)) 0 0 (xm_A ad CE sz) := by
  refine xm_ofW (cc := b_Qd_countOfQuestion) (maxL := 2) (ret := (some .int)) (by decide) rfl (Nat.le_of_ble_eq_true rfl) ?_
  intro p e s m args below meth c ls QQ hQQ hx hb hml hr hown hlk hnm hts hl hw
  have hl : lv_has ls 2 [(0, .ref (ad iQ)), (1, .int wh)] := hl
  unfold wp_Qd_countOfQuestion at h
  refine lv_iload_n hx hb d_Qd_countOfQuestion_0 rfl (lv_at hl 1 rfl) ?_
  by_cases hc3 : wh = 3
  · have h := h.1 hc3
    refine lv_tableIn (tgt := 32) hx hb d_Qd_countOfQuestion_1 (by rw [hc3]; decide) (by rw [hc3]; decide) (by rw [hc3]; rfl) (by decide) ?_
    refine lv_aload_n hx hb d_Qd_countOfQuestion_32 rfl (lv_at hl 0 rfl) ?_
    refine xm_calli (ua := fun _ => ad) (va_runV (As := []) (rest := []) ⟨hx, hb, hml, hown, hts⟩ (c_Qd_patternsOfAll (D := D) (ad := ad) (CE := (CE))  k_Q k_pt h _) (xg_cwV 0 hts xw_224 xw_221 xw_223 xw_p5 xw_1 rfl rfl (by decide +kernel) ⟨Nat.le_of_ble_eq_true rfl, Nat.le_of_ble_eq_true rfl⟩) (xm_preV hw k_Q rfl _) rfl rfl hl.1 rfl (lv_room (Nat.le_of_ble_eq_true rfl)) d_Qd_countOfQuestion_33 ⟨Nat.le_of_ble_eq_true rfl, Nat.le_of_ble_eq_true rfl⟩) hw (fun r_1 _ H locs h hw => ?_)
    subst hQQ
    exact xm_iret hx hb hr hlk hw () rfl rfl h d_Qd_countOfQuestion_36
  by_cases hc4 : wh = 4
  · have h := h.2.1 hc4
    refine lv_tableIn (tgt := 37) hx hb d_Qd_countOfQuestion_1 (by rw [hc4]; decide) (by rw [hc4]; decide) (by rw [hc4]; rfl) (by decide) ?_
    refine lv_aload_n hx hb d_Qd_countOfQuestion_37 rfl (lv_at hl 0 rfl) ?_
    refine xm_get (D := D) (v := .int rw) (C := R_Qd) (T := F_Qd) (N := 12) hx hb hts (fun w h => List.mem_cons_of_mem _ (i_Qd w h)) hown hw k_Q rfl 9 (by decide) (hts _ (List.mem_cons_of_mem _ xw_116)) (fun _ h9 => h9) rfl d_Qd_countOfQuestion_38 ?_
    subst hQQ
    exact xm_iret hx hb hr hlk hw () rfl rfl h d_Qd_countOfQuestion_41
  by_cases hc5 : wh = 5
  · have h := h.2.2.1 hc5
    refine lv_tableIn (tgt := 42) hx hb d_Qd_countOfQuestion_1 (by rw [hc5]; decide) (by rw [hc5]; decide) (by rw [hc5]; rfl) (by decide) ?_
    refine lv_aload_n hx hb d_Qd_countOfQuestion_42 rfl (lv_at hl 0 rfl) ?_
    refine lv_bipush (v := 10) hx hb d_Qd_countOfQuestion_43 (by decide) ?_
    refine xm_calli (ua := fun _ => ad) (va_runV (As := [.int 10]) (rest := []) ⟨hx, hb, hml, hown, hts⟩ (c_Qd_sizeOfAll (D := D) (ad := ad) (CE := (CE))  k_Q k_P k_R h _) (xg_cwV 1 hts xw_216 xw_213 xw_215 xw_p3 xw_1 rfl rfl (by decide +kernel) ⟨Nat.le_of_ble_eq_true rfl, Nat.le_of_ble_eq_true rfl⟩) (xm_preV hw k_Q rfl _) rfl rfl hl.1 rfl (lv_room (Nat.le_of_ble_eq_true rfl)) d_Qd_countOfQuestion_45 ⟨Nat.le_of_ble_eq_true rfl, Nat.le_of_ble_eq_true rfl⟩) hw (fun r_3 _ H locs h hw => ?_)
    subst hQQ
    exact xm_iret hx hb hr hlk hw () rfl rfl h d_Qd_countOfQuestion_48
  by_cases hc6 : wh = 6
  · have h := h.2.2.2.1 hc6
    refine lv_tableIn (tgt := 49) hx hb d_Qd_countOfQuestion_1 (by rw [hc6]; decide) (by rw [hc6]; decide) (by rw [hc6]; rfl) (by decide) ?_
    refine lv_aload_n hx hb d_Qd_countOfQuestion_49 rfl (lv_at hl 0 rfl) ?_
    refine xm_calli (ua := fun _ => ad) (va_runV (As := []) (rest := []) ⟨hx, hb, hml, hown, hts⟩ (c_Qd_calledForOfAll (D := D) (ad := ad) (CE := (CE))  k_Q k_P k_R h _) (xg_cwV 0 hts xw_228 xw_225 xw_227 xw_p6 xw_1 rfl rfl (by decide +kernel) ⟨Nat.le_of_ble_eq_true rfl, Nat.le_of_ble_eq_true rfl⟩) (xm_preV hw k_Q rfl _) rfl rfl hl.1 rfl (lv_room (Nat.le_of_ble_eq_true rfl)) d_Qd_countOfQuestion_50 ⟨Nat.le_of_ble_eq_true rfl, Nat.le_of_ble_eq_true rfl⟩) hw (fun r_5 _ H locs h hw => ?_)
    subst hQQ
    exact xm_iret hx hb hr hlk hw () rfl rfl h d_Qd_countOfQuestion_53
  have hdf : wh.toInt < 3 ∨ 6 < wh.toInt := by
    have q3 := xs_ne hc3 (show (3 : Int32).toInt = 3 by decide)
    have q4 := xs_ne hc4 (show (4 : Int32).toInt = 4 by decide)
    have q5 := xs_ne hc5 (show (5 : Int32).toInt = 5 by decide)
    have q6 := xs_ne hc6 (show (6 : Int32).toInt = 6 by decide)
    omega
  have h := h.2.2.2.2 hdf
  refine lv_tableOut (tgt := 54) hx hb d_Qd_countOfQuestion_1 hdf (by decide) ?_
  refine lv_iconst (v := (-1)) hx hb d_Qd_countOfQuestion_54 (by decide) ?_
  subst hQQ
  exact xm_iret hx hb hr hlk hw () rfl rfl h d_Qd_countOfQuestion_55
theorem xw_173 : (Jvm.Cond.methodLink "QuestionDesk" (140 : Nat) ({ cls := "QuestionDesk$Pairs", name := "has", desc := "(III)Z" } : Jvm.MethodName)) ∈ xg := xg_t (i := 173) (by decide +kernel) (by decide +kernel)
def wp_Qd_answer (post : Int32 → Prop)  (f : Nat → Int32) (ai : Int32) : Prop :=
xL (fun (K_2 : Int32 × Int32 → Prop) (v_1 : Int32 × Int32) =>
((10 ≤ v_1.1 →
post (-1)) ∧ (¬ 10 ≤ v_1.1 →
xL (fun (K_4 : Int32 × Int32 → Prop) (v_3 : Int32 × Int32) =>
((10 ≤ v_3.1 →
∀ x_5 : Int32, x_5 = v_1.1 + 1 →
K_2 (x_5, v_3.2)) ∧ (¬ 10 ≤ v_3.1 →
wp_Pr_has (fun r_6 =>
xj (fun (v_8 : Int32) =>
∀ x_10 : Int32, x_10 = v_3.1 + 1 →
K_4 (x_10, v_8)) (fun (J_9 : Int32 → Prop) =>
((r_6 = 0 →
J_9 v_3.2) ∧ (¬ r_6 = 0 →
((¬ v_3.2 = ai →
∀ x_11 : Int32, x_11 = v_3.2 + 1 →
J_9 x_11) ∧ (v_3.2 = ai →
xj (fun (v_12 : Int32) =>
post v_12) (fun (J_13 : Int32 → Prop) =>
((¬ v_3.1 = (-1) →
J_13 ((10 * v_1.1) + v_3.1)) ∧ (v_3.1 = (-1) →
J_13 v_1.1))))))))) f 30 v_1.1 v_3.1))) ((-1), v_1.2)))) (0, 0)
abbrev rm_Qd_answer : Room := { frames := 2, cells := 0, slots := 0, locals := 45 }
set_option maxHeartbeats 4000000 in
set_option maxRecDepth 100000 in
theorem c_Qd_answer {l : Launch} {D : va_G} {ad : Nat → Nat} (CE : Nat → Option va_E) {cI cZ cJ cO : ClassId} {iQ : Nat} {ipl : Nat} {ibr : Nat} {iL : Nat} {iP : Nat} {iM : Nat} {iU : Nat} {ipt : Nat} {iR : Nat} {f : Nat → Int32} {np : Int32} {bg : Value} {rw : Int32} {aq : Int32} {pn : Int32} (k_Q : CE iQ = some (.inr (0, [.ref (ad ipl), .ref (ad ibr), .int np, .ref (ad iL), bg, .ref (ad iP), .ref (ad iM), .ref (ad iU), .ref (ad ipt), .int rw, .int aq, .int pn]))) (k_P : CE iP = some (.inr (1, [.ref (ad iR)]))) (k_R : CE iR = some (.inl (cI, 341, .inl f))) {post : Int32 → Prop} {ai : Int32} (h : wp_Qd_answer post f ai) : ∀ sz, Met l y_Qd_answer (Cond.code y_Qd_answer b_Qd_answer 5 (some .int) :: xg) rm_Qd_answer (xm_Pc D xcl (xT cI cZ cJ cO) ad CE sz [.ref (ad iQ), .int ai]) (va_Qi (fun (r : Int32) (_ : Unit) => post r) (xm_B D xcl (xT cI cZ cJ cO) (xm_A ad CE sz) (fun _ => ad) (fun _ : Unit => CE)) (xm_A ad CE sz)) 0 0 (xm_A ad CE sz) := by
  refine xm_ofW (cc := b_Qd_answer) (maxL := 5) (ret := (some .int)) (by decide) rfl (Nat.le_of_ble_eq_true rfl) ?_
  intro p e s m args below meth c ls QQ hQQ hx hb hml hr hown hlk hnm hts hl hw
  have hl : lv_has ls 5 [(0, .ref (ad iQ)), (1, .int ai)] := hl
  unfold wp_Qd_answer at h
  refine lv_iconst (v := 0) hx hb d_Qd_answer_0 (by decide) ?_
  refine lv_istore_n (lv' := [(2, .int 0), (0, .ref (ad iQ)), (1, .int ai)]) hx hb d_Qd_answer_1 rfl hl (by decide) rfl (fun ls hl => ?_)
  refine lv_iconst (v := 0) hx hb d_Qd_answer_2 (by decide) ?_
  refine lv_istore_n (lv' := [(3, .int 0), (2, .int 0), (0, .ref (ad iQ)), (1, .int ai)]) hx hb d_Qd_answer_3 rfl hl (by decide) rfl (fun ls hl => ?_)
  refine xL_use h (fun (v_1 : Int32 × Int32) => ∀ (H : Heap) (locs : List Loc) (ls : Array Slot), xm_W D xcl (xT cI cZ cJ cO) (xm_A ad CE s.heap.size) ad CE s s.heap H locs → lv_has ls 5 [(3, .int v_1.1), (2, .int v_1.2), (0, .ref (ad iQ)), (1, .int ai)] → W p l e rm_Qd_answer s m args below meth c H locs 0 0 QQ (F0 m 4 ls [])) (fun K_2 hK_2 v_1 h H locs ls hw hl => ?_) _ _ _ hw (lv_sub hl [0, 1, 2, 3] rfl)
  refine lv_iload_n hx hb d_Qd_answer_4 rfl (lv_at hl 0 rfl) ?_
  refine lv_bipush (v := 10) hx hb d_Qd_answer_5 (by decide) ?_
  refine lv_icmp_ge (tgt := 73) hx hb d_Qd_answer_7 (by decide) (fun hc => ?_) (fun hc => ?_)
  · have h := h.1 hc
    refine lv_iconst (v := (-1)) hx hb d_Qd_answer_73 (by decide) ?_
    subst hQQ
    exact xm_iret hx hb hr hlk hw () rfl rfl h d_Qd_answer_74
  · have h := h.2 hc
    refine lv_iconst (v := (-1)) hx hb d_Qd_answer_10 (by decide) ?_
    refine lv_istore (lv' := [(4, .int (-1)), (3, .int v_1.1), (2, .int v_1.2), (0, .ref (ad iQ)), (1, .int ai)]) hx hb d_Qd_answer_11 hl (by decide) rfl (fun ls hl => ?_)
    refine xL_use h (fun (v_3 : Int32 × Int32) => ∀ (H : Heap) (locs : List Loc) (ls : Array Slot), xm_W D xcl (xT cI cZ cJ cO) (xm_A ad CE s.heap.size) ad CE s s.heap H locs → lv_has ls 5 [(4, .int v_3.1), (3, .int v_1.1), (2, .int v_3.2), (0, .ref (ad iQ)), (1, .int ai)] → W p l e rm_Qd_answer s m args below meth c H locs 0 0 QQ (F0 m 13 ls [])) (fun K_4 hK_4 v_3 h H locs ls hw hl => ?_) _ _ _ hw (lv_sub hl [0, 1, 2, 3, 4] rfl)
    refine lv_iload hx hb d_Qd_answer_13 (lv_at hl 0 rfl) ?_
    refine lv_bipush (v := 10) hx hb d_Qd_answer_15 (by decide) ?_
    refine lv_icmp_ge (tgt := 67) hx hb d_Qd_answer_17 (by decide) (fun hc => ?_) (fun hc => ?_)
    · have h := h.1 hc
      obtain ⟨x_5, ex_5⟩ : ∃ y : Int32, y = v_1.1 + 1 := ⟨_, rfl⟩
      have h := h x_5 ex_5
      refine lv_iinc (v := x_5) (lv' := [(3, .int x_5), (4, .int v_3.1), (2, .int v_3.2), (0, .ref (ad iQ)), (1, .int ai)]) hx hb d_Qd_answer_67 hl (k := 1) rfl (by rw [ex_5]; rfl) (by decide) rfl (fun ls hl => ?_)
      refine lv_goto (tgt := 4) hx hb d_Qd_answer_70 (by decide) ?_
      exact hK_2 (x_5, v_3.2) h _ _ _ hw (lv_sub hl [0, 2, 3, 4] rfl)
    · have h := h.2 hc
      refine lv_aload_n hx hb d_Qd_answer_20 rfl (lv_at hl 3 rfl) ?_
      refine xm_get (D := D) (v := .ref (ad iP)) (C := R_Qd) (T := F_Qd) (N := 12) hx hb hts (fun w h => List.mem_cons_of_mem _ (i_Qd w h)) hown hw k_Q rfl 5 (by decide) (hts _ (List.mem_cons_of_mem _ xw_112)) (fun _ h9 => h9) rfl d_Qd_answer_21 ?_
      refine lv_bipush (v := 30) hx hb d_Qd_answer_24 (by decide) ?_
      refine lv_iload_n hx hb d_Qd_answer_26 rfl (lv_at hl 1 rfl) ?_
      refine lv_iload hx hb d_Qd_answer_27 (lv_at hl 0 rfl) ?_
      refine xm_calli (ua := fun _ => ad) (va_runV (As := [.int 30, .int v_1.1, .int v_3.1]) (rest := []) ⟨hx, hb, hml, hown, hts⟩ (c_Pr_has (D := D) (ad := ad) (CE := (CE))  k_P k_R h _) (xg_cwV 3 hts xw_176 xw_173 xw_174 xw_175 xw_5 rfl rfl (by decide +kernel) ⟨Nat.le_of_ble_eq_true rfl, Nat.le_of_ble_eq_true rfl⟩) (xm_preV hw k_P rfl _) rfl rfl hl.1 rfl (lv_room (Nat.le_of_ble_eq_true rfl)) d_Qd_answer_29 ⟨Nat.le_of_ble_eq_true rfl, Nat.le_of_ble_eq_true rfl⟩) hw (fun r_6 _ H locs h hw => ?_)
      refine xj_use h (fun (v_8 : Int32) => ∀ (H : Heap) (locs : List Loc) (ls : Array Slot), xm_W D xcl (xT cI cZ cJ cO) (xm_A ad CE s.heap.size) ad CE s s.heap H locs → lv_has ls 5 [(0, .ref (ad iQ)), (1, .int ai), (2, .int v_8), (3, .int v_1.1), (4, .int v_3.1)] → W p l e rm_Qd_answer s m args below meth c H locs 0 0 QQ (F0 m 61 ls [])) (fun v_8 h H locs ls hw hl => ?_) (fun J_9 hJ_9 h => ?_)
      · obtain ⟨x_10, ex_10⟩ : ∃ y : Int32, y = v_3.1 + 1 := ⟨_, rfl⟩
        have h := h x_10 ex_10
        refine lv_iinc (v := x_10) (lv' := [(4, .int x_10), (0, .ref (ad iQ)), (1, .int ai), (2, .int v_8), (3, .int v_1.1)]) hx hb d_Qd_answer_61 hl (k := 4) rfl (by rw [ex_10]; rfl) (by decide) rfl (fun ls hl => ?_)
        refine lv_goto (tgt := 13) hx hb d_Qd_answer_64 (by decide) ?_
        exact hK_4 (x_10, v_8) h _ _ _ hw (lv_sub hl [0, 4, 3, 1, 2] rfl)
      · refine lv_if_eq (tgt := 61) hx hb d_Qd_answer_32 (by decide) (fun hc => ?_) (fun hc => ?_)
        · have h := h.1 hc
          exact hJ_9 v_3.2 h _ _ _ hw (lv_sub hl [3, 4, 2, 1, 0] rfl)
        · have h := h.2 hc
          refine lv_iload_n hx hb d_Qd_answer_35 rfl (lv_at hl 2 rfl) ?_
          refine lv_iload_n hx hb d_Qd_answer_36 rfl (lv_at hl 4 rfl) ?_
          refine lv_icmp_ne (tgt := 58) hx hb d_Qd_answer_37 (by decide) (fun hc => ?_) (fun hc => ?_)
          · have h := h.1 hc
            obtain ⟨x_11, ex_11⟩ : ∃ y : Int32, y = v_3.2 + 1 := ⟨_, rfl⟩
            have h := h x_11 ex_11
            refine lv_iinc (v := x_11) (lv' := [(2, .int x_11), (4, .int v_3.1), (3, .int v_1.1), (0, .ref (ad iQ)), (1, .int ai)]) hx hb d_Qd_answer_58 hl (k := 2) rfl (by rw [ex_11]; rfl) (by decide) rfl (fun ls hl => ?_)
            exact hJ_9 x_11 h _ _ _ hw (lv_sub hl [3, 4, 0, 2, 1] rfl)
          · have h := h.2 hc
            refine lv_iload hx hb d_Qd_answer_40 (lv_at hl 0 rfl) ?_
            refine lv_iconst (v := (-1)) hx hb d_Qd_answer_42 (by decide) ?_
            refine xj_use h (fun (v_12 : Int32) => ∀ (H : Heap) (locs : List Loc) (ls : Array Slot), xm_W D xcl (xT cI cZ cJ cO) (xm_A ad CE s.heap.size) ad CE s s.heap H locs → lv_has ls 5 [] → W p l e rm_Qd_answer s m args below meth c H locs 0 0 QQ (F0 m 57 ls [.int v_12])) (fun v_12 h H locs ls hw hl => ?_) (fun J_13 hJ_13 h => ?_)
            · subst hQQ
              exact xm_iret hx hb hr hlk hw () rfl rfl h d_Qd_answer_57
            · refine lv_icmp_ne (tgt := 50) hx hb d_Qd_answer_43 (by decide) (fun hc => ?_) (fun hc => ?_)
              · have h := h.1 hc
                refine lv_bipush (v := 10) hx hb d_Qd_answer_50 (by decide) ?_
                refine lv_iload_n hx hb d_Qd_answer_52 rfl (lv_at hl 1 rfl) ?_
                refine lv_imul hx hb d_Qd_answer_53 ?_
                refine lv_iload hx hb d_Qd_answer_54 (lv_at hl 0 rfl) ?_
                refine lv_iadd hx hb d_Qd_answer_56 ?_
                exact hJ_13 ((10 * v_1.1) + v_3.1) h _ _ _ hw (lv_sub hl [] rfl)
              · have h := h.2 hc
                refine lv_iload_n hx hb d_Qd_answer_46 rfl (lv_at hl 1 rfl) ?_
                refine lv_goto (tgt := 57) hx hb d_Qd_answer_47 (by decide) ?_
                exact hJ_13 v_1.1 h _ _ _ hw (lv_sub hl [] rfl)
theorem xw_117 : (Jvm.Cond.fieldLink "QuestionDesk" (60 : Nat) "QuestionDesk" "asked" "Z") ∈ xg := xg_t (i := 117) (by decide +kernel) (by decide +kernel)
theorem xw_118 : (Jvm.Cond.fieldLink "QuestionDesk" (64 : Nat) "QuestionDesk" "predicatesThen" "I") ∈ xg := xg_t (i := 118) (by decide +kernel) (by decide +kernel)
def wp_Qd_of (post : Int32 → Prop)  (f : Nat → Int32) (qpt : Nat → Int32) (aq : Int32) (pn : Int32) (p0 : Int32) (wh : Int32) : Prop :=
xj (fun (v_1 : Unit) =>
post (-1)) (fun (J_2 : Unit → Prop) =>
((aq = 0 →
J_2 ()) ∧ (¬ aq = 0 →
((p0 < 0 →
J_2 ()) ∧ (¬ p0 < 0 →
((p0 < pn →
((wh = 0 →
wp_Pr_size (fun r_3 =>
post r_3) f (0 + p0)) ∧ (wh = 1 →
wp_Qd_calledForSize (fun r_5 =>
post r_5) f p0) ∧ (wh = 2 →
wp_Pr_size (fun r_7 =>
post r_7) f (10 + p0)) ∧ (wh = 3 →
vp_in p0 10 ∧
wp_In_bitCount (fun r_9 =>
post r_9) (qpt (Int32.toNatClampNeg p0))) ∧ (wh.toInt < 0 ∨ 3 < wh.toInt →
post (-1)))) ∧ (¬ p0 < pn →
J_2 ())))))))
abbrev rm_Qd_of : Room := { frames := 3, cells := 0, slots := 0, locals := 69 }
set_option maxHeartbeats 4000000 in
set_option maxRecDepth 100000 in
theorem c_Qd_of {l : Launch} {D : va_G} {ad : Nat → Nat} (CE : Nat → Option va_E) {cI cZ cJ cO : ClassId} {iQ : Nat} {ipl : Nat} {ibr : Nat} {iL : Nat} {iP : Nat} {iM : Nat} {iU : Nat} {ipt : Nat} {iR : Nat} {f : Nat → Int32} {qpt : Nat → Int32} {aq : Int32} {pn : Int32} {np : Int32} {bg : Value} {rw : Int32} (k_Q : CE iQ = some (.inr (0, [.ref (ad ipl), .ref (ad ibr), .int np, .ref (ad iL), bg, .ref (ad iP), .ref (ad iM), .ref (ad iU), .ref (ad ipt), .int rw, .int aq, .int pn]))) (k_pt : CE ipt = some (.inl (cI, 10, .inl qpt))) (k_P : CE iP = some (.inr (1, [.ref (ad iR)]))) (k_R : CE iR = some (.inl (cI, 341, .inl f))) {post : Int32 → Prop} {p0 : Int32} {wh : Int32} (h : wp_Qd_of post f qpt aq pn p0 wh) : ∀ sz, Met l y_Qd_of (Cond.code y_Qd_of b_Qd_of 3 (some .int) :: xg) rm_Qd_of (xm_Pc D xcl (xT cI cZ cJ cO) ad CE sz [.ref (ad iQ), .int p0, .int wh]) (va_Qi (fun (r : Int32) (_ : Unit) => post r) (xm_B D xcl (xT cI cZ cJ cO) (xm_A ad CE sz) (fun _ => ad) (fun _ : Unit => CE)) (xm_A ad CE sz)) 0 0 (xm_A ad CE sz) := by
  refine xm_ofW (cc := b_Qd_of) (maxL := 3) (ret := (some .int)) (by decide) rfl (Nat.le_of_ble_eq_true rfl) ?_
  intro p e s m args below meth c ls QQ hQQ hx hb hml hr hown hlk hnm hts hl hw
  have hl : lv_has ls 3 [(0, .ref (ad iQ)), (1, .int p0), (2, .int wh)] := hl
  unfold wp_Qd_of at h
  refine lv_aload_n hx hb d_Qd_of_0 rfl (lv_at hl 0 rfl) ?_
  refine xm_get (D := D) (v := .int aq) (C := R_Qd) (T := F_Qd) (N := 12) hx hb hts (fun w h => List.mem_cons_of_mem _ (i_Qd w h)) hown hw k_Q rfl 10 (by decide) (hts _ (List.mem_cons_of_mem _ xw_117)) (fun _ h9 => h9) rfl d_Qd_of_1 ?_
  refine xj_use h (fun (v_1 : Unit) => ∀ (H : Heap) (locs : List Loc) (ls : Array Slot), xm_W D xcl (xT cI cZ cJ cO) (xm_A ad CE s.heap.size) ad CE s s.heap H locs → lv_has ls 3 [] → W p l e rm_Qd_of s m args below meth c H locs 0 0 QQ (F0 m 19 ls [])) (fun v_1 h H locs ls hw hl => ?_) (fun J_2 hJ_2 h => ?_)
  · refine lv_iconst (v := (-1)) hx hb d_Qd_of_19 (by decide) ?_
    subst hQQ
    exact xm_iret hx hb hr hlk hw () rfl rfl h d_Qd_of_20
  · refine lv_if_eq (tgt := 19) hx hb d_Qd_of_4 (by decide) (fun hc => ?_) (fun hc => ?_)
    · have h := h.1 hc
      exact hJ_2 () h _ _ _ hw (lv_sub hl [] rfl)
    · have h := h.2 hc
      refine lv_iload_n hx hb d_Qd_of_7 rfl (lv_at hl 1 rfl) ?_
      refine lv_if_lt (tgt := 19) hx hb d_Qd_of_8 (by decide) (fun hc => ?_) (fun hc => ?_)
      · have h := h.1 hc
        exact hJ_2 () h _ _ _ hw (lv_sub hl [] rfl)
      · have h := h.2 hc
        refine lv_iload_n hx hb d_Qd_of_11 rfl (lv_at hl 1 rfl) ?_
        refine lv_aload_n hx hb d_Qd_of_12 rfl (lv_at hl 0 rfl) ?_
        refine xm_get (D := D) (v := .int pn) (C := R_Qd) (T := F_Qd) (N := 12) hx hb hts (fun w h => List.mem_cons_of_mem _ (i_Qd w h)) hown hw k_Q rfl 11 (by decide) (hts _ (List.mem_cons_of_mem _ xw_118)) (fun _ h9 => h9) rfl d_Qd_of_13 ?_
        refine lv_icmp_lt (tgt := 21) hx hb d_Qd_of_16 (by decide) (fun hc => ?_) (fun hc => ?_)
        · have h := h.1 hc
          refine lv_iload_n hx hb d_Qd_of_21 rfl (lv_at hl 2 rfl) ?_
          by_cases hc0 : wh = 0
          · have h := h.1 hc0
            refine lv_tableIn (tgt := 52) hx hb d_Qd_of_22 (by rw [hc0]; decide) (by rw [hc0]; decide) (by rw [hc0]; rfl) (by decide) ?_
            refine lv_aload_n hx hb d_Qd_of_52 rfl (lv_at hl 0 rfl) ?_
            refine xm_get (D := D) (v := .ref (ad iP)) (C := R_Qd) (T := F_Qd) (N := 12) hx hb hts (fun w h => List.mem_cons_of_mem _ (i_Qd w h)) hown hw k_Q rfl 5 (by decide) (hts _ (List.mem_cons_of_mem _ xw_112)) (fun _ h9 => h9) rfl d_Qd_of_53 ?_
            refine lv_iconst (v := 0) hx hb d_Qd_of_56 (by decide) ?_
            refine lv_iload_n hx hb d_Qd_of_57 rfl (lv_at hl 1 rfl) ?_
            refine lv_iadd hx hb d_Qd_of_58 ?_
            refine xm_calli (ua := fun _ => ad) (va_runV (As := [.int (0 + p0)]) (rest := []) ⟨hx, hb, hml, hown, hts⟩ (c_Pr_size (D := D) (ad := ad) (CE := (CE))  k_P k_R h _) (xg_cwV 1 hts xw_191 xw_188 xw_189 xw_190 xw_5 rfl rfl (by decide +kernel) ⟨Nat.le_of_ble_eq_true rfl, Nat.le_of_ble_eq_true rfl⟩) (xm_preV hw k_P rfl _) rfl rfl hl.1 rfl (lv_room (Nat.le_of_ble_eq_true rfl)) d_Qd_of_59 ⟨Nat.le_of_ble_eq_true rfl, Nat.le_of_ble_eq_true rfl⟩) hw (fun r_3 _ H locs h hw => ?_)
            subst hQQ
            exact xm_iret hx hb hr hlk hw () rfl rfl h d_Qd_of_62
          by_cases hc1 : wh = 1
          · have h := h.2.1 hc1
            refine lv_tableIn (tgt := 63) hx hb d_Qd_of_22 (by rw [hc1]; decide) (by rw [hc1]; decide) (by rw [hc1]; rfl) (by decide) ?_
            refine lv_aload_n hx hb d_Qd_of_63 rfl (lv_at hl 0 rfl) ?_
            refine lv_iload_n hx hb d_Qd_of_64 rfl (lv_at hl 1 rfl) ?_
            refine xm_calli (ua := fun _ => ad) (va_runV (As := [.int p0]) (rest := []) ⟨hx, hb, hml, hown, hts⟩ (c_Qd_calledForSize (D := D) (ad := ad) (CE := (CE))  k_Q k_P k_R h _) (xg_cwV 1 hts xw_201 xw_198 xw_200 xw_p1 xw_1 rfl rfl (by decide +kernel) ⟨Nat.le_of_ble_eq_true rfl, Nat.le_of_ble_eq_true rfl⟩) (xm_preV hw k_Q rfl _) rfl rfl hl.1 rfl (lv_room (Nat.le_of_ble_eq_true rfl)) d_Qd_of_65 ⟨Nat.le_of_ble_eq_true rfl, Nat.le_of_ble_eq_true rfl⟩) hw (fun r_5 _ H locs h hw => ?_)
            subst hQQ
            exact xm_iret hx hb hr hlk hw () rfl rfl h d_Qd_of_68
          by_cases hc2 : wh = 2
          · have h := h.2.2.1 hc2
            refine lv_tableIn (tgt := 69) hx hb d_Qd_of_22 (by rw [hc2]; decide) (by rw [hc2]; decide) (by rw [hc2]; rfl) (by decide) ?_
            refine lv_aload_n hx hb d_Qd_of_69 rfl (lv_at hl 0 rfl) ?_
            refine xm_get (D := D) (v := .ref (ad iP)) (C := R_Qd) (T := F_Qd) (N := 12) hx hb hts (fun w h => List.mem_cons_of_mem _ (i_Qd w h)) hown hw k_Q rfl 5 (by decide) (hts _ (List.mem_cons_of_mem _ xw_112)) (fun _ h9 => h9) rfl d_Qd_of_70 ?_
            refine lv_bipush (v := 10) hx hb d_Qd_of_73 (by decide) ?_
            refine lv_iload_n hx hb d_Qd_of_75 rfl (lv_at hl 1 rfl) ?_
            refine lv_iadd hx hb d_Qd_of_76 ?_
            refine xm_calli (ua := fun _ => ad) (va_runV (As := [.int (10 + p0)]) (rest := []) ⟨hx, hb, hml, hown, hts⟩ (c_Pr_size (D := D) (ad := ad) (CE := (CE))  k_P k_R h _) (xg_cwV 1 hts xw_191 xw_188 xw_189 xw_190 xw_5 rfl rfl (by decide +kernel) ⟨Nat.le_of_ble_eq_true rfl, Nat.le_of_ble_eq_true rfl⟩) (xm_preV hw k_P rfl _) rfl rfl hl.1 rfl (lv_room (Nat.le_of_ble_eq_true rfl)) d_Qd_of_77 ⟨Nat.le_of_ble_eq_true rfl, Nat.le_of_ble_eq_true rfl⟩) hw (fun r_7 _ H locs h hw => ?_)
            subst hQQ
            exact xm_iret hx hb hr hlk hw () rfl rfl h d_Qd_of_80
          by_cases hc3 : wh = 3
          · have h := h.2.2.2.1 hc3
            refine lv_tableIn (tgt := 81) hx hb d_Qd_of_22 (by rw [hc3]; decide) (by rw [hc3]; decide) (by rw [hc3]; rfl) (by decide) ?_
            refine lv_aload_n hx hb d_Qd_of_81 rfl (lv_at hl 0 rfl) ?_
            refine xm_get (D := D) (v := .ref (ad ipt)) (C := R_Qd) (T := F_Qd) (N := 12) hx hb hts (fun w h => List.mem_cons_of_mem _ (i_Qd w h)) hown hw k_Q rfl 8 (by decide) (hts _ (List.mem_cons_of_mem _ xw_115)) (fun _ h9 => h9) rfl d_Qd_of_82 ?_
            refine lv_iload_n hx hb d_Qd_of_85 rfl (lv_at hl 1 rfl) ?_
            obtain ⟨hin, h⟩ := h
            refine xm_iald hx hb hw 0 k_pt rfl hin d_Qd_of_86 ?_
            refine xm_calli (ua := fun _ => ad) (va_runS (As := [.int (qpt (Int32.toNatClampNeg p0))]) (rest := []) ⟨hx, hb, hml, hown, hts⟩ (c_In_bitCount (D := D) (ad := ad) (CE := (CE))   h _) (xg_cwS 1 hts xw_194 xw_208 xw_193 xw_20 rfl rfl (by decide +kernel) ⟨Nat.le_of_ble_eq_true rfl, Nat.le_of_ble_eq_true rfl⟩) (xm_pre hw _) rfl rfl hl.1 rfl (lv_room (Nat.le_of_ble_eq_true rfl)) d_Qd_of_87 ⟨Nat.le_of_ble_eq_true rfl, Nat.le_of_ble_eq_true rfl⟩) hw (fun r_9 _ H locs h hw => ?_)
            subst hQQ
            exact xm_iret hx hb hr hlk hw () rfl rfl h d_Qd_of_90
          have hdf : wh.toInt < 0 ∨ 3 < wh.toInt := by
            have q0 := xs_ne hc0 (show (0 : Int32).toInt = 0 by decide)
            have q1 := xs_ne hc1 (show (1 : Int32).toInt = 1 by decide)
            have q2 := xs_ne hc2 (show (2 : Int32).toInt = 2 by decide)
            have q3 := xs_ne hc3 (show (3 : Int32).toInt = 3 by decide)
            omega
          have h := h.2.2.2.2 hdf
          refine lv_tableOut (tgt := 91) hx hb d_Qd_of_22 hdf (by decide) ?_
          refine lv_iconst (v := (-1)) hx hb d_Qd_of_91 (by decide) ?_
          subst hQQ
          exact xm_iret hx hb hr hlk hw () rfl rfl h d_Qd_of_92
        · have h := h.2 hc
          exact hJ_2 () h _ _ _ hw (lv_sub hl [] rfl)
theorem xw_110 : (Jvm.Cond.fieldLink "QuestionDesk" (24 : Nat) "QuestionDesk" "rules" "Ljava/util/ArrayList;") ∈ xg := xg_t (i := 110) (by decide +kernel) (by decide +kernel)
theorem xw_151 : (Jvm.Cond.code ({ cls := "java/util/ArrayList", name := "size", desc := "()I" } : Jvm.MethodName) prog_21_method_8_code (1 : Nat) (Option.some Jvm.ClassFile.FieldType.int)) ∈ xg := xg_t (i := 151) (by decide +kernel) (by decide +kernel)
theorem xw_148 : (Jvm.Cond.methodLink "QuestionDesk" (105 : Nat) ({ cls := "java/util/ArrayList", name := "size", desc := "()I" } : Jvm.MethodName)) ∈ xg := xg_t (i := 148) (by decide +kernel) (by decide +kernel)
theorem xw_149 : (Jvm.Cond.instanceMethod ({ cls := "java/util/ArrayList", name := "size", desc := "()I" } : Jvm.MethodName)) ∈ xg := xg_t (i := 149) (by decide +kernel) (by decide +kernel)
theorem xw_150 : (Jvm.Cond.selects "java/util/ArrayList" ({ cls := "java/util/ArrayList", name := "size", desc := "()I" } : Jvm.MethodName) ({ cls := "java/util/ArrayList", name := "size", desc := "()I" } : Jvm.MethodName)) ∈ xg := xg_t (i := 150) (by decide +kernel) (by decide +kernel)
theorem xw_220 : (Jvm.Cond.code ({ cls := "QuestionDesk", name := "countOfQuestion", desc := "(I)I" } : Jvm.MethodName) prog_1_method_16_code (2 : Nat) (Option.some Jvm.ClassFile.FieldType.int)) ∈ xg := xg_t (i := 220) (by decide +kernel) (by decide +kernel)
theorem xw_217 : (Jvm.Cond.methodLink "QuestionDesk" (162 : Nat) ({ cls := "QuestionDesk", name := "countOfQuestion", desc := "(I)I" } : Jvm.MethodName)) ∈ xg := xg_t (i := 217) (by decide +kernel) (by decide +kernel)
theorem xw_219 : (Jvm.Cond.instanceMethod ({ cls := "QuestionDesk", name := "countOfQuestion", desc := "(I)I" } : Jvm.MethodName)) ∈ xg := xg_t (i := 219) (by decide +kernel) (by decide +kernel)
theorem xw_p4 : Cond.selects "QuestionDesk" ⟨"QuestionDesk", "countOfQuestion", "(I)I"⟩ ⟨"QuestionDesk", "countOfQuestion", "(I)I"⟩ ∈ xg := xg_p (q := (⟨"QuestionDesk", "countOfQuestion", "(I)I"⟩, 12)) (i := 4) (by decide +kernel) (by decide +kernel)
def wp_Qd_count (post : Int32 → Prop)  (f : Nat → Int32) (qpt : Nat → Int32) (rw : Int32) (np : Int32) (aq : Int32) (sz : Int32) (wh : Int32) : Prop :=
((wh = 0 →
post np) ∧ (wh = 1 →
wp_Al_size (fun r_1 =>
post r_1) sz) ∧ (wh = 2 →
wp_Qd_sizeOfAll (fun r_3 =>
post r_3) f 20) ∧ (wh.toInt < 0 ∨ 2 < wh.toInt →
xj (fun (v_5 : Int32) =>
post v_5) (fun (J_6 : Int32 → Prop) =>
((aq = 0 →
J_6 (-1)) ∧ (¬ aq = 0 →
wp_Qd_countOfQuestion (fun r_7 =>
J_6 r_7) f qpt rw wh)))))
abbrev rm_Qd_count : Room := { frames := 5, cells := 0, slots := 0, locals := 112 }
set_option maxHeartbeats 4000000 in
set_option maxRecDepth 100000 in
theorem c_Qd_count {l : Launch} {D : va_G} {ad : Nat → Nat} (CE : Nat → Option va_E) {cI cZ cJ cO : ClassId} {iQ : Nat} {ipl : Nat} {ibr : Nat} {iL : Nat} {iP : Nat} {iM : Nat} {iU : Nat} {ipt : Nat} {iR : Nat} {f : Nat → Int32} {qpt : Nat → Int32} {rw : Int32} {np : Int32} {aq : Int32} {sz : Int32} {bg : Value} {pn : Int32} {mo : Int32} {ev : Value} (k_Q : CE iQ = some (.inr (0, [.ref (ad ipl), .ref (ad ibr), .int np, .ref (ad iL), bg, .ref (ad iP), .ref (ad iM), .ref (ad iU), .ref (ad ipt), .int rw, .int aq, .int pn]))) (k_pt : CE ipt = some (.inl (cI, 10, .inl qpt))) (k_L : CE iL = some (.inr (5, [ev, .int sz, .int mo]))) (k_P : CE iP = some (.inr (1, [.ref (ad iR)]))) (k_R : CE iR = some (.inl (cI, 341, .inl f))) {post : Int32 → Prop} {wh : Int32} (h : wp_Qd_count post f qpt rw np aq sz wh) : ∀ sz, Met l y_Qd_count (Cond.code y_Qd_count b_Qd_count 2 (some .int) :: xg) rm_Qd_count (xm_Pc D xcl (xT cI cZ cJ cO) ad CE sz [.ref (ad iQ), .int wh]) (va_Qi (fun (r : Int32) (_ : Unit) => post r) (xm_B D xcl (xT cI cZ cJ cO) (xm_A ad CE sz) (fun _ => ad) (fun _ : Unit => CE)) (xm_A ad CE sz)) 0 0 (xm_A ad CE sz) := by
  refine xm_ofW (cc := b_Qd_count) (maxL := 2) (ret := (some .int)) (by decide) rfl (Nat.le_of_ble_eq_true rfl) ?_
  intro p e s m args below meth c ls QQ hQQ hx hb hml hr hown hlk hnm hts hl hw
  have hl : lv_has ls 2 [(0, .ref (ad iQ)), (1, .int wh)] := hl
  unfold wp_Qd_count at h
  refine lv_iload_n hx hb d_Qd_count_0 rfl (lv_at hl 1 rfl) ?_
  by_cases hc0 : wh = 0
  · have h := h.1 hc0
    refine lv_tableIn (tgt := 28) hx hb d_Qd_count_1 (by rw [hc0]; decide) (by rw [hc0]; decide) (by rw [hc0]; rfl) (by decide) ?_
    refine lv_aload_n hx hb d_Qd_count_28 rfl (lv_at hl 0 rfl) ?_
    refine xm_get (D := D) (v := .int np) (C := R_Qd) (T := F_Qd) (N := 12) hx hb hts (fun w h => List.mem_cons_of_mem _ (i_Qd w h)) hown hw k_Q rfl 2 (by decide) (hts _ (List.mem_cons_of_mem _ xw_109)) (fun _ h9 => h9) rfl d_Qd_count_29 ?_
    subst hQQ
    exact xm_iret hx hb hr hlk hw () rfl rfl h d_Qd_count_32
  by_cases hc1 : wh = 1
  · have h := h.2.1 hc1
    refine lv_tableIn (tgt := 33) hx hb d_Qd_count_1 (by rw [hc1]; decide) (by rw [hc1]; decide) (by rw [hc1]; rfl) (by decide) ?_
    refine lv_aload_n hx hb d_Qd_count_33 rfl (lv_at hl 0 rfl) ?_
    refine xm_get (D := D) (v := .ref (ad iL)) (C := R_Qd) (T := F_Qd) (N := 12) hx hb hts (fun w h => List.mem_cons_of_mem _ (i_Qd w h)) hown hw k_Q rfl 3 (by decide) (hts _ (List.mem_cons_of_mem _ xw_110)) (fun _ h9 => h9) rfl d_Qd_count_34 ?_
    refine xm_calli (ua := fun _ => ad) (va_runV (As := []) (rest := []) ⟨hx, hb, hml, hown, hts⟩ (c_Al_size (D := D) (ad := ad) (CE := (CE))  k_L h _) (xg_cwV 0 hts xw_151 xw_148 xw_149 xw_150 xw_4 rfl rfl (by decide +kernel) ⟨Nat.le_of_ble_eq_true rfl, Nat.le_of_ble_eq_true rfl⟩) (xm_preV hw k_L rfl _) rfl rfl hl.1 rfl (lv_room (Nat.le_of_ble_eq_true rfl)) d_Qd_count_37 ⟨Nat.le_of_ble_eq_true rfl, Nat.le_of_ble_eq_true rfl⟩) hw (fun r_1 _ H locs h hw => ?_)
    subst hQQ
    exact xm_iret hx hb hr hlk hw () rfl rfl h d_Qd_count_40
  by_cases hc2 : wh = 2
  · have h := h.2.2.1 hc2
    refine lv_tableIn (tgt := 41) hx hb d_Qd_count_1 (by rw [hc2]; decide) (by rw [hc2]; decide) (by rw [hc2]; rfl) (by decide) ?_
    refine lv_aload_n hx hb d_Qd_count_41 rfl (lv_at hl 0 rfl) ?_
    refine lv_bipush (v := 20) hx hb d_Qd_count_42 (by decide) ?_
    refine xm_calli (ua := fun _ => ad) (va_runV (As := [.int 20]) (rest := []) ⟨hx, hb, hml, hown, hts⟩ (c_Qd_sizeOfAll (D := D) (ad := ad) (CE := (CE))  k_Q k_P k_R h _) (xg_cwV 1 hts xw_216 xw_213 xw_215 xw_p3 xw_1 rfl rfl (by decide +kernel) ⟨Nat.le_of_ble_eq_true rfl, Nat.le_of_ble_eq_true rfl⟩) (xm_preV hw k_Q rfl _) rfl rfl hl.1 rfl (lv_room (Nat.le_of_ble_eq_true rfl)) d_Qd_count_44 ⟨Nat.le_of_ble_eq_true rfl, Nat.le_of_ble_eq_true rfl⟩) hw (fun r_3 _ H locs h hw => ?_)
    subst hQQ
    exact xm_iret hx hb hr hlk hw () rfl rfl h d_Qd_count_47
  have hdf : wh.toInt < 0 ∨ 2 < wh.toInt := by
    have q0 := xs_ne hc0 (show (0 : Int32).toInt = 0 by decide)
    have q1 := xs_ne hc1 (show (1 : Int32).toInt = 1 by decide)
    have q2 := xs_ne hc2 (show (2 : Int32).toInt = 2 by decide)
    omega
  have h := h.2.2.2 hdf
  refine lv_tableOut (tgt := 48) hx hb d_Qd_count_1 hdf (by decide) ?_
  refine lv_aload_n hx hb d_Qd_count_48 rfl (lv_at hl 0 rfl) ?_
  refine xm_get (D := D) (v := .int aq) (C := R_Qd) (T := F_Qd) (N := 12) hx hb hts (fun w h => List.mem_cons_of_mem _ (i_Qd w h)) hown hw k_Q rfl 10 (by decide) (hts _ (List.mem_cons_of_mem _ xw_117)) (fun _ h9 => h9) rfl d_Qd_count_49 ?_
  refine xj_use h (fun (v_5 : Int32) => ∀ (H : Heap) (locs : List Loc) (ls : Array Slot), xm_W D xcl (xT cI cZ cJ cO) (xm_A ad CE s.heap.size) ad CE s s.heap H locs → lv_has ls 2 [] → W p l e rm_Qd_count s m args below meth c H locs 0 0 QQ (F0 m 64 ls [.int v_5])) (fun v_5 h H locs ls hw hl => ?_) (fun J_6 hJ_6 h => ?_)
  · subst hQQ
    exact xm_iret hx hb hr hlk hw () rfl rfl h d_Qd_count_64
  · refine lv_if_eq (tgt := 63) hx hb d_Qd_count_52 (by decide) (fun hc => ?_) (fun hc => ?_)
    · have h := h.1 hc
      refine lv_iconst (v := (-1)) hx hb d_Qd_count_63 (by decide) ?_
      exact hJ_6 (-1) h _ _ _ hw (lv_sub hl [] rfl)
    · have h := h.2 hc
      refine lv_aload_n hx hb d_Qd_count_55 rfl (lv_at hl 0 rfl) ?_
      refine lv_iload_n hx hb d_Qd_count_56 rfl (lv_at hl 1 rfl) ?_
      refine xm_calli (ua := fun _ => ad) (va_runV (As := [.int wh]) (rest := []) ⟨hx, hb, hml, hown, hts⟩ (c_Qd_countOfQuestion (D := D) (ad := ad) (CE := (CE))  k_Q k_pt k_P k_R h _) (xg_cwV 1 hts xw_220 xw_217 xw_219 xw_p4 xw_1 rfl rfl (by decide +kernel) ⟨Nat.le_of_ble_eq_true rfl, Nat.le_of_ble_eq_true rfl⟩) (xm_preV hw k_Q rfl _) rfl rfl hl.1 rfl (lv_room (Nat.le_of_ble_eq_true rfl)) d_Qd_count_57 ⟨Nat.le_of_ble_eq_true rfl, Nat.le_of_ble_eq_true rfl⟩) hw (fun r_7 _ H locs h hw => ?_)
      refine lv_goto (tgt := 64) hx hb d_Qd_count_60 (by decide) ?_
      exact hJ_6 r_7 h _ _ _ hw (lv_sub hl [] rfl)
