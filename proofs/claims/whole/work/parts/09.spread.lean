abbrev b_Qd_callByPattern : ByteArray := prog_1_method_23_code
def y_Qd_callByPattern : MethodName := ⟨"QuestionDesk", "callByPattern", "(LQuestionDesk$Rule;I)Z"⟩
theorem d_Qd_callByPattern_0 : decode b_Qd_callByPattern 0 = .ok (.iload_n 2, 1) := by decide +kernel
theorem d_Qd_callByPattern_1 : decode b_Qd_callByPattern 1 = .ok (.iconst 1, 1) := by decide +kernel
theorem d_Qd_callByPattern_2 : decode b_Qd_callByPattern 2 = .ok (.iand, 1) := by decide +kernel
theorem d_Qd_callByPattern_3 : decode b_Qd_callByPattern 3 = .ok (.ifCond .eq 12, 3) := by decide +kernel
theorem d_Qd_callByPattern_6 : decode b_Qd_callByPattern 6 = .ok (.aload_n 1, 1) := by decide +kernel
theorem d_Qd_callByPattern_7 : decode b_Qd_callByPattern 7 = .ok (.getfield 196, 3) := by decide +kernel
theorem d_Qd_callByPattern_10 : decode b_Qd_callByPattern 10 = .ok (.iconst 0, 1) := by decide +kernel
theorem d_Qd_callByPattern_11 : decode b_Qd_callByPattern 11 = .ok (.iaload, 1) := by decide +kernel
theorem d_Qd_callByPattern_12 : decode b_Qd_callByPattern 12 = .ok (.goto 4, 3) := by decide +kernel
theorem d_Qd_callByPattern_15 : decode b_Qd_callByPattern 15 = .ok (.iconst (-1), 1) := by decide +kernel
theorem d_Qd_callByPattern_16 : decode b_Qd_callByPattern 16 = .ok (.istore_n 3, 1) := by decide +kernel
theorem d_Qd_callByPattern_17 : decode b_Qd_callByPattern 17 = .ok (.iload_n 2, 1) := by decide +kernel
theorem d_Qd_callByPattern_18 : decode b_Qd_callByPattern 18 = .ok (.iconst 2, 1) := by decide +kernel
theorem d_Qd_callByPattern_19 : decode b_Qd_callByPattern 19 = .ok (.iand, 1) := by decide +kernel
theorem d_Qd_callByPattern_20 : decode b_Qd_callByPattern 20 = .ok (.ifCond .eq 12, 3) := by decide +kernel
theorem d_Qd_callByPattern_23 : decode b_Qd_callByPattern 23 = .ok (.aload_n 1, 1) := by decide +kernel
theorem d_Qd_callByPattern_24 : decode b_Qd_callByPattern 24 = .ok (.getfield 199, 3) := by decide +kernel
theorem d_Qd_callByPattern_27 : decode b_Qd_callByPattern 27 = .ok (.iconst 0, 1) := by decide +kernel
theorem d_Qd_callByPattern_28 : decode b_Qd_callByPattern 28 = .ok (.iaload, 1) := by decide +kernel
theorem d_Qd_callByPattern_29 : decode b_Qd_callByPattern 29 = .ok (.goto 4, 3) := by decide +kernel
theorem d_Qd_callByPattern_32 : decode b_Qd_callByPattern 32 = .ok (.iconst (-1), 1) := by decide +kernel
theorem d_Qd_callByPattern_33 : decode b_Qd_callByPattern 33 = .ok (.istore 4, 2) := by decide +kernel
theorem d_Qd_callByPattern_35 : decode b_Qd_callByPattern 35 = .ok (.iload_n 3, 1) := by decide +kernel
theorem d_Qd_callByPattern_36 : decode b_Qd_callByPattern 36 = .ok (.invokestatic 202, 3) := by decide +kernel
theorem d_Qd_callByPattern_39 : decode b_Qd_callByPattern 39 = .ok (.iload 4, 2) := by decide +kernel
theorem d_Qd_callByPattern_41 : decode b_Qd_callByPattern 41 = .ok (.invokestatic 202, 3) := by decide +kernel
theorem d_Qd_callByPattern_44 : decode b_Qd_callByPattern 44 = .ok (.ior, 1) := by decide +kernel
theorem d_Qd_callByPattern_45 : decode b_Qd_callByPattern 45 = .ok (.istore 5, 2) := by decide +kernel
theorem d_Qd_callByPattern_47 : decode b_Qd_callByPattern 47 = .ok (.iconst 0, 1) := by decide +kernel
theorem d_Qd_callByPattern_48 : decode b_Qd_callByPattern 48 = .ok (.istore 6, 2) := by decide +kernel
theorem d_Qd_callByPattern_50 : decode b_Qd_callByPattern 50 = .ok (.iconst 1, 1) := by decide +kernel
theorem d_Qd_callByPattern_51 : decode b_Qd_callByPattern 51 = .ok (.istore 7, 2) := by decide +kernel
theorem d_Qd_callByPattern_53 : decode b_Qd_callByPattern 53 = .ok (.iload 7, 2) := by decide +kernel
theorem d_Qd_callByPattern_55 : decode b_Qd_callByPattern 55 = .ok (.aload_n 1, 1) := by decide +kernel
theorem d_Qd_callByPattern_56 : decode b_Qd_callByPattern 56 = .ok (.getfield 86, 3) := by decide +kernel
theorem d_Qd_callByPattern_59 : decode b_Qd_callByPattern 59 = .ok (.if_icmp .gt 165, 3) := by decide +kernel
theorem d_Qd_callByPattern_62 : decode b_Qd_callByPattern 62 = .ok (.aload_n 1, 1) := by decide +kernel
theorem d_Qd_callByPattern_63 : decode b_Qd_callByPattern 63 = .ok (.getfield 189, 3) := by decide +kernel
theorem d_Qd_callByPattern_66 : decode b_Qd_callByPattern 66 = .ok (.iload 7, 2) := by decide +kernel
theorem d_Qd_callByPattern_68 : decode b_Qd_callByPattern 68 = .ok (.iaload, 1) := by decide +kernel
theorem d_Qd_callByPattern_69 : decode b_Qd_callByPattern 69 = .ok (.istore 8, 2) := by decide +kernel
theorem d_Qd_callByPattern_71 : decode b_Qd_callByPattern 71 = .ok (.aload_n 0, 1) := by decide +kernel
theorem d_Qd_callByPattern_72 : decode b_Qd_callByPattern 72 = .ok (.getfield 13, 3) := by decide +kernel
theorem d_Qd_callByPattern_75 : decode b_Qd_callByPattern 75 = .ok (.iload 8, 2) := by decide +kernel
theorem d_Qd_callByPattern_77 : decode b_Qd_callByPattern 77 = .ok (.baload, 1) := by decide +kernel
theorem d_Qd_callByPattern_78 : decode b_Qd_callByPattern 78 = .ok (.ifCond .eq 114, 3) := by decide +kernel
theorem d_Qd_callByPattern_81 : decode b_Qd_callByPattern 81 = .ok (.aload_n 1, 1) := by decide +kernel
theorem d_Qd_callByPattern_82 : decode b_Qd_callByPattern 82 = .ok (.getfield 196, 3) := by decide +kernel
theorem d_Qd_callByPattern_85 : decode b_Qd_callByPattern 85 = .ok (.iload 7, 2) := by decide +kernel
theorem d_Qd_callByPattern_87 : decode b_Qd_callByPattern 87 = .ok (.iaload, 1) := by decide +kernel
theorem d_Qd_callByPattern_88 : decode b_Qd_callByPattern 88 = .ok (.iload 5, 2) := by decide +kernel
theorem d_Qd_callByPattern_90 : decode b_Qd_callByPattern 90 = .ok (.invokestatic 183, 3) := by decide +kernel
theorem d_Qd_callByPattern_93 : decode b_Qd_callByPattern 93 = .ok (.istore 9, 2) := by decide +kernel
theorem d_Qd_callByPattern_95 : decode b_Qd_callByPattern 95 = .ok (.aload_n 1, 1) := by decide +kernel
theorem d_Qd_callByPattern_96 : decode b_Qd_callByPattern 96 = .ok (.getfield 199, 3) := by decide +kernel
theorem d_Qd_callByPattern_99 : decode b_Qd_callByPattern 99 = .ok (.iload 7, 2) := by decide +kernel
theorem d_Qd_callByPattern_101 : decode b_Qd_callByPattern 101 = .ok (.iaload, 1) := by decide +kernel
theorem d_Qd_callByPattern_102 : decode b_Qd_callByPattern 102 = .ok (.iload 5, 2) := by decide +kernel
theorem d_Qd_callByPattern_104 : decode b_Qd_callByPattern 104 = .ok (.invokestatic 183, 3) := by decide +kernel
theorem d_Qd_callByPattern_107 : decode b_Qd_callByPattern 107 = .ok (.istore 10, 2) := by decide +kernel
theorem d_Qd_callByPattern_109 : decode b_Qd_callByPattern 109 = .ok (.iload 6, 2) := by decide +kernel
theorem d_Qd_callByPattern_111 : decode b_Qd_callByPattern 111 = .ok (.aload_n 0, 1) := by decide +kernel
theorem d_Qd_callByPattern_112 : decode b_Qd_callByPattern 112 = .ok (.iload 8, 2) := by decide +kernel
theorem d_Qd_callByPattern_114 : decode b_Qd_callByPattern 114 = .ok (.iload 9, 2) := by decide +kernel
theorem d_Qd_callByPattern_116 : decode b_Qd_callByPattern 116 = .ok (.iload 10, 2) := by decide +kernel
theorem d_Qd_callByPattern_118 : decode b_Qd_callByPattern 118 = .ok (.invokevirtual 186, 3) := by decide +kernel
theorem d_Qd_callByPattern_121 : decode b_Qd_callByPattern 121 = .ok (.ior, 1) := by decide +kernel
theorem d_Qd_callByPattern_122 : decode b_Qd_callByPattern 122 = .ok (.istore 6, 2) := by decide +kernel
theorem d_Qd_callByPattern_124 : decode b_Qd_callByPattern 124 = .ok (.aload_n 0, 1) := by decide +kernel
theorem d_Qd_callByPattern_125 : decode b_Qd_callByPattern 125 = .ok (.getfield 51, 3) := by decide +kernel
theorem d_Qd_callByPattern_128 : decode b_Qd_callByPattern 128 = .ok (.bipush 10, 2) := by decide +kernel
theorem d_Qd_callByPattern_130 : decode b_Qd_callByPattern 130 = .ok (.iload 8, 2) := by decide +kernel
theorem d_Qd_callByPattern_132 : decode b_Qd_callByPattern 132 = .ok (.iadd, 1) := by decide +kernel
theorem d_Qd_callByPattern_133 : decode b_Qd_callByPattern 133 = .ok (.iload 9, 2) := by decide +kernel
theorem d_Qd_callByPattern_135 : decode b_Qd_callByPattern 135 = .ok (.iload 10, 2) := by decide +kernel
theorem d_Qd_callByPattern_137 : decode b_Qd_callByPattern 137 = .ok (.invokevirtual 82, 3) := by decide +kernel
theorem d_Qd_callByPattern_140 : decode b_Qd_callByPattern 140 = .ok (.aload_n 0, 1) := by decide +kernel
theorem d_Qd_callByPattern_141 : decode b_Qd_callByPattern 141 = .ok (.getfield 51, 3) := by decide +kernel
theorem d_Qd_callByPattern_144 : decode b_Qd_callByPattern 144 = .ok (.bipush 10, 2) := by decide +kernel
theorem d_Qd_callByPattern_146 : decode b_Qd_callByPattern 146 = .ok (.aload_n 1, 1) := by decide +kernel
theorem d_Qd_callByPattern_147 : decode b_Qd_callByPattern 147 = .ok (.getfield 189, 3) := by decide +kernel
theorem d_Qd_callByPattern_150 : decode b_Qd_callByPattern 150 = .ok (.iconst 0, 1) := by decide +kernel
theorem d_Qd_callByPattern_151 : decode b_Qd_callByPattern 151 = .ok (.iaload, 1) := by decide +kernel
theorem d_Qd_callByPattern_152 : decode b_Qd_callByPattern 152 = .ok (.iadd, 1) := by decide +kernel
theorem d_Qd_callByPattern_153 : decode b_Qd_callByPattern 153 = .ok (.iload_n 3, 1) := by decide +kernel
theorem d_Qd_callByPattern_154 : decode b_Qd_callByPattern 154 = .ok (.iload 4, 2) := by decide +kernel
theorem d_Qd_callByPattern_156 : decode b_Qd_callByPattern 156 = .ok (.invokevirtual 96, 3) := by decide +kernel
theorem d_Qd_callByPattern_159 : decode b_Qd_callByPattern 159 = .ok (.aload_n 0, 1) := by decide +kernel
theorem d_Qd_callByPattern_160 : decode b_Qd_callByPattern 160 = .ok (.getfield 51, 3) := by decide +kernel
theorem d_Qd_callByPattern_163 : decode b_Qd_callByPattern 163 = .ok (.aload_n 1, 1) := by decide +kernel
theorem d_Qd_callByPattern_164 : decode b_Qd_callByPattern 164 = .ok (.iload 7, 2) := by decide +kernel
theorem d_Qd_callByPattern_166 : decode b_Qd_callByPattern 166 = .ok (.invokevirtual 205, 3) := by decide +kernel
theorem d_Qd_callByPattern_169 : decode b_Qd_callByPattern 169 = .ok (.aload_n 0, 1) := by decide +kernel
theorem d_Qd_callByPattern_170 : decode b_Qd_callByPattern 170 = .ok (.getfield 51, 3) := by decide +kernel
theorem d_Qd_callByPattern_173 : decode b_Qd_callByPattern 173 = .ok (.invokevirtual 109, 3) := by decide +kernel
theorem d_Qd_callByPattern_176 : decode b_Qd_callByPattern 176 = .ok (.iload 6, 2) := by decide +kernel
theorem d_Qd_callByPattern_178 : decode b_Qd_callByPattern 178 = .ok (.aload_n 0, 1) := by decide +kernel
theorem d_Qd_callByPattern_179 : decode b_Qd_callByPattern 179 = .ok (.getfield 44, 3) := by decide +kernel
theorem d_Qd_callByPattern_182 : decode b_Qd_callByPattern 182 = .ok (.aload_n 0, 1) := by decide +kernel
theorem d_Qd_callByPattern_183 : decode b_Qd_callByPattern 183 = .ok (.getfield 51, 3) := by decide +kernel
theorem d_Qd_callByPattern_186 : decode b_Qd_callByPattern 186 = .ok (.invokevirtual 179, 3) := by decide +kernel
theorem d_Qd_callByPattern_189 : decode b_Qd_callByPattern 189 = .ok (.ior, 1) := by decide +kernel
theorem d_Qd_callByPattern_190 : decode b_Qd_callByPattern 190 = .ok (.istore 6, 2) := by decide +kernel
theorem d_Qd_callByPattern_192 : decode b_Qd_callByPattern 192 = .ok (.iload 5, 2) := by decide +kernel
theorem d_Qd_callByPattern_194 : decode b_Qd_callByPattern 194 = .ok (.aload_n 1, 1) := by decide +kernel
theorem d_Qd_callByPattern_195 : decode b_Qd_callByPattern 195 = .ok (.getfield 196, 3) := by decide +kernel
theorem d_Qd_callByPattern_198 : decode b_Qd_callByPattern 198 = .ok (.iload 7, 2) := by decide +kernel
theorem d_Qd_callByPattern_200 : decode b_Qd_callByPattern 200 = .ok (.iaload, 1) := by decide +kernel
theorem d_Qd_callByPattern_201 : decode b_Qd_callByPattern 201 = .ok (.invokestatic 202, 3) := by decide +kernel
theorem d_Qd_callByPattern_204 : decode b_Qd_callByPattern 204 = .ok (.aload_n 1, 1) := by decide +kernel
theorem d_Qd_callByPattern_205 : decode b_Qd_callByPattern 205 = .ok (.getfield 199, 3) := by decide +kernel
theorem d_Qd_callByPattern_208 : decode b_Qd_callByPattern 208 = .ok (.iload 7, 2) := by decide +kernel
theorem d_Qd_callByPattern_210 : decode b_Qd_callByPattern 210 = .ok (.iaload, 1) := by decide +kernel
theorem d_Qd_callByPattern_211 : decode b_Qd_callByPattern 211 = .ok (.invokestatic 202, 3) := by decide +kernel
theorem d_Qd_callByPattern_214 : decode b_Qd_callByPattern 214 = .ok (.ior, 1) := by decide +kernel
theorem d_Qd_callByPattern_215 : decode b_Qd_callByPattern 215 = .ok (.ior, 1) := by decide +kernel
theorem d_Qd_callByPattern_216 : decode b_Qd_callByPattern 216 = .ok (.istore 5, 2) := by decide +kernel
theorem d_Qd_callByPattern_218 : decode b_Qd_callByPattern 218 = .ok (.iinc 7 1, 3) := by decide +kernel
theorem d_Qd_callByPattern_221 : decode b_Qd_callByPattern 221 = .ok (.goto (-168), 3) := by decide +kernel
theorem d_Qd_callByPattern_224 : decode b_Qd_callByPattern 224 = .ok (.iload 6, 2) := by decide +kernel
theorem d_Qd_callByPattern_226 : decode b_Qd_callByPattern 226 = .ok (.ireturn, 1) := by decide +kernel
abbrev b_Qd_findModel : ByteArray := prog_1_method_19_code
def y_Qd_findModel : MethodName := ⟨"QuestionDesk", "findModel", "()V"⟩
theorem d_Qd_findModel_0 : decode b_Qd_findModel 0 = .ok (.iconst 1, 1) := by decide +kernel
theorem d_Qd_findModel_1 : decode b_Qd_findModel 1 = .ok (.istore_n 1, 1) := by decide +kernel
theorem d_Qd_findModel_2 : decode b_Qd_findModel 2 = .ok (.iconst 0, 1) := by decide +kernel
theorem d_Qd_findModel_3 : decode b_Qd_findModel 3 = .ok (.istore_n 2, 1) := by decide +kernel
theorem d_Qd_findModel_4 : decode b_Qd_findModel 4 = .ok (.iload_n 1, 1) := by decide +kernel
theorem d_Qd_findModel_5 : decode b_Qd_findModel 5 = .ok (.ifCond .eq 58, 3) := by decide +kernel
theorem d_Qd_findModel_8 : decode b_Qd_findModel 8 = .ok (.iload_n 2, 1) := by decide +kernel
theorem d_Qd_findModel_9 : decode b_Qd_findModel 9 = .ok (.sipush 10000, 3) := by decide +kernel
theorem d_Qd_findModel_12 : decode b_Qd_findModel 12 = .ok (.if_icmp .ge 51, 3) := by decide +kernel
theorem d_Qd_findModel_15 : decode b_Qd_findModel 15 = .ok (.iconst 0, 1) := by decide +kernel
theorem d_Qd_findModel_16 : decode b_Qd_findModel 16 = .ok (.istore_n 1, 1) := by decide +kernel
theorem d_Qd_findModel_17 : decode b_Qd_findModel 17 = .ok (.iconst 0, 1) := by decide +kernel
theorem d_Qd_findModel_18 : decode b_Qd_findModel 18 = .ok (.istore_n 3, 1) := by decide +kernel
theorem d_Qd_findModel_19 : decode b_Qd_findModel 19 = .ok (.iload_n 3, 1) := by decide +kernel
theorem d_Qd_findModel_20 : decode b_Qd_findModel 20 = .ok (.aload_n 0, 1) := by decide +kernel
theorem d_Qd_findModel_21 : decode b_Qd_findModel 21 = .ok (.getfield 24, 3) := by decide +kernel
theorem d_Qd_findModel_24 : decode b_Qd_findModel 24 = .ok (.invokevirtual 105, 3) := by decide +kernel
theorem d_Qd_findModel_27 : decode b_Qd_findModel 27 = .ok (.if_icmp .ge 30, 3) := by decide +kernel
theorem d_Qd_findModel_30 : decode b_Qd_findModel 30 = .ok (.iload_n 1, 1) := by decide +kernel
theorem d_Qd_findModel_31 : decode b_Qd_findModel 31 = .ok (.aload_n 0, 1) := by decide +kernel
theorem d_Qd_findModel_32 : decode b_Qd_findModel 32 = .ok (.getfield 44, 3) := by decide +kernel
theorem d_Qd_findModel_35 : decode b_Qd_findModel 35 = .ok (.aload_n 0, 1) := by decide +kernel
theorem d_Qd_findModel_36 : decode b_Qd_findModel 36 = .ok (.getfield 24, 3) := by decide +kernel
theorem d_Qd_findModel_39 : decode b_Qd_findModel 39 = .ok (.iload_n 3, 1) := by decide +kernel
theorem d_Qd_findModel_40 : decode b_Qd_findModel 40 = .ok (.invokevirtual 176, 3) := by decide +kernel
theorem d_Qd_findModel_43 : decode b_Qd_findModel 43 = .ok (.checkcast 48, 3) := by decide +kernel
theorem d_Qd_findModel_46 : decode b_Qd_findModel 46 = .ok (.invokevirtual 179, 3) := by decide +kernel
theorem d_Qd_findModel_49 : decode b_Qd_findModel 49 = .ok (.ior, 1) := by decide +kernel
theorem d_Qd_findModel_50 : decode b_Qd_findModel 50 = .ok (.istore_n 1, 1) := by decide +kernel
theorem d_Qd_findModel_51 : decode b_Qd_findModel 51 = .ok (.iinc 3 1, 3) := by decide +kernel
theorem d_Qd_findModel_54 : decode b_Qd_findModel 54 = .ok (.goto (-35), 3) := by decide +kernel
theorem d_Qd_findModel_57 : decode b_Qd_findModel 57 = .ok (.iinc 2 1, 3) := by decide +kernel
theorem d_Qd_findModel_60 : decode b_Qd_findModel 60 = .ok (.goto (-56), 3) := by decide +kernel
theorem d_Qd_findModel_63 : decode b_Qd_findModel 63 = .ok (.return_, 1) := by decide +kernel
abbrev b_Qd_spreadCalls : ByteArray := prog_1_method_22_code
def y_Qd_spreadCalls : MethodName := ⟨"QuestionDesk", "spreadCalls", "()V"⟩
theorem d_Qd_spreadCalls_0 : decode b_Qd_spreadCalls 0 = .ok (.iconst 1, 1) := by decide +kernel
theorem d_Qd_spreadCalls_1 : decode b_Qd_spreadCalls 1 = .ok (.istore_n 1, 1) := by decide +kernel
theorem d_Qd_spreadCalls_2 : decode b_Qd_spreadCalls 2 = .ok (.iconst 0, 1) := by decide +kernel
theorem d_Qd_spreadCalls_3 : decode b_Qd_spreadCalls 3 = .ok (.istore_n 2, 1) := by decide +kernel
theorem d_Qd_spreadCalls_4 : decode b_Qd_spreadCalls 4 = .ok (.iload_n 1, 1) := by decide +kernel
theorem d_Qd_spreadCalls_5 : decode b_Qd_spreadCalls 5 = .ok (.ifCond .eq 96, 3) := by decide +kernel
theorem d_Qd_spreadCalls_8 : decode b_Qd_spreadCalls 8 = .ok (.iload_n 2, 1) := by decide +kernel
theorem d_Qd_spreadCalls_9 : decode b_Qd_spreadCalls 9 = .ok (.sipush 10000, 3) := by decide +kernel
theorem d_Qd_spreadCalls_12 : decode b_Qd_spreadCalls 12 = .ok (.if_icmp .ge 89, 3) := by decide +kernel
theorem d_Qd_spreadCalls_15 : decode b_Qd_spreadCalls 15 = .ok (.iconst 0, 1) := by decide +kernel
theorem d_Qd_spreadCalls_16 : decode b_Qd_spreadCalls 16 = .ok (.istore_n 1, 1) := by decide +kernel
theorem d_Qd_spreadCalls_17 : decode b_Qd_spreadCalls 17 = .ok (.iconst 0, 1) := by decide +kernel
theorem d_Qd_spreadCalls_18 : decode b_Qd_spreadCalls 18 = .ok (.istore_n 3, 1) := by decide +kernel
theorem d_Qd_spreadCalls_19 : decode b_Qd_spreadCalls 19 = .ok (.iload_n 3, 1) := by decide +kernel
theorem d_Qd_spreadCalls_20 : decode b_Qd_spreadCalls 20 = .ok (.aload_n 0, 1) := by decide +kernel
theorem d_Qd_spreadCalls_21 : decode b_Qd_spreadCalls 21 = .ok (.getfield 24, 3) := by decide +kernel
theorem d_Qd_spreadCalls_24 : decode b_Qd_spreadCalls 24 = .ok (.invokevirtual 105, 3) := by decide +kernel
theorem d_Qd_spreadCalls_27 : decode b_Qd_spreadCalls 27 = .ok (.if_icmp .ge 68, 3) := by decide +kernel
theorem d_Qd_spreadCalls_30 : decode b_Qd_spreadCalls 30 = .ok (.aload_n 0, 1) := by decide +kernel
theorem d_Qd_spreadCalls_31 : decode b_Qd_spreadCalls 31 = .ok (.getfield 24, 3) := by decide +kernel
theorem d_Qd_spreadCalls_34 : decode b_Qd_spreadCalls 34 = .ok (.iload_n 3, 1) := by decide +kernel
theorem d_Qd_spreadCalls_35 : decode b_Qd_spreadCalls 35 = .ok (.invokevirtual 176, 3) := by decide +kernel
theorem d_Qd_spreadCalls_38 : decode b_Qd_spreadCalls 38 = .ok (.checkcast 48, 3) := by decide +kernel
theorem d_Qd_spreadCalls_41 : decode b_Qd_spreadCalls 41 = .ok (.astore 4, 2) := by decide +kernel
theorem d_Qd_spreadCalls_43 : decode b_Qd_spreadCalls 43 = .ok (.iconst 0, 1) := by decide +kernel
theorem d_Qd_spreadCalls_44 : decode b_Qd_spreadCalls 44 = .ok (.istore 5, 2) := by decide +kernel
theorem d_Qd_spreadCalls_46 : decode b_Qd_spreadCalls 46 = .ok (.iload 5, 2) := by decide +kernel
theorem d_Qd_spreadCalls_48 : decode b_Qd_spreadCalls 48 = .ok (.iconst 4, 1) := by decide +kernel
theorem d_Qd_spreadCalls_49 : decode b_Qd_spreadCalls 49 = .ok (.if_icmp .ge 40, 3) := by decide +kernel
theorem d_Qd_spreadCalls_52 : decode b_Qd_spreadCalls 52 = .ok (.aload_n 0, 1) := by decide +kernel
theorem d_Qd_spreadCalls_53 : decode b_Qd_spreadCalls 53 = .ok (.getfield 54, 3) := by decide +kernel
theorem d_Qd_spreadCalls_56 : decode b_Qd_spreadCalls 56 = .ok (.aload 4, 2) := by decide +kernel
theorem d_Qd_spreadCalls_58 : decode b_Qd_spreadCalls 58 = .ok (.getfield 189, 3) := by decide +kernel
theorem d_Qd_spreadCalls_61 : decode b_Qd_spreadCalls 61 = .ok (.iconst 0, 1) := by decide +kernel
theorem d_Qd_spreadCalls_62 : decode b_Qd_spreadCalls 62 = .ok (.iaload, 1) := by decide +kernel
theorem d_Qd_spreadCalls_63 : decode b_Qd_spreadCalls 63 = .ok (.iaload, 1) := by decide +kernel
theorem d_Qd_spreadCalls_64 : decode b_Qd_spreadCalls 64 = .ok (.iload 5, 2) := by decide +kernel
theorem d_Qd_spreadCalls_66 : decode b_Qd_spreadCalls 66 = .ok (.ishr, 1) := by decide +kernel
theorem d_Qd_spreadCalls_67 : decode b_Qd_spreadCalls 67 = .ok (.iconst 1, 1) := by decide +kernel
theorem d_Qd_spreadCalls_68 : decode b_Qd_spreadCalls 68 = .ok (.iand, 1) := by decide +kernel
theorem d_Qd_spreadCalls_69 : decode b_Qd_spreadCalls 69 = .ok (.ifCond .eq 14, 3) := by decide +kernel
theorem d_Qd_spreadCalls_72 : decode b_Qd_spreadCalls 72 = .ok (.iload_n 1, 1) := by decide +kernel
theorem d_Qd_spreadCalls_73 : decode b_Qd_spreadCalls 73 = .ok (.aload_n 0, 1) := by decide +kernel
theorem d_Qd_spreadCalls_74 : decode b_Qd_spreadCalls 74 = .ok (.aload 4, 2) := by decide +kernel
theorem d_Qd_spreadCalls_76 : decode b_Qd_spreadCalls 76 = .ok (.iload 5, 2) := by decide +kernel
theorem d_Qd_spreadCalls_78 : decode b_Qd_spreadCalls 78 = .ok (.invokevirtual 192, 3) := by decide +kernel
theorem d_Qd_spreadCalls_81 : decode b_Qd_spreadCalls 81 = .ok (.ior, 1) := by decide +kernel
theorem d_Qd_spreadCalls_82 : decode b_Qd_spreadCalls 82 = .ok (.istore_n 1, 1) := by decide +kernel
theorem d_Qd_spreadCalls_83 : decode b_Qd_spreadCalls 83 = .ok (.iinc 5 1, 3) := by decide +kernel
theorem d_Qd_spreadCalls_86 : decode b_Qd_spreadCalls 86 = .ok (.goto (-40), 3) := by decide +kernel
theorem d_Qd_spreadCalls_89 : decode b_Qd_spreadCalls 89 = .ok (.iinc 3 1, 3) := by decide +kernel
theorem d_Qd_spreadCalls_92 : decode b_Qd_spreadCalls 92 = .ok (.goto (-73), 3) := by decide +kernel
theorem d_Qd_spreadCalls_95 : decode b_Qd_spreadCalls 95 = .ok (.iinc 2 1, 3) := by decide +kernel
theorem d_Qd_spreadCalls_98 : decode b_Qd_spreadCalls 98 = .ok (.goto (-94), 3) := by decide +kernel
theorem d_Qd_spreadCalls_101 : decode b_Qd_spreadCalls 101 = .ok (.return_, 1) := by decide +kernel
abbrev b_Qd_countRewrittenRules : ByteArray := prog_1_method_28_code
def y_Qd_countRewrittenRules : MethodName := ⟨"QuestionDesk", "countRewrittenRules", "()I"⟩
theorem d_Qd_countRewrittenRules_0 : decode b_Qd_countRewrittenRules 0 = .ok (.iconst 0, 1) := by decide +kernel
theorem d_Qd_countRewrittenRules_1 : decode b_Qd_countRewrittenRules 1 = .ok (.istore_n 1, 1) := by decide +kernel
theorem d_Qd_countRewrittenRules_2 : decode b_Qd_countRewrittenRules 2 = .ok (.iconst 0, 1) := by decide +kernel
theorem d_Qd_countRewrittenRules_3 : decode b_Qd_countRewrittenRules 3 = .ok (.istore_n 2, 1) := by decide +kernel
theorem d_Qd_countRewrittenRules_4 : decode b_Qd_countRewrittenRules 4 = .ok (.iload_n 2, 1) := by decide +kernel
theorem d_Qd_countRewrittenRules_5 : decode b_Qd_countRewrittenRules 5 = .ok (.aload_n 0, 1) := by decide +kernel
theorem d_Qd_countRewrittenRules_6 : decode b_Qd_countRewrittenRules 6 = .ok (.getfield 24, 3) := by decide +kernel
theorem d_Qd_countRewrittenRules_9 : decode b_Qd_countRewrittenRules 9 = .ok (.invokevirtual 105, 3) := by decide +kernel
theorem d_Qd_countRewrittenRules_12 : decode b_Qd_countRewrittenRules 12 = .ok (.if_icmp .ge 87, 3) := by decide +kernel
theorem d_Qd_countRewrittenRules_15 : decode b_Qd_countRewrittenRules 15 = .ok (.aload_n 0, 1) := by decide +kernel
theorem d_Qd_countRewrittenRules_16 : decode b_Qd_countRewrittenRules 16 = .ok (.getfield 24, 3) := by decide +kernel
theorem d_Qd_countRewrittenRules_19 : decode b_Qd_countRewrittenRules 19 = .ok (.iload_n 2, 1) := by decide +kernel
theorem d_Qd_countRewrittenRules_20 : decode b_Qd_countRewrittenRules 20 = .ok (.invokevirtual 176, 3) := by decide +kernel
theorem d_Qd_countRewrittenRules_23 : decode b_Qd_countRewrittenRules 23 = .ok (.checkcast 48, 3) := by decide +kernel
theorem d_Qd_countRewrittenRules_26 : decode b_Qd_countRewrittenRules 26 = .ok (.astore_n 3, 1) := by decide +kernel
theorem d_Qd_countRewrittenRules_27 : decode b_Qd_countRewrittenRules 27 = .ok (.iconst 1, 1) := by decide +kernel
theorem d_Qd_countRewrittenRules_28 : decode b_Qd_countRewrittenRules 28 = .ok (.istore 4, 2) := by decide +kernel
theorem d_Qd_countRewrittenRules_30 : decode b_Qd_countRewrittenRules 30 = .ok (.iconst 1, 1) := by decide +kernel
theorem d_Qd_countRewrittenRules_31 : decode b_Qd_countRewrittenRules 31 = .ok (.istore 5, 2) := by decide +kernel
theorem d_Qd_countRewrittenRules_33 : decode b_Qd_countRewrittenRules 33 = .ok (.iload 5, 2) := by decide +kernel
theorem d_Qd_countRewrittenRules_35 : decode b_Qd_countRewrittenRules 35 = .ok (.aload_n 3, 1) := by decide +kernel
theorem d_Qd_countRewrittenRules_36 : decode b_Qd_countRewrittenRules 36 = .ok (.getfield 86, 3) := by decide +kernel
theorem d_Qd_countRewrittenRules_39 : decode b_Qd_countRewrittenRules 39 = .ok (.if_icmp .gt 34, 3) := by decide +kernel
theorem d_Qd_countRewrittenRules_42 : decode b_Qd_countRewrittenRules 42 = .ok (.iload 4, 2) := by decide +kernel
theorem d_Qd_countRewrittenRules_44 : decode b_Qd_countRewrittenRules 44 = .ok (.aload_n 0, 1) := by decide +kernel
theorem d_Qd_countRewrittenRules_45 : decode b_Qd_countRewrittenRules 45 = .ok (.getfield 13, 3) := by decide +kernel
theorem d_Qd_countRewrittenRules_48 : decode b_Qd_countRewrittenRules 48 = .ok (.aload_n 3, 1) := by decide +kernel
theorem d_Qd_countRewrittenRules_49 : decode b_Qd_countRewrittenRules 49 = .ok (.getfield 189, 3) := by decide +kernel
theorem d_Qd_countRewrittenRules_52 : decode b_Qd_countRewrittenRules 52 = .ok (.iload 5, 2) := by decide +kernel
theorem d_Qd_countRewrittenRules_54 : decode b_Qd_countRewrittenRules 54 = .ok (.iaload, 1) := by decide +kernel
theorem d_Qd_countRewrittenRules_55 : decode b_Qd_countRewrittenRules 55 = .ok (.baload, 1) := by decide +kernel
theorem d_Qd_countRewrittenRules_56 : decode b_Qd_countRewrittenRules 56 = .ok (.ifCond .eq 7, 3) := by decide +kernel
theorem d_Qd_countRewrittenRules_59 : decode b_Qd_countRewrittenRules 59 = .ok (.iconst 1, 1) := by decide +kernel
theorem d_Qd_countRewrittenRules_60 : decode b_Qd_countRewrittenRules 60 = .ok (.goto 4, 3) := by decide +kernel
theorem d_Qd_countRewrittenRules_63 : decode b_Qd_countRewrittenRules 63 = .ok (.iconst 0, 1) := by decide +kernel
theorem d_Qd_countRewrittenRules_64 : decode b_Qd_countRewrittenRules 64 = .ok (.iadd, 1) := by decide +kernel
theorem d_Qd_countRewrittenRules_65 : decode b_Qd_countRewrittenRules 65 = .ok (.istore 4, 2) := by decide +kernel
theorem d_Qd_countRewrittenRules_67 : decode b_Qd_countRewrittenRules 67 = .ok (.iinc 5 1, 3) := by decide +kernel
theorem d_Qd_countRewrittenRules_70 : decode b_Qd_countRewrittenRules 70 = .ok (.goto (-37), 3) := by decide +kernel
theorem d_Qd_countRewrittenRules_73 : decode b_Qd_countRewrittenRules 73 = .ok (.iload_n 1, 1) := by decide +kernel
theorem d_Qd_countRewrittenRules_74 : decode b_Qd_countRewrittenRules 74 = .ok (.iload 4, 2) := by decide +kernel
theorem d_Qd_countRewrittenRules_76 : decode b_Qd_countRewrittenRules 76 = .ok (.aload_n 0, 1) := by decide +kernel
theorem d_Qd_countRewrittenRules_77 : decode b_Qd_countRewrittenRules 77 = .ok (.getfield 54, 3) := by decide +kernel
theorem d_Qd_countRewrittenRules_80 : decode b_Qd_countRewrittenRules 80 = .ok (.aload_n 3, 1) := by decide +kernel
theorem d_Qd_countRewrittenRules_81 : decode b_Qd_countRewrittenRules 81 = .ok (.getfield 189, 3) := by decide +kernel
theorem d_Qd_countRewrittenRules_84 : decode b_Qd_countRewrittenRules 84 = .ok (.iconst 0, 1) := by decide +kernel
theorem d_Qd_countRewrittenRules_85 : decode b_Qd_countRewrittenRules 85 = .ok (.iaload, 1) := by decide +kernel
theorem d_Qd_countRewrittenRules_86 : decode b_Qd_countRewrittenRules 86 = .ok (.iaload, 1) := by decide +kernel
theorem d_Qd_countRewrittenRules_87 : decode b_Qd_countRewrittenRules 87 = .ok (.invokestatic 154, 3) := by decide +kernel
theorem d_Qd_countRewrittenRules_90 : decode b_Qd_countRewrittenRules 90 = .ok (.imul, 1) := by decide +kernel
theorem d_Qd_countRewrittenRules_91 : decode b_Qd_countRewrittenRules 91 = .ok (.iadd, 1) := by decide +kernel
theorem d_Qd_countRewrittenRules_92 : decode b_Qd_countRewrittenRules 92 = .ok (.istore_n 1, 1) := by decide +kernel
theorem d_Qd_countRewrittenRules_93 : decode b_Qd_countRewrittenRules 93 = .ok (.iinc 2 1, 3) := by decide +kernel
theorem d_Qd_countRewrittenRules_96 : decode b_Qd_countRewrittenRules 96 = .ok (.goto (-92), 3) := by decide +kernel
theorem d_Qd_countRewrittenRules_99 : decode b_Qd_countRewrittenRules 99 = .ok (.iload_n 1, 1) := by decide +kernel
theorem d_Qd_countRewrittenRules_100 : decode b_Qd_countRewrittenRules 100 = .ok (.ireturn, 1) := by decide +kernel
theorem xw_97 : (Jvm.Cond.fieldLink "QuestionDesk" (86 : Nat) "QuestionDesk$Rule" "atoms" "I") ∈ xg := xg_t (i := 97) (by decide +kernel) (by decide +kernel)
theorem xw_88 : (Jvm.Cond.fieldLink "QuestionDesk" (189 : Nat) "QuestionDesk$Rule" "sets" "[I") ∈ xg := xg_t (i := 88) (by decide +kernel) (by decide +kernel)
theorem xw_91 : (Jvm.Cond.fieldLink "QuestionDesk" (196 : Nat) "QuestionDesk$Rule" "firsts" "[I") ∈ xg := xg_t (i := 91) (by decide +kernel) (by decide +kernel)
theorem xw_94 : (Jvm.Cond.fieldLink "QuestionDesk" (199 : Nat) "QuestionDesk$Rule" "seconds" "[I") ∈ xg := xg_t (i := 94) (by decide +kernel) (by decide +kernel)
theorem xw_401 : (Jvm.Cond.code ({ cls := "QuestionDesk$Rule", name := "blankLoneVariables", desc := "()V" } : Jvm.MethodName) prog_4_method_8_code (4 : Nat) (Option.none : Option Jvm.ClassFile.FieldType)) ∈ xg := xg_t (i := 401) (by decide +kernel) (by decide +kernel)
theorem xw_398 : (Jvm.Cond.methodLink "QuestionDesk" (109 : Nat) ({ cls := "QuestionDesk$Rule", name := "blankLoneVariables", desc := "()V" } : Jvm.MethodName)) ∈ xg := xg_t (i := 398) (by decide +kernel) (by decide +kernel)
theorem xw_399 : (Jvm.Cond.instanceMethod ({ cls := "QuestionDesk$Rule", name := "blankLoneVariables", desc := "()V" } : Jvm.MethodName)) ∈ xg := xg_t (i := 399) (by decide +kernel) (by decide +kernel)
theorem xw_400 : (Jvm.Cond.selects "QuestionDesk$Rule" ({ cls := "QuestionDesk$Rule", name := "blankLoneVariables", desc := "()V" } : Jvm.MethodName) ({ cls := "QuestionDesk$Rule", name := "blankLoneVariables", desc := "()V" } : Jvm.MethodName)) ∈ xg := xg_t (i := 400) (by decide +kernel) (by decide +kernel)
theorem xw_529 : (Jvm.Cond.code ({ cls := "QuestionDesk$Rule", name := "appendBefore", desc := "(LQuestionDesk$Rule;I)V" } : Jvm.MethodName) prog_4_method_4_code (4 : Nat) (Option.none : Option Jvm.ClassFile.FieldType)) ∈ xg := xg_t (i := 529) (by decide +kernel) (by decide +kernel)
theorem xw_526 : (Jvm.Cond.methodLink "QuestionDesk" (205 : Nat) ({ cls := "QuestionDesk$Rule", name := "appendBefore", desc := "(LQuestionDesk$Rule;I)V" } : Jvm.MethodName)) ∈ xg := xg_t (i := 526) (by decide +kernel) (by decide +kernel)
theorem xw_527 : (Jvm.Cond.instanceMethod ({ cls := "QuestionDesk$Rule", name := "appendBefore", desc := "(LQuestionDesk$Rule;I)V" } : Jvm.MethodName)) ∈ xg := xg_t (i := 527) (by decide +kernel) (by decide +kernel)
theorem xw_528 : (Jvm.Cond.selects "QuestionDesk$Rule" ({ cls := "QuestionDesk$Rule", name := "appendBefore", desc := "(LQuestionDesk$Rule;I)V" } : Jvm.MethodName) ({ cls := "QuestionDesk$Rule", name := "appendBefore", desc := "(LQuestionDesk$Rule;I)V" } : Jvm.MethodName)) ∈ xg := xg_t (i := 528) (by decide +kernel) (by decide +kernel)
def wp_Qd_callByPattern (post : Int32 → (Nat → Int32) → (Nat → Int32) → (Nat → Int32) → (Nat → Int32) → Int32 → (Nat → Int32) → (Nat → Int32) → Prop)  (qbr : Nat → Int32) (ors : Nat → Int32) (orf : Nat → Int32) (orc : Nat → Int32) (ona : Int32) (qpt : Nat → Int32) (rs : Nat → Int32) (rf : Nat → Int32) (rc : Nat → Int32) (na : Int32) (f : Nat → Int32) (v : Nat → Int32) (pat : Int32) : Prop :=
xj (fun (v_1 : Int32) =>
xj (fun (v_3 : Int32) =>
wp_Qd_variableBit (fun r_5 =>
wp_Qd_variableBit (fun r_7 =>
∀ x_9 : Int32, x_9 = r_5 ||| r_7 →
xL (fun (K_11 : Int32 × Int32 × Int32 × (Nat → Int32) × (Nat → Int32) × (Nat → Int32) × (Nat → Int32) × Int32 × (Nat → Int32) × (Nat → Int32) → Prop) (v_10 : Int32 × Int32 × Int32 × (Nat → Int32) × (Nat → Int32) × (Nat → Int32) × (Nat → Int32) × Int32 × (Nat → Int32) × (Nat → Int32)) =>
((ona < v_10.1 →
(narrow .boolean (.int v_10.2.1) = .int v_10.2.1 ∧ post v_10.2.1 v_10.2.2.2.1 v_10.2.2.2.2.1 v_10.2.2.2.2.2.1 v_10.2.2.2.2.2.2.1 v_10.2.2.2.2.2.2.2.1 v_10.2.2.2.2.2.2.2.2.1 v_10.2.2.2.2.2.2.2.2.2)) ∧ (¬ ona < v_10.1 →
vp_in v_10.1 4 ∧
∀ x_12 : Int32, x_12 = ors (Int32.toNatClampNeg v_10.1) →
vp_in x_12 10 ∧
xj (fun (v_13 : Int32 × (Nat → Int32) × (Nat → Int32) × (Nat → Int32) × (Nat → Int32) × Int32 × (Nat → Int32) × (Nat → Int32)) =>
vp_in v_10.1 4 ∧
wp_Qd_variableBit (fun r_15 =>
vp_in v_10.1 4 ∧
wp_Qd_variableBit (fun r_17 =>
∀ x_19 : Int32, x_19 = v_10.2.2.1 ||| (r_15 ||| r_17) →
∀ x_20 : Int32, x_20 = v_10.1 + 1 →
K_11 (x_20, v_13.1, x_19, v_13.2.1, v_13.2.2.1, v_13.2.2.2.1, v_13.2.2.2.2.1, v_13.2.2.2.2.2.1, v_13.2.2.2.2.2.2.1, v_13.2.2.2.2.2.2.2)) (orc (Int32.toNatClampNeg v_10.1))) (orf (Int32.toNatClampNeg v_10.1))) (fun (J_14 : Int32 × (Nat → Int32) × (Nat → Int32) × (Nat → Int32) × (Nat → Int32) × Int32 × (Nat → Int32) × (Nat → Int32) → Prop) =>
(((qbr (Int32.toNatClampNeg x_12)) = 0 →
J_14 (v_10.2.1, v_10.2.2.2.1, v_10.2.2.2.2.1, v_10.2.2.2.2.2.1, v_10.2.2.2.2.2.2.1, v_10.2.2.2.2.2.2.2.1, v_10.2.2.2.2.2.2.2.2.1, v_10.2.2.2.2.2.2.2.2.2)) ∧ (¬ (qbr (Int32.toNatClampNeg x_12)) = 0 →
vp_in v_10.1 4 ∧
wp_Qd_boundOrFree (fun r_21 =>
vp_in v_10.1 4 ∧
wp_Qd_boundOrFree (fun r_23 =>
wp_Qd_addPattern (fun r_25 qpt_27 =>
∀ x_28 : Int32, x_28 = v_10.2.1 ||| r_25 →
wp_Ru_begin (fun rs_31 rf_32 rc_33 na_34 =>
vp_in 0 4 ∧
wp_Ru_append (fun rs_37 rf_38 rc_39 na_40 =>
wp_Ru_appendBefore (fun rs_43 rf_44 rc_45 na_46 =>
wp_Ru_blankLoneVariables (fun rf_49 rc_50 =>
wp_Mt_follow (fun r_51 f_53 v_54 =>
∀ x_55 : Int32, x_55 = x_28 ||| r_51 →
J_14 (x_55, qpt_27, rs_43, rf_49, rc_50, na_46, f_53, v_54)) rs_43 rf_49 rc_50 na_46 v_10.2.2.2.2.2.2.2.2.1 v_10.2.2.2.2.2.2.2.2.2) na_46 rf_44 rc_45) ors orf orc ona rs_37 rf_38 rc_39 na_40 v_10.1) rs_31 rf_32 rc_33 na_34 (10 + (ors (Int32.toNatClampNeg 0))) v_1 v_3) v_10.2.2.2.2.1 v_10.2.2.2.2.2.1 v_10.2.2.2.2.2.2.1 v_10.2.2.2.2.2.2.2.1 (10 + x_12) r_21 r_23) v_10.2.2.2.1 x_12 r_21 r_23) (orc (Int32.toNatClampNeg v_10.1)) v_10.2.2.1) (orf (Int32.toNatClampNeg v_10.1)) v_10.2.2.1)))))) (1, 0, x_9, qpt, rs, rf, rc, na, f, v)) v_3) v_1) (fun (J_4 : Int32 → Prop) =>
(((pat &&& 2) = 0 →
J_4 (-1)) ∧ (¬ (pat &&& 2) = 0 →
vp_in 0 4 ∧
J_4 (orc (Int32.toNatClampNeg 0)))))) (fun (J_2 : Int32 → Prop) =>
(((pat &&& 1) = 0 →
J_2 (-1)) ∧ (¬ (pat &&& 1) = 0 →
vp_in 0 4 ∧
J_2 (orf (Int32.toNatClampNeg 0)))))
abbrev rm_Qd_callByPattern : Room := { frames := 10, cells := 0, slots := 0, locals := 260 }
set_option maxHeartbeats 4000000 in
set_option maxRecDepth 100000 in
theorem c_Qd_callByPattern {l : Launch} {D : va_G} {ad : Nat → Nat} (CE : (Nat → Int32) → (Nat → Int32) → (Nat → Int32) → (Nat → Int32) → Int32 → (Nat → Int32) → (Nat → Int32) → Nat → Option va_E) {cI cZ cJ cO : ClassId} {iQ : Nat} {ipl : Nat} {ibr : Nat} {iL : Nat} {iP : Nat} {iM : Nat} {iU : Nat} {ipt : Nat} {iR : Nat} {iV : Nat} {iA : Nat} {iB : Nat} {iC : Nat} {ioU : Nat} {ioA : Nat} {ioB : Nat} {ioC : Nat} {qbr : Nat → Int32} {ors : Nat → Int32} {orf : Nat → Int32} {orc : Nat → Int32} {ona : Int32} {np : Int32} {bg : Value} {rw : Int32} {aq : Int32} {pn : Int32} (k_Q : ∀ (qpt : Nat → Int32) (rs : Nat → Int32) (rf : Nat → Int32) (rc : Nat → Int32) (na : Int32) (f : Nat → Int32) (v : Nat → Int32), (CE qpt rs rf rc na f v) iQ = some (.inr (0, [.ref (ad ipl), .ref (ad ibr), .int np, .ref (ad iL), bg, .ref (ad iP), .ref (ad iM), .ref (ad iU), .ref (ad ipt), .int rw, .int aq, .int pn]))) (k_br : ∀ (qpt : Nat → Int32) (rs : Nat → Int32) (rf : Nat → Int32) (rc : Nat → Int32) (na : Int32) (f : Nat → Int32) (v : Nat → Int32), (CE qpt rs rf rc na f v) ibr = some (.inl (cZ, 10, .inl qbr))) (k_pt : ∀ (qpt : Nat → Int32) (rs : Nat → Int32) (rf : Nat → Int32) (rc : Nat → Int32) (na : Int32) (f : Nat → Int32) (v : Nat → Int32), (CE qpt rs rf rc na f v) ipt = some (.inl (cI, 10, .inl qpt))) (k_P : ∀ (qpt : Nat → Int32) (rs : Nat → Int32) (rf : Nat → Int32) (rc : Nat → Int32) (na : Int32) (f : Nat → Int32) (v : Nat → Int32), (CE qpt rs rf rc na f v) iP = some (.inr (1, [.ref (ad iR)]))) (k_R : ∀ (qpt : Nat → Int32) (rs : Nat → Int32) (rf : Nat → Int32) (rc : Nat → Int32) (na : Int32) (f : Nat → Int32) (v : Nat → Int32), (CE qpt rs rf rc na f v) iR = some (.inl (cI, 341, .inl f))) (k_M : ∀ (qpt : Nat → Int32) (rs : Nat → Int32) (rf : Nat → Int32) (rc : Nat → Int32) (na : Int32) (f : Nat → Int32) (v : Nat → Int32), (CE qpt rs rf rc na f v) iM = some (.inr (2, [.ref (ad iP), .ref (ad iV)]))) (k_V : ∀ (qpt : Nat → Int32) (rs : Nat → Int32) (rf : Nat → Int32) (rc : Nat → Int32) (na : Int32) (f : Nat → Int32) (v : Nat → Int32), (CE qpt rs rf rc na f v) iV = some (.inl (cI, 20, .inl v))) (k_U : ∀ (qpt : Nat → Int32) (rs : Nat → Int32) (rf : Nat → Int32) (rc : Nat → Int32) (na : Int32) (f : Nat → Int32) (v : Nat → Int32), (CE qpt rs rf rc na f v) iU = some (.inr (3, [.ref (ad iA), .ref (ad iB), .ref (ad iC), .int na]))) (k_A : ∀ (qpt : Nat → Int32) (rs : Nat → Int32) (rf : Nat → Int32) (rc : Nat → Int32) (na : Int32) (f : Nat → Int32) (v : Nat → Int32), (CE qpt rs rf rc na f v) iA = some (.inl (cI, 4, .inl rs))) (k_B : ∀ (qpt : Nat → Int32) (rs : Nat → Int32) (rf : Nat → Int32) (rc : Nat → Int32) (na : Int32) (f : Nat → Int32) (v : Nat → Int32), (CE qpt rs rf rc na f v) iB = some (.inl (cI, 4, .inl rf))) (k_C : ∀ (qpt : Nat → Int32) (rs : Nat → Int32) (rf : Nat → Int32) (rc : Nat → Int32) (na : Int32) (f : Nat → Int32) (v : Nat → Int32), (CE qpt rs rf rc na f v) iC = some (.inl (cI, 4, .inl rc))) (k_oU : ∀ (qpt : Nat → Int32) (rs : Nat → Int32) (rf : Nat → Int32) (rc : Nat → Int32) (na : Int32) (f : Nat → Int32) (v : Nat → Int32), (CE qpt rs rf rc na f v) ioU = some (.inr (3, [.ref (ad ioA), .ref (ad ioB), .ref (ad ioC), .int ona]))) (k_oA : ∀ (qpt : Nat → Int32) (rs : Nat → Int32) (rf : Nat → Int32) (rc : Nat → Int32) (na : Int32) (f : Nat → Int32) (v : Nat → Int32), (CE qpt rs rf rc na f v) ioA = some (.inl (cI, 4, .inl ors))) (k_oB : ∀ (qpt : Nat → Int32) (rs : Nat → Int32) (rf : Nat → Int32) (rc : Nat → Int32) (na : Int32) (f : Nat → Int32) (v : Nat → Int32), (CE qpt rs rf rc na f v) ioB = some (.inl (cI, 4, .inl orf))) (k_oC : ∀ (qpt : Nat → Int32) (rs : Nat → Int32) (rf : Nat → Int32) (rc : Nat → Int32) (na : Int32) (f : Nat → Int32) (v : Nat → Int32), (CE qpt rs rf rc na f v) ioC = some (.inl (cI, 4, .inl orc))) (u_pt : ∀ (qpt : Nat → Int32) (rs : Nat → Int32) (rf : Nat → Int32) (rc : Nat → Int32) (na : Int32) (f : Nat → Int32) (v : Nat → Int32) (qpt' : Nat → Int32), va_up (CE qpt rs rf rc na f v) ipt (some (.inl (cI, 10, .inl qpt'))) = (CE qpt' rs rf rc na f v)) (u_R : ∀ (qpt : Nat → Int32) (rs : Nat → Int32) (rf : Nat → Int32) (rc : Nat → Int32) (na : Int32) (f : Nat → Int32) (v : Nat → Int32) (f' : Nat → Int32), va_up (CE qpt rs rf rc na f v) iR (some (.inl (cI, 341, .inl f'))) = (CE qpt rs rf rc na f' v)) (u_V : ∀ (qpt : Nat → Int32) (rs : Nat → Int32) (rf : Nat → Int32) (rc : Nat → Int32) (na : Int32) (f : Nat → Int32) (v : Nat → Int32) (v' : Nat → Int32), va_up (CE qpt rs rf rc na f v) iV (some (.inl (cI, 20, .inl v'))) = (CE qpt rs rf rc na f v')) (u_U : ∀ (qpt : Nat → Int32) (rs : Nat → Int32) (rf : Nat → Int32) (rc : Nat → Int32) (na : Int32) (f : Nat → Int32) (v : Nat → Int32) (na' : Int32), va_up (CE qpt rs rf rc na f v) iU (some (.inr (3, [.ref (ad iA), .ref (ad iB), .ref (ad iC), .int na']))) = (CE qpt rs rf rc na' f v)) (u_A : ∀ (qpt : Nat → Int32) (rs : Nat → Int32) (rf : Nat → Int32) (rc : Nat → Int32) (na : Int32) (f : Nat → Int32) (v : Nat → Int32) (rs' : Nat → Int32), va_up (CE qpt rs rf rc na f v) iA (some (.inl (cI, 4, .inl rs'))) = (CE qpt rs' rf rc na f v)) (u_B : ∀ (qpt : Nat → Int32) (rs : Nat → Int32) (rf : Nat → Int32) (rc : Nat → Int32) (na : Int32) (f : Nat → Int32) (v : Nat → Int32) (rf' : Nat → Int32), va_up (CE qpt rs rf rc na f v) iB (some (.inl (cI, 4, .inl rf'))) = (CE qpt rs rf' rc na f v)) (u_C : ∀ (qpt : Nat → Int32) (rs : Nat → Int32) (rf : Nat → Int32) (rc : Nat → Int32) (na : Int32) (f : Nat → Int32) (v : Nat → Int32) (rc' : Nat → Int32), va_up (CE qpt rs rf rc na f v) iC (some (.inl (cI, 4, .inl rc'))) = (CE qpt rs rf rc' na f v)) {post : Int32 → (Nat → Int32) → (Nat → Int32) → (Nat → Int32) → (Nat → Int32) → Int32 → (Nat → Int32) → (Nat → Int32) → Prop} {qpt : Nat → Int32} {rs : Nat → Int32} {rf : Nat → Int32} {rc : Nat → Int32} {na : Int32} {f : Nat → Int32} {v : Nat → Int32} {pat : Int32} (h : wp_Qd_callByPattern post qbr ors orf orc ona qpt rs rf rc na f v pat) : ∀ sz, Met l y_Qd_callByPattern (Cond.code y_Qd_callByPattern b_Qd_callByPattern 11 (some .boolean) :: xg) rm_Qd_callByPattern (xm_Pc D xcl (xT cI cZ cJ cO) ad (CE qpt rs rf rc na f v) sz [.ref (ad iQ), .ref (ad ioU), .int pat]) (va_Qi (fun (r : Int32) (u : (Nat → Int32) × (Nat → Int32) × (Nat → Int32) × (Nat → Int32) × Int32 × (Nat → Int32) × (Nat → Int32)) => post r u.1 u.2.1 u.2.2.1 u.2.2.2.1 u.2.2.2.2.1 u.2.2.2.2.2.1 u.2.2.2.2.2.2) (xm_B D xcl (xT cI cZ cJ cO) (xm_A ad (CE qpt rs rf rc na f v) sz) (fun _ => ad) (fun u : (Nat → Int32) × (Nat → Int32) × (Nat → Int32) × (Nat → Int32) × Int32 × (Nat → Int32) × (Nat → Int32) => CE u.1 u.2.1 u.2.2.1 u.2.2.2.1 u.2.2.2.2.1 u.2.2.2.2.2.1 u.2.2.2.2.2.2)) (xm_A ad (CE qpt rs rf rc na f v) sz)) 0 0 (xm_A ad (CE qpt rs rf rc na f v) sz) := by
  refine xm_ofW (cc := b_Qd_callByPattern) (maxL := 11) (ret := (some .boolean)) (by decide) rfl (Nat.le_of_ble_eq_true rfl) ?_
  intro p e s m args below meth c ls QQ hQQ hx hb hml hr hown hlk hnm hts hl hw
  have hl : lv_has ls 11 [(0, .ref (ad iQ)), (1, .ref (ad ioU)), (2, .int pat)] := hl
  unfold wp_Qd_callByPattern at h
  refine lv_iload_n hx hb d_Qd_callByPattern_0 rfl (lv_at hl 2 rfl) ?_
  refine lv_iconst (v := 1) hx hb d_Qd_callByPattern_1 (by decide) ?_
  refine lv_iand hx hb d_Qd_callByPattern_2 ?_
  refine xj_use h (fun (v_1 : Int32) => ∀ (H : Heap) (locs : List Loc) (ls : Array Slot), xm_W D xcl (xT cI cZ cJ cO) (xm_A ad (CE qpt rs rf rc na f v) s.heap.size) ad (CE qpt rs rf rc na f v) s s.heap H locs → lv_has ls 11 [(0, .ref (ad iQ)), (1, .ref (ad ioU)), (2, .int pat)] → W p l e rm_Qd_callByPattern s m args below meth c H locs 0 0 QQ (F0 m 16 ls [.int v_1])) (fun v_1 h H locs ls hw hl => ?_) (fun J_2 hJ_2 h => ?_)
  · refine lv_istore_n (lv' := [(3, .int v_1), (0, .ref (ad iQ)), (1, .ref (ad ioU)), (2, .int pat)]) hx hb d_Qd_callByPattern_16 rfl hl (by decide) rfl (fun ls hl => ?_)
    refine lv_iload_n hx hb d_Qd_callByPattern_17 rfl (lv_at hl 3 rfl) ?_
    refine lv_iconst (v := 2) hx hb d_Qd_callByPattern_18 (by decide) ?_
    refine lv_iand hx hb d_Qd_callByPattern_19 ?_
    refine xj_use h (fun (v_3 : Int32) => ∀ (H : Heap) (locs : List Loc) (ls : Array Slot), xm_W D xcl (xT cI cZ cJ cO) (xm_A ad (CE qpt rs rf rc na f v) s.heap.size) ad (CE qpt rs rf rc na f v) s s.heap H locs → lv_has ls 11 [(0, .ref (ad iQ)), (1, .ref (ad ioU)), (3, .int v_1)] → W p l e rm_Qd_callByPattern s m args below meth c H locs 0 0 QQ (F0 m 33 ls [.int v_3])) (fun v_3 h H locs ls hw hl => ?_) (fun J_4 hJ_4 h => ?_)
    · refine lv_istore (lv' := [(4, .int v_3), (0, .ref (ad iQ)), (1, .ref (ad ioU)), (3, .int v_1)]) hx hb d_Qd_callByPattern_33 hl (by decide) rfl (fun ls hl => ?_)
      refine lv_iload_n hx hb d_Qd_callByPattern_35 rfl (lv_at hl 3 rfl) ?_
      refine xm_calli (ua := fun _ => ad) (va_runS (As := [.int v_1]) (rest := []) ⟨hx, hb, hml, hown, hts⟩ (c_Qd_variableBit (D := D) (ad := ad) (CE := ((CE qpt rs rf rc na f v)))   h _) (xg_cwS 1 hts xw_394 xw_513 xw_393 xw_1 rfl rfl (by decide +kernel) ⟨Nat.le_of_ble_eq_true rfl, Nat.le_of_ble_eq_true rfl⟩) (xm_pre hw _) rfl rfl hl.1 rfl (lv_room (Nat.le_of_ble_eq_true rfl)) d_Qd_callByPattern_36 ⟨Nat.le_of_ble_eq_true rfl, Nat.le_of_ble_eq_true rfl⟩) hw (fun r_5 _ H locs h hw => ?_)
      refine lv_iload hx hb d_Qd_callByPattern_39 (lv_at hl 0 rfl) ?_
      refine xm_calli (ua := fun _ => ad) (va_runS (As := [.int v_3]) (rest := [.int r_5]) ⟨hx, hb, hml, hown, hts⟩ (c_Qd_variableBit (D := D) (ad := ad) (CE := ((CE qpt rs rf rc na f v)))   h _) (xg_cwS 1 hts xw_394 xw_513 xw_393 xw_1 rfl rfl (by decide +kernel) ⟨Nat.le_of_ble_eq_true rfl, Nat.le_of_ble_eq_true rfl⟩) (xm_pre hw _) rfl rfl hl.1 rfl (lv_room (Nat.le_of_ble_eq_true rfl)) d_Qd_callByPattern_41 ⟨Nat.le_of_ble_eq_true rfl, Nat.le_of_ble_eq_true rfl⟩) hw (fun r_7 _ H locs h hw => ?_)
      refine lv_ior hx hb d_Qd_callByPattern_44 ?_
      refine lv_topi (fun x_9 ex_9 => ?_)
      have h := h x_9 ex_9
      refine lv_istore (lv' := [(5, .int x_9), (4, .int v_3), (0, .ref (ad iQ)), (1, .ref (ad ioU)), (3, .int v_1)]) hx hb d_Qd_callByPattern_45 hl (by decide) rfl (fun ls hl => ?_)
      refine lv_iconst (v := 0) hx hb d_Qd_callByPattern_47 (by decide) ?_
      refine lv_istore (lv' := [(6, .int 0), (5, .int x_9), (4, .int v_3), (0, .ref (ad iQ)), (1, .ref (ad ioU)), (3, .int v_1)]) hx hb d_Qd_callByPattern_48 hl (by decide) rfl (fun ls hl => ?_)
      refine lv_iconst (v := 1) hx hb d_Qd_callByPattern_50 (by decide) ?_
      refine lv_istore (lv' := [(7, .int 1), (6, .int 0), (5, .int x_9), (4, .int v_3), (0, .ref (ad iQ)), (1, .ref (ad ioU)), (3, .int v_1)]) hx hb d_Qd_callByPattern_51 hl (by decide) rfl (fun ls hl => ?_)
      refine xL_use h (fun (v_10 : Int32 × Int32 × Int32 × (Nat → Int32) × (Nat → Int32) × (Nat → Int32) × (Nat → Int32) × Int32 × (Nat → Int32) × (Nat → Int32)) => ∀ (H : Heap) (locs : List Loc) (ls : Array Slot), xm_W D xcl (xT cI cZ cJ cO) (xm_A ad (CE qpt rs rf rc na f v) s.heap.size) ad (CE v_10.2.2.2.1 v_10.2.2.2.2.1 v_10.2.2.2.2.2.1 v_10.2.2.2.2.2.2.1 v_10.2.2.2.2.2.2.2.1 v_10.2.2.2.2.2.2.2.2.1 v_10.2.2.2.2.2.2.2.2.2) s s.heap H locs → lv_has ls 11 [(7, .int v_10.1), (6, .int v_10.2.1), (5, .int v_10.2.2.1), (4, .int v_3), (0, .ref (ad iQ)), (1, .ref (ad ioU)), (3, .int v_1)] → W p l e rm_Qd_callByPattern s m args below meth c H locs 0 0 QQ (F0 m 53 ls [])) (fun K_11 hK_11 v_10 h H locs ls hw hl => ?_) _ _ _ hw (lv_sub hl [0, 1, 2, 3, 4, 5, 6] rfl)
      refine lv_iload hx hb d_Qd_callByPattern_53 (lv_at hl 0 rfl) ?_
      refine lv_aload_n hx hb d_Qd_callByPattern_55 rfl (lv_at hl 5 rfl) ?_
      refine xm_get (D := D) (v := .int ona) (C := R_Ru) (T := F_Ru) (N := 4) hx hb hts (fun w h => List.mem_cons_of_mem _ (i_Ru w h)) hown hw (k_oU v_10.2.2.2.1 v_10.2.2.2.2.1 v_10.2.2.2.2.2.1 v_10.2.2.2.2.2.2.1 v_10.2.2.2.2.2.2.2.1 v_10.2.2.2.2.2.2.2.2.1 v_10.2.2.2.2.2.2.2.2.2) rfl 3 (by decide) (hts _ (List.mem_cons_of_mem _ xw_97)) (fun _ h9 => h9) rfl d_Qd_callByPattern_56 ?_
      refine lv_icmp_gt (tgt := 224) hx hb d_Qd_callByPattern_59 (by decide) (fun hc => ?_) (fun hc => ?_)
      · have h := h.1 hc
        refine lv_iload hx hb d_Qd_callByPattern_224 (lv_at hl 1 rfl) ?_
        subst hQQ
        exact xm_zret hx hb hr hlk h.1 hw (v_10.2.2.2.1, v_10.2.2.2.2.1, v_10.2.2.2.2.2.1, v_10.2.2.2.2.2.2.1, v_10.2.2.2.2.2.2.2.1, v_10.2.2.2.2.2.2.2.2.1, v_10.2.2.2.2.2.2.2.2.2) rfl rfl h.2 d_Qd_callByPattern_226
      · have h := h.2 hc
        refine lv_aload_n hx hb d_Qd_callByPattern_62 rfl (lv_at hl 5 rfl) ?_
        refine xm_get (D := D) (v := .ref (ad ioA)) (C := R_Ru) (T := F_Ru) (N := 4) hx hb hts (fun w h => List.mem_cons_of_mem _ (i_Ru w h)) hown hw (k_oU v_10.2.2.2.1 v_10.2.2.2.2.1 v_10.2.2.2.2.2.1 v_10.2.2.2.2.2.2.1 v_10.2.2.2.2.2.2.2.1 v_10.2.2.2.2.2.2.2.2.1 v_10.2.2.2.2.2.2.2.2.2) rfl 0 (by decide) (hts _ (List.mem_cons_of_mem _ xw_88)) (fun _ h9 => h9) rfl d_Qd_callByPattern_63 ?_
        refine lv_iload hx hb d_Qd_callByPattern_66 (lv_at hl 0 rfl) ?_
        obtain ⟨hin, h⟩ := h
        refine xm_iald hx hb hw 0 (k_oA v_10.2.2.2.1 v_10.2.2.2.2.1 v_10.2.2.2.2.2.1 v_10.2.2.2.2.2.2.1 v_10.2.2.2.2.2.2.2.1 v_10.2.2.2.2.2.2.2.2.1 v_10.2.2.2.2.2.2.2.2.2) rfl hin d_Qd_callByPattern_68 ?_
        refine lv_topi (fun x_12 ex_12 => ?_)
        have h := h x_12 ex_12
        refine lv_istore (lv' := [(8, .int x_12), (7, .int v_10.1), (6, .int v_10.2.1), (5, .int v_10.2.2.1), (4, .int v_3), (0, .ref (ad iQ)), (1, .ref (ad ioU)), (3, .int v_1)]) hx hb d_Qd_callByPattern_69 hl (by decide) rfl (fun ls hl => ?_)
        refine lv_aload_n hx hb d_Qd_callByPattern_71 rfl (lv_at hl 5 rfl) ?_
        refine xm_get (D := D) (v := .ref (ad ibr)) (C := R_Qd) (T := F_Qd) (N := 12) hx hb hts (fun w h => List.mem_cons_of_mem _ (i_Qd w h)) hown hw (k_Q v_10.2.2.2.1 v_10.2.2.2.2.1 v_10.2.2.2.2.2.1 v_10.2.2.2.2.2.2.1 v_10.2.2.2.2.2.2.2.1 v_10.2.2.2.2.2.2.2.2.1 v_10.2.2.2.2.2.2.2.2.2) rfl 1 (by decide) (hts _ (List.mem_cons_of_mem _ xw_108)) (fun _ h9 => h9) rfl d_Qd_callByPattern_72 ?_
        refine lv_iload hx hb d_Qd_callByPattern_75 (lv_at hl 0 rfl) ?_
        obtain ⟨hin, h⟩ := h
        refine xm_zald hx hb hw 1 (k_br v_10.2.2.2.1 v_10.2.2.2.2.1 v_10.2.2.2.2.2.1 v_10.2.2.2.2.2.2.1 v_10.2.2.2.2.2.2.2.1 v_10.2.2.2.2.2.2.2.2.1 v_10.2.2.2.2.2.2.2.2.2) rfl hin d_Qd_callByPattern_77 ?_
        refine xj_use h (fun (v_13 : Int32 × (Nat → Int32) × (Nat → Int32) × (Nat → Int32) × (Nat → Int32) × Int32 × (Nat → Int32) × (Nat → Int32)) => ∀ (H : Heap) (locs : List Loc) (ls : Array Slot), xm_W D xcl (xT cI cZ cJ cO) (xm_A ad (CE qpt rs rf rc na f v) s.heap.size) ad (CE v_13.2.1 v_13.2.2.1 v_13.2.2.2.1 v_13.2.2.2.2.1 v_13.2.2.2.2.2.1 v_13.2.2.2.2.2.2.1 v_13.2.2.2.2.2.2.2) s s.heap H locs → lv_has ls 11 [(0, .ref (ad iQ)), (1, .ref (ad ioU)), (3, .int v_1), (4, .int v_3), (5, .int v_10.2.2.1), (6, .int v_13.1), (7, .int v_10.1)] → W p l e rm_Qd_callByPattern s m args below meth c H locs 0 0 QQ (F0 m 192 ls [])) (fun v_13 h H locs ls hw hl => ?_) (fun J_14 hJ_14 h => ?_)
        · refine lv_iload hx hb d_Qd_callByPattern_192 (lv_at hl 4 rfl) ?_
          refine lv_aload_n hx hb d_Qd_callByPattern_194 rfl (lv_at hl 1 rfl) ?_
          refine xm_get (D := D) (v := .ref (ad ioB)) (C := R_Ru) (T := F_Ru) (N := 4) hx hb hts (fun w h => List.mem_cons_of_mem _ (i_Ru w h)) hown hw (k_oU v_13.2.1 v_13.2.2.1 v_13.2.2.2.1 v_13.2.2.2.2.1 v_13.2.2.2.2.2.1 v_13.2.2.2.2.2.2.1 v_13.2.2.2.2.2.2.2) rfl 1 (by decide) (hts _ (List.mem_cons_of_mem _ xw_91)) (fun _ h9 => h9) rfl d_Qd_callByPattern_195 ?_
          refine lv_iload hx hb d_Qd_callByPattern_198 (lv_at hl 6 rfl) ?_
          obtain ⟨hin, h⟩ := h
          refine xm_iald hx hb hw 0 (k_oB v_13.2.1 v_13.2.2.1 v_13.2.2.2.1 v_13.2.2.2.2.1 v_13.2.2.2.2.2.1 v_13.2.2.2.2.2.2.1 v_13.2.2.2.2.2.2.2) rfl hin d_Qd_callByPattern_200 ?_
          refine xm_calli (ua := fun _ => ad) (va_runS (As := [.int (orf (Int32.toNatClampNeg v_10.1))]) (rest := [.int v_10.2.2.1]) ⟨hx, hb, hml, hown, hts⟩ (c_Qd_variableBit (D := D) (ad := ad) (CE := ((CE v_13.2.1 v_13.2.2.1 v_13.2.2.2.1 v_13.2.2.2.2.1 v_13.2.2.2.2.2.1 v_13.2.2.2.2.2.2.1 v_13.2.2.2.2.2.2.2)))   h _) (xg_cwS 1 hts xw_394 xw_513 xw_393 xw_1 rfl rfl (by decide +kernel) ⟨Nat.le_of_ble_eq_true rfl, Nat.le_of_ble_eq_true rfl⟩) (xm_pre hw _) rfl rfl hl.1 rfl (lv_room (Nat.le_of_ble_eq_true rfl)) d_Qd_callByPattern_201 ⟨Nat.le_of_ble_eq_true rfl, Nat.le_of_ble_eq_true rfl⟩) hw (fun r_15 _ H locs h hw => ?_)
          refine lv_aload_n hx hb d_Qd_callByPattern_204 rfl (lv_at hl 1 rfl) ?_
          refine xm_get (D := D) (v := .ref (ad ioC)) (C := R_Ru) (T := F_Ru) (N := 4) hx hb hts (fun w h => List.mem_cons_of_mem _ (i_Ru w h)) hown hw (k_oU v_13.2.1 v_13.2.2.1 v_13.2.2.2.1 v_13.2.2.2.2.1 v_13.2.2.2.2.2.1 v_13.2.2.2.2.2.2.1 v_13.2.2.2.2.2.2.2) rfl 2 (by decide) (hts _ (List.mem_cons_of_mem _ xw_94)) (fun _ h9 => h9) rfl d_Qd_callByPattern_205 ?_
          refine lv_iload hx hb d_Qd_callByPattern_208 (lv_at hl 6 rfl) ?_
          obtain ⟨hin, h⟩ := h
          refine xm_iald hx hb hw 0 (k_oC v_13.2.1 v_13.2.2.1 v_13.2.2.2.1 v_13.2.2.2.2.1 v_13.2.2.2.2.2.1 v_13.2.2.2.2.2.2.1 v_13.2.2.2.2.2.2.2) rfl hin d_Qd_callByPattern_210 ?_
          refine xm_calli (ua := fun _ => ad) (va_runS (As := [.int (orc (Int32.toNatClampNeg v_10.1))]) (rest := [.int r_15, .int v_10.2.2.1]) ⟨hx, hb, hml, hown, hts⟩ (c_Qd_variableBit (D := D) (ad := ad) (CE := ((CE v_13.2.1 v_13.2.2.1 v_13.2.2.2.1 v_13.2.2.2.2.1 v_13.2.2.2.2.2.1 v_13.2.2.2.2.2.2.1 v_13.2.2.2.2.2.2.2)))   h _) (xg_cwS 1 hts xw_394 xw_513 xw_393 xw_1 rfl rfl (by decide +kernel) ⟨Nat.le_of_ble_eq_true rfl, Nat.le_of_ble_eq_true rfl⟩) (xm_pre hw _) rfl rfl hl.1 rfl (lv_room (Nat.le_of_ble_eq_true rfl)) d_Qd_callByPattern_211 ⟨Nat.le_of_ble_eq_true rfl, Nat.le_of_ble_eq_true rfl⟩) hw (fun r_17 _ H locs h hw => ?_)
          refine lv_ior hx hb d_Qd_callByPattern_214 ?_
          refine lv_ior hx hb d_Qd_callByPattern_215 ?_
          refine lv_topi (fun x_19 ex_19 => ?_)
          have h := h x_19 ex_19
          refine lv_istore (lv' := [(5, .int x_19), (0, .ref (ad iQ)), (1, .ref (ad ioU)), (3, .int v_1), (4, .int v_3), (6, .int v_13.1), (7, .int v_10.1)]) hx hb d_Qd_callByPattern_216 hl (by decide) rfl (fun ls hl => ?_)
          obtain ⟨x_20, ex_20⟩ : ∃ y : Int32, y = v_10.1 + 1 := ⟨_, rfl⟩
          have h := h x_20 ex_20
          refine lv_iinc (v := x_20) (lv' := [(7, .int x_20), (5, .int x_19), (0, .ref (ad iQ)), (1, .ref (ad ioU)), (3, .int v_1), (4, .int v_3), (6, .int v_13.1)]) hx hb d_Qd_callByPattern_218 hl (k := 6) rfl (by rw [ex_20]; rfl) (by decide) rfl (fun ls hl => ?_)
          refine lv_goto (tgt := 53) hx hb d_Qd_callByPattern_221 (by decide) ?_
          exact hK_11 (x_20, v_13.1, x_19, v_13.2.1, v_13.2.2.1, v_13.2.2.2.1, v_13.2.2.2.2.1, v_13.2.2.2.2.2.1, v_13.2.2.2.2.2.2.1, v_13.2.2.2.2.2.2.2) h _ _ _ hw (lv_sub hl [0, 6, 1, 5, 2, 3, 4] rfl)
        · refine lv_if_eq (tgt := 192) hx hb d_Qd_callByPattern_78 (by decide) (fun hc => ?_) (fun hc => ?_)
          · have h := h.1 hc
            exact hJ_14 (v_10.2.1, v_10.2.2.2.1, v_10.2.2.2.2.1, v_10.2.2.2.2.2.1, v_10.2.2.2.2.2.2.1, v_10.2.2.2.2.2.2.2.1, v_10.2.2.2.2.2.2.2.2.1, v_10.2.2.2.2.2.2.2.2.2) h _ _ _ hw (lv_sub hl [5, 6, 7, 4, 3, 2, 1] rfl)
          · have h := h.2 hc
            refine lv_aload_n hx hb d_Qd_callByPattern_81 rfl (lv_at hl 6 rfl) ?_
            refine xm_get (D := D) (v := .ref (ad ioB)) (C := R_Ru) (T := F_Ru) (N := 4) hx hb hts (fun w h => List.mem_cons_of_mem _ (i_Ru w h)) hown hw (k_oU v_10.2.2.2.1 v_10.2.2.2.2.1 v_10.2.2.2.2.2.1 v_10.2.2.2.2.2.2.1 v_10.2.2.2.2.2.2.2.1 v_10.2.2.2.2.2.2.2.2.1 v_10.2.2.2.2.2.2.2.2.2) rfl 1 (by decide) (hts _ (List.mem_cons_of_mem _ xw_91)) (fun _ h9 => h9) rfl d_Qd_callByPattern_82 ?_
            refine lv_iload hx hb d_Qd_callByPattern_85 (lv_at hl 1 rfl) ?_
            obtain ⟨hin, h⟩ := h
            refine xm_iald hx hb hw 0 (k_oB v_10.2.2.2.1 v_10.2.2.2.2.1 v_10.2.2.2.2.2.1 v_10.2.2.2.2.2.2.1 v_10.2.2.2.2.2.2.2.1 v_10.2.2.2.2.2.2.2.2.1 v_10.2.2.2.2.2.2.2.2.2) rfl hin d_Qd_callByPattern_87 ?_
            refine lv_iload hx hb d_Qd_callByPattern_88 (lv_at hl 3 rfl) ?_
            refine xm_calli (ua := fun _ => ad) (va_runS (As := [.int (orf (Int32.toNatClampNeg v_10.1)), .int v_10.2.2.1]) (rest := []) ⟨hx, hb, hml, hown, hts⟩ (c_Qd_boundOrFree (D := D) (ad := ad) (CE := ((CE v_10.2.2.2.1 v_10.2.2.2.2.1 v_10.2.2.2.2.2.1 v_10.2.2.2.2.2.2.1 v_10.2.2.2.2.2.2.2.1 v_10.2.2.2.2.2.2.2.2.1 v_10.2.2.2.2.2.2.2.2.2)))   h _) (xg_cwS 2 hts xw_512 xw_510 xw_511 xw_1 rfl rfl (by decide +kernel) ⟨Nat.le_of_ble_eq_true rfl, Nat.le_of_ble_eq_true rfl⟩) (xm_pre hw _) rfl rfl hl.1 rfl (lv_room (Nat.le_of_ble_eq_true rfl)) d_Qd_callByPattern_90 ⟨Nat.le_of_ble_eq_true rfl, Nat.le_of_ble_eq_true rfl⟩) hw (fun r_21 _ H locs h hw => ?_)
            refine lv_istore (lv' := [(9, .int r_21), (8, .int x_12), (7, .int v_10.1), (6, .int v_10.2.1), (5, .int v_10.2.2.1), (4, .int v_3), (0, .ref (ad iQ)), (1, .ref (ad ioU)), (3, .int v_1)]) hx hb d_Qd_callByPattern_93 hl (by decide) rfl (fun ls hl => ?_)
            refine lv_aload_n hx hb d_Qd_callByPattern_95 rfl (lv_at hl 7 rfl) ?_
            refine xm_get (D := D) (v := .ref (ad ioC)) (C := R_Ru) (T := F_Ru) (N := 4) hx hb hts (fun w h => List.mem_cons_of_mem _ (i_Ru w h)) hown hw (k_oU v_10.2.2.2.1 v_10.2.2.2.2.1 v_10.2.2.2.2.2.1 v_10.2.2.2.2.2.2.1 v_10.2.2.2.2.2.2.2.1 v_10.2.2.2.2.2.2.2.2.1 v_10.2.2.2.2.2.2.2.2.2) rfl 2 (by decide) (hts _ (List.mem_cons_of_mem _ xw_94)) (fun _ h9 => h9) rfl d_Qd_callByPattern_96 ?_
            refine lv_iload hx hb d_Qd_callByPattern_99 (lv_at hl 2 rfl) ?_
            obtain ⟨hin, h⟩ := h
            refine xm_iald hx hb hw 0 (k_oC v_10.2.2.2.1 v_10.2.2.2.2.1 v_10.2.2.2.2.2.1 v_10.2.2.2.2.2.2.1 v_10.2.2.2.2.2.2.2.1 v_10.2.2.2.2.2.2.2.2.1 v_10.2.2.2.2.2.2.2.2.2) rfl hin d_Qd_callByPattern_101 ?_
            refine lv_iload hx hb d_Qd_callByPattern_102 (lv_at hl 4 rfl) ?_
            refine xm_calli (ua := fun _ => ad) (va_runS (As := [.int (orc (Int32.toNatClampNeg v_10.1)), .int v_10.2.2.1]) (rest := []) ⟨hx, hb, hml, hown, hts⟩ (c_Qd_boundOrFree (D := D) (ad := ad) (CE := ((CE v_10.2.2.2.1 v_10.2.2.2.2.1 v_10.2.2.2.2.2.1 v_10.2.2.2.2.2.2.1 v_10.2.2.2.2.2.2.2.1 v_10.2.2.2.2.2.2.2.2.1 v_10.2.2.2.2.2.2.2.2.2)))   h _) (xg_cwS 2 hts xw_512 xw_510 xw_511 xw_1 rfl rfl (by decide +kernel) ⟨Nat.le_of_ble_eq_true rfl, Nat.le_of_ble_eq_true rfl⟩) (xm_pre hw _) rfl rfl hl.1 rfl (lv_room (Nat.le_of_ble_eq_true rfl)) d_Qd_callByPattern_104 ⟨Nat.le_of_ble_eq_true rfl, Nat.le_of_ble_eq_true rfl⟩) hw (fun r_23 _ H locs h hw => ?_)
            refine lv_istore (lv' := [(10, .int r_23), (9, .int r_21), (8, .int x_12), (7, .int v_10.1), (6, .int v_10.2.1), (5, .int v_10.2.2.1), (4, .int v_3), (0, .ref (ad iQ)), (1, .ref (ad ioU)), (3, .int v_1)]) hx hb d_Qd_callByPattern_107 hl (by decide) rfl (fun ls hl => ?_)
            refine lv_iload hx hb d_Qd_callByPattern_109 (lv_at hl 4 rfl) ?_
            refine lv_aload_n hx hb d_Qd_callByPattern_111 rfl (lv_at hl 7 rfl) ?_
            refine lv_iload hx hb d_Qd_callByPattern_112 (lv_at hl 2 rfl) ?_
            refine lv_iload hx hb d_Qd_callByPattern_114 (lv_at hl 1 rfl) ?_
            refine lv_iload hx hb d_Qd_callByPattern_116 (lv_at hl 0 rfl) ?_
            refine xm_calli (ua := fun _ => ad) (va_runV (As := [.int x_12, .int r_21, .int r_23]) (rest := [.int v_10.2.1]) ⟨hx, hb, hml, hown, hts⟩ (c_Qd_addPattern (D := D) (ad := ad) (CE := (fun qpt => (CE qpt v_10.2.2.2.2.1 v_10.2.2.2.2.2.1 v_10.2.2.2.2.2.2.1 v_10.2.2.2.2.2.2.2.1 v_10.2.2.2.2.2.2.2.2.1 v_10.2.2.2.2.2.2.2.2.2)))  (fun qpt => k_Q qpt v_10.2.2.2.2.1 v_10.2.2.2.2.2.1 v_10.2.2.2.2.2.2.1 v_10.2.2.2.2.2.2.2.1 v_10.2.2.2.2.2.2.2.2.1 v_10.2.2.2.2.2.2.2.2.2) (fun qpt => k_pt qpt v_10.2.2.2.2.1 v_10.2.2.2.2.2.1 v_10.2.2.2.2.2.2.1 v_10.2.2.2.2.2.2.2.1 v_10.2.2.2.2.2.2.2.2.1 v_10.2.2.2.2.2.2.2.2.2) (fun qpt qpt' => u_pt qpt v_10.2.2.2.2.1 v_10.2.2.2.2.2.1 v_10.2.2.2.2.2.2.1 v_10.2.2.2.2.2.2.2.1 v_10.2.2.2.2.2.2.2.2.1 v_10.2.2.2.2.2.2.2.2.2 qpt') h _) (xg_cwV 3 hts xw_517 xw_514 xw_516 xw_p19 xw_1 rfl rfl (by decide +kernel) ⟨Nat.le_of_ble_eq_true rfl, Nat.le_of_ble_eq_true rfl⟩) (xm_preV hw (k_Q v_10.2.2.2.1 v_10.2.2.2.2.1 v_10.2.2.2.2.2.1 v_10.2.2.2.2.2.2.1 v_10.2.2.2.2.2.2.2.1 v_10.2.2.2.2.2.2.2.2.1 v_10.2.2.2.2.2.2.2.2.2) rfl _) rfl rfl hl.1 rfl (lv_room (Nat.le_of_ble_eq_true rfl)) d_Qd_callByPattern_118 ⟨Nat.le_of_ble_eq_true rfl, Nat.le_of_ble_eq_true rfl⟩) hw (fun r_25 u_26 H locs h hw => ?_)
            obtain ⟨qpt_27, eqpt_27⟩ : ∃ z, z = u_26 := ⟨_, rfl⟩
            try dsimp only at h hw
            rw [← eqpt_27] at h hw
            refine lv_ior hx hb d_Qd_callByPattern_121 ?_
            refine lv_topi (fun x_28 ex_28 => ?_)
            have h := h x_28 ex_28
            refine lv_istore (lv' := [(6, .int x_28), (10, .int r_23), (9, .int r_21), (8, .int x_12), (7, .int v_10.1), (5, .int v_10.2.2.1), (4, .int v_3), (0, .ref (ad iQ)), (1, .ref (ad ioU)), (3, .int v_1)]) hx hb d_Qd_callByPattern_122 hl (by decide) rfl (fun ls hl => ?_)
            refine lv_aload_n hx hb d_Qd_callByPattern_124 rfl (lv_at hl 7 rfl) ?_
            refine xm_get (D := D) (v := .ref (ad iU)) (C := R_Qd) (T := F_Qd) (N := 12) hx hb hts (fun w h => List.mem_cons_of_mem _ (i_Qd w h)) hown hw (k_Q qpt_27 v_10.2.2.2.2.1 v_10.2.2.2.2.2.1 v_10.2.2.2.2.2.2.1 v_10.2.2.2.2.2.2.2.1 v_10.2.2.2.2.2.2.2.2.1 v_10.2.2.2.2.2.2.2.2.2) rfl 7 (by decide) (hts _ (List.mem_cons_of_mem _ xw_114)) (fun _ h9 => h9) rfl d_Qd_callByPattern_125 ?_
            refine lv_bipush (v := 10) hx hb d_Qd_callByPattern_128 (by decide) ?_
            refine lv_iload hx hb d_Qd_callByPattern_130 (lv_at hl 3 rfl) ?_
            refine lv_iadd hx hb d_Qd_callByPattern_132 ?_
            refine lv_iload hx hb d_Qd_callByPattern_133 (lv_at hl 2 rfl) ?_
            refine lv_iload hx hb d_Qd_callByPattern_135 (lv_at hl 1 rfl) ?_
            refine xm_callv (ua := fun _ => ad) (va_runV (As := [.int (10 + x_12), .int r_21, .int r_23]) (rest := []) ⟨hx, hb, hml, hown, hts⟩ (c_Ru_begin (D := D) (ad := ad) (CE := (fun rs rf rc na => (CE qpt_27 rs rf rc na v_10.2.2.2.2.2.2.2.2.1 v_10.2.2.2.2.2.2.2.2.2)))  (fun rs rf rc na => k_U qpt_27 rs rf rc na v_10.2.2.2.2.2.2.2.2.1 v_10.2.2.2.2.2.2.2.2.2) (fun rs rf rc na => k_A qpt_27 rs rf rc na v_10.2.2.2.2.2.2.2.2.1 v_10.2.2.2.2.2.2.2.2.2) (fun rs rf rc na => k_B qpt_27 rs rf rc na v_10.2.2.2.2.2.2.2.2.1 v_10.2.2.2.2.2.2.2.2.2) (fun rs rf rc na => k_C qpt_27 rs rf rc na v_10.2.2.2.2.2.2.2.2.1 v_10.2.2.2.2.2.2.2.2.2) (fun rs rf rc na na' => u_U qpt_27 rs rf rc na v_10.2.2.2.2.2.2.2.2.1 v_10.2.2.2.2.2.2.2.2.2 na') (fun rs rf rc na rs' => u_A qpt_27 rs rf rc na v_10.2.2.2.2.2.2.2.2.1 v_10.2.2.2.2.2.2.2.2.2 rs') (fun rs rf rc na rf' => u_B qpt_27 rs rf rc na v_10.2.2.2.2.2.2.2.2.1 v_10.2.2.2.2.2.2.2.2.2 rf') (fun rs rf rc na rc' => u_C qpt_27 rs rf rc na v_10.2.2.2.2.2.2.2.2.1 v_10.2.2.2.2.2.2.2.2.2 rc') h _) (xg_cwV 3 hts xw_343 xw_340 xw_341 xw_342 xw_7 rfl rfl (by decide +kernel) ⟨Nat.le_of_ble_eq_true rfl, Nat.le_of_ble_eq_true rfl⟩) (xm_preV hw (k_U qpt_27 v_10.2.2.2.2.1 v_10.2.2.2.2.2.1 v_10.2.2.2.2.2.2.1 v_10.2.2.2.2.2.2.2.1 v_10.2.2.2.2.2.2.2.2.1 v_10.2.2.2.2.2.2.2.2.2) rfl _) rfl rfl hl.1 rfl (lv_room (Nat.le_of_ble_eq_true rfl)) d_Qd_callByPattern_137 ⟨Nat.le_of_ble_eq_true rfl, Nat.le_of_ble_eq_true rfl⟩) hw (fun u_30 H locs h hw => ?_)
            obtain ⟨rs_31, ers_31⟩ : ∃ z, z = u_30.1 := ⟨_, rfl⟩
            obtain ⟨rf_32, erf_32⟩ : ∃ z, z = u_30.2.1 := ⟨_, rfl⟩
            obtain ⟨rc_33, erc_33⟩ : ∃ z, z = u_30.2.2.1 := ⟨_, rfl⟩
            obtain ⟨na_34, ena_34⟩ : ∃ z, z = u_30.2.2.2 := ⟨_, rfl⟩
            try dsimp only at h hw
            rw [← ers_31, ← erf_32, ← erc_33, ← ena_34] at h hw
            refine lv_aload_n hx hb d_Qd_callByPattern_140 rfl (lv_at hl 7 rfl) ?_
            refine xm_get (D := D) (v := .ref (ad iU)) (C := R_Qd) (T := F_Qd) (N := 12) hx hb hts (fun w h => List.mem_cons_of_mem _ (i_Qd w h)) hown hw (k_Q qpt_27 rs_31 rf_32 rc_33 na_34 v_10.2.2.2.2.2.2.2.2.1 v_10.2.2.2.2.2.2.2.2.2) rfl 7 (by decide) (hts _ (List.mem_cons_of_mem _ xw_114)) (fun _ h9 => h9) rfl d_Qd_callByPattern_141 ?_
            refine lv_bipush (v := 10) hx hb d_Qd_callByPattern_144 (by decide) ?_
            refine lv_aload_n hx hb d_Qd_callByPattern_146 rfl (lv_at hl 8 rfl) ?_
            refine xm_get (D := D) (v := .ref (ad ioA)) (C := R_Ru) (T := F_Ru) (N := 4) hx hb hts (fun w h => List.mem_cons_of_mem _ (i_Ru w h)) hown hw (k_oU qpt_27 rs_31 rf_32 rc_33 na_34 v_10.2.2.2.2.2.2.2.2.1 v_10.2.2.2.2.2.2.2.2.2) rfl 0 (by decide) (hts _ (List.mem_cons_of_mem _ xw_88)) (fun _ h9 => h9) rfl d_Qd_callByPattern_147 ?_
            refine lv_iconst (v := 0) hx hb d_Qd_callByPattern_150 (by decide) ?_
            obtain ⟨hin, h⟩ := h
            refine xm_iald hx hb hw 0 (k_oA qpt_27 rs_31 rf_32 rc_33 na_34 v_10.2.2.2.2.2.2.2.2.1 v_10.2.2.2.2.2.2.2.2.2) rfl hin d_Qd_callByPattern_151 ?_
            refine lv_iadd hx hb d_Qd_callByPattern_152 ?_
            refine lv_iload_n hx hb d_Qd_callByPattern_153 rfl (lv_at hl 9 rfl) ?_
            refine lv_iload hx hb d_Qd_callByPattern_154 (lv_at hl 6 rfl) ?_
            refine xm_callv (ua := fun _ => ad) (va_runV (As := [.int (10 + (ors (Int32.toNatClampNeg 0))), .int v_1, .int v_3]) (rest := []) ⟨hx, hb, hml, hown, hts⟩ (c_Ru_append (D := D) (ad := ad) (CE := (fun rs rf rc na => (CE qpt_27 rs rf rc na v_10.2.2.2.2.2.2.2.2.1 v_10.2.2.2.2.2.2.2.2.2)))  (fun rs rf rc na => k_U qpt_27 rs rf rc na v_10.2.2.2.2.2.2.2.2.1 v_10.2.2.2.2.2.2.2.2.2) (fun rs rf rc na => k_A qpt_27 rs rf rc na v_10.2.2.2.2.2.2.2.2.1 v_10.2.2.2.2.2.2.2.2.2) (fun rs rf rc na => k_B qpt_27 rs rf rc na v_10.2.2.2.2.2.2.2.2.1 v_10.2.2.2.2.2.2.2.2.2) (fun rs rf rc na => k_C qpt_27 rs rf rc na v_10.2.2.2.2.2.2.2.2.1 v_10.2.2.2.2.2.2.2.2.2) (fun rs rf rc na na' => u_U qpt_27 rs rf rc na v_10.2.2.2.2.2.2.2.2.1 v_10.2.2.2.2.2.2.2.2.2 na') (fun rs rf rc na rs' => u_A qpt_27 rs rf rc na v_10.2.2.2.2.2.2.2.2.1 v_10.2.2.2.2.2.2.2.2.2 rs') (fun rs rf rc na rf' => u_B qpt_27 rs rf rc na v_10.2.2.2.2.2.2.2.2.1 v_10.2.2.2.2.2.2.2.2.2 rf') (fun rs rf rc na rc' => u_C qpt_27 rs rf rc na v_10.2.2.2.2.2.2.2.2.1 v_10.2.2.2.2.2.2.2.2.2 rc') h _) (xg_cwV 3 hts xw_375 xw_372 xw_373 xw_374 xw_7 rfl rfl (by decide +kernel) ⟨Nat.le_of_ble_eq_true rfl, Nat.le_of_ble_eq_true rfl⟩) (xm_preV hw (k_U qpt_27 rs_31 rf_32 rc_33 na_34 v_10.2.2.2.2.2.2.2.2.1 v_10.2.2.2.2.2.2.2.2.2) rfl _) rfl rfl hl.1 rfl (lv_room (Nat.le_of_ble_eq_true rfl)) d_Qd_callByPattern_156 ⟨Nat.le_of_ble_eq_true rfl, Nat.le_of_ble_eq_true rfl⟩) hw (fun u_36 H locs h hw => ?_)
            obtain ⟨rs_37, ers_37⟩ : ∃ z, z = u_36.1 := ⟨_, rfl⟩
            obtain ⟨rf_38, erf_38⟩ : ∃ z, z = u_36.2.1 := ⟨_, rfl⟩
            obtain ⟨rc_39, erc_39⟩ : ∃ z, z = u_36.2.2.1 := ⟨_, rfl⟩
            obtain ⟨na_40, ena_40⟩ : ∃ z, z = u_36.2.2.2 := ⟨_, rfl⟩
            try dsimp only at h hw
            rw [← ers_37, ← erf_38, ← erc_39, ← ena_40] at h hw
            refine lv_aload_n hx hb d_Qd_callByPattern_159 rfl (lv_at hl 7 rfl) ?_
            refine xm_get (D := D) (v := .ref (ad iU)) (C := R_Qd) (T := F_Qd) (N := 12) hx hb hts (fun w h => List.mem_cons_of_mem _ (i_Qd w h)) hown hw (k_Q qpt_27 rs_37 rf_38 rc_39 na_40 v_10.2.2.2.2.2.2.2.2.1 v_10.2.2.2.2.2.2.2.2.2) rfl 7 (by decide) (hts _ (List.mem_cons_of_mem _ xw_114)) (fun _ h9 => h9) rfl d_Qd_callByPattern_160 ?_
            refine lv_aload_n hx hb d_Qd_callByPattern_163 rfl (lv_at hl 8 rfl) ?_
            refine lv_iload hx hb d_Qd_callByPattern_164 (lv_at hl 4 rfl) ?_
            refine xm_callv (ua := fun _ => ad) (va_runV (As := [.ref (ad ioU), .int v_10.1]) (rest := []) ⟨hx, hb, hml, hown, hts⟩ (c_Ru_appendBefore (D := D) (ad := ad) (CE := (fun rs rf rc na => (CE qpt_27 rs rf rc na v_10.2.2.2.2.2.2.2.2.1 v_10.2.2.2.2.2.2.2.2.2)))  (fun rs rf rc na => k_U qpt_27 rs rf rc na v_10.2.2.2.2.2.2.2.2.1 v_10.2.2.2.2.2.2.2.2.2) (fun rs rf rc na => k_A qpt_27 rs rf rc na v_10.2.2.2.2.2.2.2.2.1 v_10.2.2.2.2.2.2.2.2.2) (fun rs rf rc na => k_B qpt_27 rs rf rc na v_10.2.2.2.2.2.2.2.2.1 v_10.2.2.2.2.2.2.2.2.2) (fun rs rf rc na => k_C qpt_27 rs rf rc na v_10.2.2.2.2.2.2.2.2.1 v_10.2.2.2.2.2.2.2.2.2) (fun rs rf rc na => k_oU qpt_27 rs rf rc na v_10.2.2.2.2.2.2.2.2.1 v_10.2.2.2.2.2.2.2.2.2) (fun rs rf rc na => k_oA qpt_27 rs rf rc na v_10.2.2.2.2.2.2.2.2.1 v_10.2.2.2.2.2.2.2.2.2) (fun rs rf rc na => k_oB qpt_27 rs rf rc na v_10.2.2.2.2.2.2.2.2.1 v_10.2.2.2.2.2.2.2.2.2) (fun rs rf rc na => k_oC qpt_27 rs rf rc na v_10.2.2.2.2.2.2.2.2.1 v_10.2.2.2.2.2.2.2.2.2) (fun rs rf rc na na' => u_U qpt_27 rs rf rc na v_10.2.2.2.2.2.2.2.2.1 v_10.2.2.2.2.2.2.2.2.2 na') (fun rs rf rc na rs' => u_A qpt_27 rs rf rc na v_10.2.2.2.2.2.2.2.2.1 v_10.2.2.2.2.2.2.2.2.2 rs') (fun rs rf rc na rf' => u_B qpt_27 rs rf rc na v_10.2.2.2.2.2.2.2.2.1 v_10.2.2.2.2.2.2.2.2.2 rf') (fun rs rf rc na rc' => u_C qpt_27 rs rf rc na v_10.2.2.2.2.2.2.2.2.1 v_10.2.2.2.2.2.2.2.2.2 rc') h _) (xg_cwV 2 hts xw_529 xw_526 xw_527 xw_528 xw_7 rfl rfl (by decide +kernel) ⟨Nat.le_of_ble_eq_true rfl, Nat.le_of_ble_eq_true rfl⟩) (xm_preV hw (k_U qpt_27 rs_37 rf_38 rc_39 na_40 v_10.2.2.2.2.2.2.2.2.1 v_10.2.2.2.2.2.2.2.2.2) rfl _) rfl rfl hl.1 rfl (lv_room (Nat.le_of_ble_eq_true rfl)) d_Qd_callByPattern_166 ⟨Nat.le_of_ble_eq_true rfl, Nat.le_of_ble_eq_true rfl⟩) hw (fun u_42 H locs h hw => ?_)
            obtain ⟨rs_43, ers_43⟩ : ∃ z, z = u_42.1 := ⟨_, rfl⟩
            obtain ⟨rf_44, erf_44⟩ : ∃ z, z = u_42.2.1 := ⟨_, rfl⟩
            obtain ⟨rc_45, erc_45⟩ : ∃ z, z = u_42.2.2.1 := ⟨_, rfl⟩
            obtain ⟨na_46, ena_46⟩ : ∃ z, z = u_42.2.2.2 := ⟨_, rfl⟩
            try dsimp only at h hw
            rw [← ers_43, ← erf_44, ← erc_45, ← ena_46] at h hw
            refine lv_aload_n hx hb d_Qd_callByPattern_169 rfl (lv_at hl 7 rfl) ?_
            refine xm_get (D := D) (v := .ref (ad iU)) (C := R_Qd) (T := F_Qd) (N := 12) hx hb hts (fun w h => List.mem_cons_of_mem _ (i_Qd w h)) hown hw (k_Q qpt_27 rs_43 rf_44 rc_45 na_46 v_10.2.2.2.2.2.2.2.2.1 v_10.2.2.2.2.2.2.2.2.2) rfl 7 (by decide) (hts _ (List.mem_cons_of_mem _ xw_114)) (fun _ h9 => h9) rfl d_Qd_callByPattern_170 ?_
            refine xm_callv (ua := fun _ => ad) (va_runV (As := []) (rest := []) ⟨hx, hb, hml, hown, hts⟩ (c_Ru_blankLoneVariables (D := D) (ad := ad) (CE := (fun rf rc => (CE qpt_27 rs_43 rf rc na_46 v_10.2.2.2.2.2.2.2.2.1 v_10.2.2.2.2.2.2.2.2.2)))  (fun rf rc => k_U qpt_27 rs_43 rf rc na_46 v_10.2.2.2.2.2.2.2.2.1 v_10.2.2.2.2.2.2.2.2.2) (fun rf rc => k_A qpt_27 rs_43 rf rc na_46 v_10.2.2.2.2.2.2.2.2.1 v_10.2.2.2.2.2.2.2.2.2) (fun rf rc => k_B qpt_27 rs_43 rf rc na_46 v_10.2.2.2.2.2.2.2.2.1 v_10.2.2.2.2.2.2.2.2.2) (fun rf rc => k_C qpt_27 rs_43 rf rc na_46 v_10.2.2.2.2.2.2.2.2.1 v_10.2.2.2.2.2.2.2.2.2) (fun rf rc rf' => u_B qpt_27 rs_43 rf rc na_46 v_10.2.2.2.2.2.2.2.2.1 v_10.2.2.2.2.2.2.2.2.2 rf') (fun rf rc rc' => u_C qpt_27 rs_43 rf rc na_46 v_10.2.2.2.2.2.2.2.2.1 v_10.2.2.2.2.2.2.2.2.2 rc') h _) (xg_cwV 0 hts xw_401 xw_398 xw_399 xw_400 xw_7 rfl rfl (by decide +kernel) ⟨Nat.le_of_ble_eq_true rfl, Nat.le_of_ble_eq_true rfl⟩) (xm_preV hw (k_U qpt_27 rs_43 rf_44 rc_45 na_46 v_10.2.2.2.2.2.2.2.2.1 v_10.2.2.2.2.2.2.2.2.2) rfl _) rfl rfl hl.1 rfl (lv_room (Nat.le_of_ble_eq_true rfl)) d_Qd_callByPattern_173 ⟨Nat.le_of_ble_eq_true rfl, Nat.le_of_ble_eq_true rfl⟩) hw (fun u_48 H locs h hw => ?_)
            obtain ⟨rf_49, erf_49⟩ : ∃ z, z = u_48.1 := ⟨_, rfl⟩
            obtain ⟨rc_50, erc_50⟩ : ∃ z, z = u_48.2 := ⟨_, rfl⟩
            try dsimp only at h hw
            rw [← erf_49, ← erc_50] at h hw
            refine lv_iload hx hb d_Qd_callByPattern_176 (lv_at hl 0 rfl) ?_
            refine lv_aload_n hx hb d_Qd_callByPattern_178 rfl (lv_at hl 7 rfl) ?_
            refine xm_get (D := D) (v := .ref (ad iM)) (C := R_Qd) (T := F_Qd) (N := 12) hx hb hts (fun w h => List.mem_cons_of_mem _ (i_Qd w h)) hown hw (k_Q qpt_27 rs_43 rf_49 rc_50 na_46 v_10.2.2.2.2.2.2.2.2.1 v_10.2.2.2.2.2.2.2.2.2) rfl 6 (by decide) (hts _ (List.mem_cons_of_mem _ xw_113)) (fun _ h9 => h9) rfl d_Qd_callByPattern_179 ?_
            refine lv_aload_n hx hb d_Qd_callByPattern_182 rfl (lv_at hl 7 rfl) ?_
            refine xm_get (D := D) (v := .ref (ad iU)) (C := R_Qd) (T := F_Qd) (N := 12) hx hb hts (fun w h => List.mem_cons_of_mem _ (i_Qd w h)) hown hw (k_Q qpt_27 rs_43 rf_49 rc_50 na_46 v_10.2.2.2.2.2.2.2.2.1 v_10.2.2.2.2.2.2.2.2.2) rfl 7 (by decide) (hts _ (List.mem_cons_of_mem _ xw_114)) (fun _ h9 => h9) rfl d_Qd_callByPattern_183 ?_
            refine xm_calli (ua := fun _ => ad) (va_runV (As := [.ref (ad iU)]) (rest := [.int x_28]) ⟨hx, hb, hml, hown, hts⟩ (c_Mt_follow (D := D) (ad := ad) (CE := (fun f v => (CE qpt_27 rs_43 rf_49 rc_50 na_46 f v)))  (fun f v => k_M qpt_27 rs_43 rf_49 rc_50 na_46 f v) (fun f v => k_V qpt_27 rs_43 rf_49 rc_50 na_46 f v) (fun f v => k_P qpt_27 rs_43 rf_49 rc_50 na_46 f v) (fun f v => k_R qpt_27 rs_43 rf_49 rc_50 na_46 f v) (fun f v => k_U qpt_27 rs_43 rf_49 rc_50 na_46 f v) (fun f v => k_A qpt_27 rs_43 rf_49 rc_50 na_46 f v) (fun f v => k_B qpt_27 rs_43 rf_49 rc_50 na_46 f v) (fun f v => k_C qpt_27 rs_43 rf_49 rc_50 na_46 f v) (fun f v v' => u_V qpt_27 rs_43 rf_49 rc_50 na_46 f v v') (fun f v f' => u_R qpt_27 rs_43 rf_49 rc_50 na_46 f v f') h _) (xg_cwV 1 hts xw_485 xw_482 xw_483 xw_484 xw_6 rfl rfl (by decide +kernel) ⟨Nat.le_of_ble_eq_true rfl, Nat.le_of_ble_eq_true rfl⟩) (xm_preV hw (k_M qpt_27 rs_43 rf_49 rc_50 na_46 v_10.2.2.2.2.2.2.2.2.1 v_10.2.2.2.2.2.2.2.2.2) rfl _) rfl rfl hl.1 rfl (lv_room (Nat.le_of_ble_eq_true rfl)) d_Qd_callByPattern_186 ⟨Nat.le_of_ble_eq_true rfl, Nat.le_of_ble_eq_true rfl⟩) hw (fun r_51 u_52 H locs h hw => ?_)
            obtain ⟨f_53, ef_53⟩ : ∃ z, z = u_52.1 := ⟨_, rfl⟩
            obtain ⟨v_54, ev_54⟩ : ∃ z, z = u_52.2 := ⟨_, rfl⟩
            try dsimp only at h hw
            rw [← ef_53, ← ev_54] at h hw
            refine lv_ior hx hb d_Qd_callByPattern_189 ?_
            refine lv_topi (fun x_55 ex_55 => ?_)
            have h := h x_55 ex_55
            refine lv_istore (lv' := [(6, .int x_55), (10, .int r_23), (9, .int r_21), (8, .int x_12), (7, .int v_10.1), (5, .int v_10.2.2.1), (4, .int v_3), (0, .ref (ad iQ)), (1, .ref (ad ioU)), (3, .int v_1)]) hx hb d_Qd_callByPattern_190 hl (by decide) rfl (fun ls hl => ?_)
            exact hJ_14 (x_55, qpt_27, rs_43, rf_49, rc_50, na_46, f_53, v_54) h _ _ _ hw (lv_sub hl [7, 8, 9, 6, 5, 0, 4] rfl)
    · refine lv_if_eq (tgt := 32) hx hb d_Qd_callByPattern_20 (by decide) (fun hc => ?_) (fun hc => ?_)
      · have h := h.1 hc
        refine lv_iconst (v := (-1)) hx hb d_Qd_callByPattern_32 (by decide) ?_
        exact hJ_4 (-1) h _ _ _ hw (lv_sub hl [1, 2, 0] rfl)
      · have h := h.2 hc
        refine lv_aload_n hx hb d_Qd_callByPattern_23 rfl (lv_at hl 2 rfl) ?_
        refine xm_get (D := D) (v := .ref (ad ioC)) (C := R_Ru) (T := F_Ru) (N := 4) hx hb hts (fun w h => List.mem_cons_of_mem _ (i_Ru w h)) hown hw (k_oU qpt rs rf rc na f v) rfl 2 (by decide) (hts _ (List.mem_cons_of_mem _ xw_94)) (fun _ h9 => h9) rfl d_Qd_callByPattern_24 ?_
        refine lv_iconst (v := 0) hx hb d_Qd_callByPattern_27 (by decide) ?_
        obtain ⟨hin, h⟩ := h
        refine xm_iald hx hb hw 0 (k_oC qpt rs rf rc na f v) rfl hin d_Qd_callByPattern_28 ?_
        refine lv_goto (tgt := 33) hx hb d_Qd_callByPattern_29 (by decide) ?_
        exact hJ_4 (orc (Int32.toNatClampNeg 0)) h _ _ _ hw (lv_sub hl [1, 2, 0] rfl)
  · refine lv_if_eq (tgt := 15) hx hb d_Qd_callByPattern_3 (by decide) (fun hc => ?_) (fun hc => ?_)
    · have h := h.1 hc
      refine lv_iconst (v := (-1)) hx hb d_Qd_callByPattern_15 (by decide) ?_
      exact hJ_2 (-1) h _ _ _ hw (lv_sub hl [0, 1, 2] rfl)
    · have h := h.2 hc
      refine lv_aload_n hx hb d_Qd_callByPattern_6 rfl (lv_at hl 1 rfl) ?_
      refine xm_get (D := D) (v := .ref (ad ioB)) (C := R_Ru) (T := F_Ru) (N := 4) hx hb hts (fun w h => List.mem_cons_of_mem _ (i_Ru w h)) hown hw (k_oU qpt rs rf rc na f v) rfl 1 (by decide) (hts _ (List.mem_cons_of_mem _ xw_91)) (fun _ h9 => h9) rfl d_Qd_callByPattern_7 ?_
      refine lv_iconst (v := 0) hx hb d_Qd_callByPattern_10 (by decide) ?_
      obtain ⟨hin, h⟩ := h
      refine xm_iald hx hb hw 0 (k_oB qpt rs rf rc na f v) rfl hin d_Qd_callByPattern_11 ?_
      refine lv_goto (tgt := 16) hx hb d_Qd_callByPattern_12 (by decide) ?_
      exact hJ_2 (orf (Int32.toNatClampNeg 0)) h _ _ _ hw (lv_sub hl [0, 1, 2] rfl)
theorem xw_80 : (Jvm.Cond.classLink "QuestionDesk" (48 : Nat) "QuestionDesk$Rule") ∈ xg := xg_t (i := 80) (by decide +kernel) (by decide +kernel)
theorem xw_477 : (Jvm.Cond.code ({ cls := "java/util/ArrayList", name := "get", desc := "(I)Ljava/lang/Object;" } : Jvm.MethodName) prog_21_method_20_code (2 : Nat) (Option.some (Jvm.ClassFile.FieldType.object "java/lang/Object"))) ∈ xg := xg_t (i := 477) (by decide +kernel) (by decide +kernel)
theorem xw_474 : (Jvm.Cond.methodLink "QuestionDesk" (176 : Nat) ({ cls := "java/util/ArrayList", name := "get", desc := "(I)Ljava/lang/Object;" } : Jvm.MethodName)) ∈ xg := xg_t (i := 474) (by decide +kernel) (by decide +kernel)
theorem xw_475 : (Jvm.Cond.instanceMethod ({ cls := "java/util/ArrayList", name := "get", desc := "(I)Ljava/lang/Object;" } : Jvm.MethodName)) ∈ xg := xg_t (i := 475) (by decide +kernel) (by decide +kernel)
theorem xw_476 : (Jvm.Cond.selects "java/util/ArrayList" ({ cls := "java/util/ArrayList", name := "get", desc := "(I)Ljava/lang/Object;" } : Jvm.MethodName) ({ cls := "java/util/ArrayList", name := "get", desc := "(I)Ljava/lang/Object;" } : Jvm.MethodName)) ∈ xg := xg_t (i := 476) (by decide +kernel) (by decide +kernel)
def wp_Qd_findModel (post : (Nat → Int32) → (Nat → Int32) → Prop) (ad : Nat → Nat)  (RV : Nat → Prop) (grs : Nat → Nat → Int32) (grf : Nat → Nat → Int32) (grc : Nat → Nat → Int32) (gna : Nat → Int32) (nE : Nat) (ec : Nat → Option Nat) (sz : Int32) (f : Nat → Int32) (v : Nat → Int32) : Prop :=
xL (fun (K_2 : Int32 × Int32 × (Nat → Int32) × (Nat → Int32) → Prop) (v_1 : Int32 × Int32 × (Nat → Int32) × (Nat → Int32)) =>
xj (fun (v_3 : Unit) =>
post v_1.2.2.1 v_1.2.2.2) (fun (J_4 : Unit → Prop) =>
((v_1.2.1 = 0 →
J_4 ()) ∧ (¬ v_1.2.1 = 0 →
((10000 ≤ v_1.1 →
J_4 ()) ∧ (¬ 10000 ≤ v_1.1 →
xL (fun (K_6 : Int32 × Int32 × (Nat → Int32) × (Nat → Int32) → Prop) (v_5 : Int32 × Int32 × (Nat → Int32) × (Nat → Int32)) =>
wp_Al_size (fun r_7 =>
((r_7 ≤ v_5.1 →
∀ x_9 : Int32, x_9 = v_1.1 + 1 →
K_2 (x_9, v_5.2.1, v_5.2.2.1, v_5.2.2.2)) ∧ (¬ r_7 ≤ v_5.1 →
wp_Al_get (fun ix_12 =>
RV ix_12 ∧
wp_Mt_follow (fun r_13 f_15 v_16 =>
∀ x_17 : Int32, x_17 = v_5.2.1 ||| r_13 →
∀ x_18 : Int32, x_18 = v_5.1 + 1 →
K_6 (x_18, x_17, f_15, v_16)) (grs ix_12) (grf ix_12) (grc ix_12) (gna ix_12) v_5.2.2.1 v_5.2.2.2) ad nE ec sz v_5.1))) sz) (0, 0, v_1.2.2.1, v_1.2.2.2))))))) (0, 1, f, v)
abbrev rm_Qd_findModel : Room := { frames := 10, cells := 0, slots := 0, locals := 260 }
set_option maxHeartbeats 4000000 in
set_option maxRecDepth 100000 in
theorem c_Qd_findModel {l : Launch} {D : va_G} {ad : Nat → Nat} (CE : (Nat → Int32) → (Nat → Int32) → Nat → Option va_E) {cI cZ cJ cO : ClassId} {iQ : Nat} {ipl : Nat} {ibr : Nat} {iL : Nat} {iP : Nat} {iM : Nat} {iU : Nat} {ipt : Nat} {iR : Nat} {iV : Nat} {iE : Nat} {RV : Nat → Prop} {grs : Nat → Nat → Int32} {grf : Nat → Nat → Int32} {grc : Nat → Nat → Int32} {gna : Nat → Int32} {nE : Nat} {ec : Nat → Option Nat} {sz : Int32} {np : Int32} {bg : Value} {rw : Int32} {aq : Int32} {pn : Int32} {mo : Int32} (k_Q : ∀ (f : Nat → Int32) (v : Nat → Int32), (CE f v) iQ = some (.inr (0, [.ref (ad ipl), .ref (ad ibr), .int np, .ref (ad iL), bg, .ref (ad iP), .ref (ad iM), .ref (ad iU), .ref (ad ipt), .int rw, .int aq, .int pn]))) (k_L : ∀ (f : Nat → Int32) (v : Nat → Int32), (CE f v) iL = some (.inr (5, [.ref (ad iE), .int sz, .int mo]))) (k_E : ∀ (f : Nat → Int32) (v : Nat → Int32), (CE f v) iE = some (.inl (cO, nE, .inr (.inr (.inr (.inr ec)))))) (k_P : ∀ (f : Nat → Int32) (v : Nat → Int32), (CE f v) iP = some (.inr (1, [.ref (ad iR)]))) (k_R : ∀ (f : Nat → Int32) (v : Nat → Int32), (CE f v) iR = some (.inl (cI, 341, .inl f))) (k_M : ∀ (f : Nat → Int32) (v : Nat → Int32), (CE f v) iM = some (.inr (2, [.ref (ad iP), .ref (ad iV)]))) (k_V : ∀ (f : Nat → Int32) (v : Nat → Int32), (CE f v) iV = some (.inl (cI, 20, .inl v))) (kf_U : ∀ (f : Nat → Int32) (v : Nat → Int32) (ix : Nat), RV ix → (CE f v) ix = some (.inr (3, [.ref (ad (ix + 1)), .ref (ad (ix + 2)), .ref (ad (ix + 3)), .int (gna ix)]))) (kf_A : ∀ (f : Nat → Int32) (v : Nat → Int32) (ix : Nat), RV ix → (CE f v) (ix + 1) = some (.inl (cI, 4, .inl (grs ix)))) (kf_B : ∀ (f : Nat → Int32) (v : Nat → Int32) (ix : Nat), RV ix → (CE f v) (ix + 2) = some (.inl (cI, 4, .inl (grf ix)))) (kf_C : ∀ (f : Nat → Int32) (v : Nat → Int32) (ix : Nat), RV ix → (CE f v) (ix + 3) = some (.inl (cI, 4, .inl (grc ix)))) (u_R : ∀ (f : Nat → Int32) (v : Nat → Int32) (f' : Nat → Int32), va_up (CE f v) iR (some (.inl (cI, 341, .inl f'))) = (CE f' v)) (u_V : ∀ (f : Nat → Int32) (v : Nat → Int32) (v' : Nat → Int32), va_up (CE f v) iV (some (.inl (cI, 20, .inl v'))) = (CE f v')) {post : (Nat → Int32) → (Nat → Int32) → Prop} {f : Nat → Int32} {v : Nat → Int32} (h : wp_Qd_findModel post ad RV grs grf grc gna nE ec sz f v) : ∀ sz, Met l y_Qd_findModel (Cond.code y_Qd_findModel b_Qd_findModel 4 none :: xg) rm_Qd_findModel (xm_Pc D xcl (xT cI cZ cJ cO) ad (CE f v) sz [.ref (ad iQ)]) (va_Qv (fun u : (Nat → Int32) × (Nat → Int32) => post u.1 u.2) (xm_B D xcl (xT cI cZ cJ cO) (xm_A ad (CE f v) sz) (fun _ => ad) (fun u : (Nat → Int32) × (Nat → Int32) => CE u.1 u.2)) (xm_A ad (CE f v) sz)) 0 0 (xm_A ad (CE f v) sz) := by
  refine xm_ofW (cc := b_Qd_findModel) (maxL := 4) (ret := none) (by decide) rfl (Nat.le_of_ble_eq_true rfl) ?_
  intro p e s m args below meth c ls QQ hQQ hx hb hml hr hown hlk hnm hts hl hw
  have hl : lv_has ls 4 [(0, .ref (ad iQ))] := hl
  unfold wp_Qd_findModel at h
  refine lv_iconst (v := 1) hx hb d_Qd_findModel_0 (by decide) ?_
  refine lv_istore_n (lv' := [(1, .int 1), (0, .ref (ad iQ))]) hx hb d_Qd_findModel_1 rfl hl (by decide) rfl (fun ls hl => ?_)
  refine lv_iconst (v := 0) hx hb d_Qd_findModel_2 (by decide) ?_
  refine lv_istore_n (lv' := [(2, .int 0), (1, .int 1), (0, .ref (ad iQ))]) hx hb d_Qd_findModel_3 rfl hl (by decide) rfl (fun ls hl => ?_)
  refine xL_use h (fun (v_1 : Int32 × Int32 × (Nat → Int32) × (Nat → Int32)) => ∀ (H : Heap) (locs : List Loc) (ls : Array Slot), xm_W D xcl (xT cI cZ cJ cO) (xm_A ad (CE f v) s.heap.size) ad (CE v_1.2.2.1 v_1.2.2.2) s s.heap H locs → lv_has ls 4 [(2, .int v_1.1), (1, .int v_1.2.1), (0, .ref (ad iQ))] → W p l e rm_Qd_findModel s m args below meth c H locs 0 0 QQ (F0 m 4 ls [])) (fun K_2 hK_2 v_1 h H locs ls hw hl => ?_) _ _ _ hw (lv_sub hl [0, 1, 2] rfl)
  refine lv_iload_n hx hb d_Qd_findModel_4 rfl (lv_at hl 1 rfl) ?_
  refine xj_use h (fun (v_3 : Unit) => ∀ (H : Heap) (locs : List Loc) (ls : Array Slot), xm_W D xcl (xT cI cZ cJ cO) (xm_A ad (CE f v) s.heap.size) ad (CE v_1.2.2.1 v_1.2.2.2) s s.heap H locs → lv_has ls 4 [] → W p l e rm_Qd_findModel s m args below meth c H locs 0 0 QQ (F0 m 63 ls [])) (fun v_3 h H locs ls hw hl => ?_) (fun J_4 hJ_4 h => ?_)
  · subst hQQ
    exact xm_vret hx hb hr hlk hw (v_1.2.2.1, v_1.2.2.2) rfl rfl h d_Qd_findModel_63
  · refine lv_if_eq (tgt := 63) hx hb d_Qd_findModel_5 (by decide) (fun hc => ?_) (fun hc => ?_)
    · have h := h.1 hc
      exact hJ_4 () h _ _ _ hw (lv_sub hl [] rfl)
    · have h := h.2 hc
      refine lv_iload_n hx hb d_Qd_findModel_8 rfl (lv_at hl 0 rfl) ?_
      refine lv_sipush (v := 10000) hx hb d_Qd_findModel_9 (by decide) ?_
      refine lv_icmp_ge (tgt := 63) hx hb d_Qd_findModel_12 (by decide) (fun hc => ?_) (fun hc => ?_)
      · have h := h.1 hc
        exact hJ_4 () h _ _ _ hw (lv_sub hl [] rfl)
      · have h := h.2 hc
        refine lv_iconst (v := 0) hx hb d_Qd_findModel_15 (by decide) ?_
        refine lv_istore_n (lv' := [(1, .int 0), (2, .int v_1.1), (0, .ref (ad iQ))]) hx hb d_Qd_findModel_16 rfl hl (by decide) rfl (fun ls hl => ?_)
        refine lv_iconst (v := 0) hx hb d_Qd_findModel_17 (by decide) ?_
        refine lv_istore_n (lv' := [(3, .int 0), (1, .int 0), (2, .int v_1.1), (0, .ref (ad iQ))]) hx hb d_Qd_findModel_18 rfl hl (by decide) rfl (fun ls hl => ?_)
        refine xL_use h (fun (v_5 : Int32 × Int32 × (Nat → Int32) × (Nat → Int32)) => ∀ (H : Heap) (locs : List Loc) (ls : Array Slot), xm_W D xcl (xT cI cZ cJ cO) (xm_A ad (CE f v) s.heap.size) ad (CE v_5.2.2.1 v_5.2.2.2) s s.heap H locs → lv_has ls 4 [(3, .int v_5.1), (1, .int v_5.2.1), (2, .int v_1.1), (0, .ref (ad iQ))] → W p l e rm_Qd_findModel s m args below meth c H locs 0 0 QQ (F0 m 19 ls [])) (fun K_6 hK_6 v_5 h H locs ls hw hl => ?_) _ _ _ hw (lv_sub hl [0, 1, 2, 3] rfl)
        refine lv_iload_n hx hb d_Qd_findModel_19 rfl (lv_at hl 0 rfl) ?_
        refine lv_aload_n hx hb d_Qd_findModel_20 rfl (lv_at hl 3 rfl) ?_
        refine xm_get (D := D) (v := .ref (ad iL)) (C := R_Qd) (T := F_Qd) (N := 12) hx hb hts (fun w h => List.mem_cons_of_mem _ (i_Qd w h)) hown hw (k_Q v_5.2.2.1 v_5.2.2.2) rfl 3 (by decide) (hts _ (List.mem_cons_of_mem _ xw_110)) (fun _ h9 => h9) rfl d_Qd_findModel_21 ?_
        refine xm_calli (ua := fun _ => ad) (va_runV (As := []) (rest := [.int v_5.1]) ⟨hx, hb, hml, hown, hts⟩ (c_Al_size (D := D) (ad := ad) (CE := ((CE v_5.2.2.1 v_5.2.2.2)))  (k_L v_5.2.2.1 v_5.2.2.2) h _) (xg_cwV 0 hts xw_151 xw_148 xw_149 xw_150 xw_4 rfl rfl (by decide +kernel) ⟨Nat.le_of_ble_eq_true rfl, Nat.le_of_ble_eq_true rfl⟩) (xm_preV hw (k_L v_5.2.2.1 v_5.2.2.2) rfl _) rfl rfl hl.1 rfl (lv_room (Nat.le_of_ble_eq_true rfl)) d_Qd_findModel_24 ⟨Nat.le_of_ble_eq_true rfl, Nat.le_of_ble_eq_true rfl⟩) hw (fun r_7 _ H locs h hw => ?_)
        refine lv_icmp_ge (tgt := 57) hx hb d_Qd_findModel_27 (by decide) (fun hc => ?_) (fun hc => ?_)
        · have h := h.1 hc
          obtain ⟨x_9, ex_9⟩ : ∃ y : Int32, y = v_1.1 + 1 := ⟨_, rfl⟩
          have h := h x_9 ex_9
          refine lv_iinc (v := x_9) (lv' := [(2, .int x_9), (3, .int v_5.1), (1, .int v_5.2.1), (0, .ref (ad iQ))]) hx hb d_Qd_findModel_57 hl (k := 2) rfl (by rw [ex_9]; rfl) (by decide) rfl (fun ls hl => ?_)
          refine lv_goto (tgt := 4) hx hb d_Qd_findModel_60 (by decide) ?_
          exact hK_2 (x_9, v_5.2.1, v_5.2.2.1, v_5.2.2.2) h _ _ _ hw (lv_sub hl [0, 2, 3] rfl)
        · have h := h.2 hc
          refine lv_iload_n hx hb d_Qd_findModel_30 rfl (lv_at hl 1 rfl) ?_
          refine lv_aload_n hx hb d_Qd_findModel_31 rfl (lv_at hl 3 rfl) ?_
          refine xm_get (D := D) (v := .ref (ad iM)) (C := R_Qd) (T := F_Qd) (N := 12) hx hb hts (fun w h => List.mem_cons_of_mem _ (i_Qd w h)) hown hw (k_Q v_5.2.2.1 v_5.2.2.2) rfl 6 (by decide) (hts _ (List.mem_cons_of_mem _ xw_113)) (fun _ h9 => h9) rfl d_Qd_findModel_32 ?_
          refine lv_aload_n hx hb d_Qd_findModel_35 rfl (lv_at hl 3 rfl) ?_
          refine xm_get (D := D) (v := .ref (ad iL)) (C := R_Qd) (T := F_Qd) (N := 12) hx hb hts (fun w h => List.mem_cons_of_mem _ (i_Qd w h)) hown hw (k_Q v_5.2.2.1 v_5.2.2.2) rfl 3 (by decide) (hts _ (List.mem_cons_of_mem _ xw_110)) (fun _ h9 => h9) rfl d_Qd_findModel_36 ?_
          refine lv_iload_n hx hb d_Qd_findModel_39 rfl (lv_at hl 0 rfl) ?_
          refine xm_callr (ua := fun _ => ad) (va_runV (As := [.int v_5.1]) (rest := [.ref (ad iM), .int v_5.2.1]) ⟨hx, hb, hml, hown, hts⟩ (c_Al_get (D := D) (ad := ad) (CE := ((CE v_5.2.2.1 v_5.2.2.2)))  (k_L v_5.2.2.1 v_5.2.2.2) (k_E v_5.2.2.1 v_5.2.2.2) h _) (xg_cwV 1 hts xw_477 xw_474 xw_475 xw_476 xw_4 rfl rfl (by decide +kernel) ⟨Nat.le_of_ble_eq_true rfl, Nat.le_of_ble_eq_true rfl⟩) (xm_preV hw (k_L v_5.2.2.1 v_5.2.2.2) rfl _) rfl rfl hl.1 rfl (lv_room (Nat.le_of_ble_eq_true rfl)) d_Qd_findModel_40 ⟨Nat.le_of_ble_eq_true rfl, Nat.le_of_ble_eq_true rfl⟩) hw (fun u_11 H locs h hw => ?_)
          obtain ⟨ix_12, eix_12⟩ : ∃ z, z = u_11 := ⟨_, rfl⟩
          try dsimp only at h hw
          rw [← eix_12] at h
          try dsimp only
          rw [← eix_12]
          obtain ⟨hix_12, h⟩ := h
          refine xm_cast hx hb hown (hts _ (List.mem_cons_of_mem _ xw_80)) hw (kf_U v_5.2.2.1 v_5.2.2.2 ix_12 hix_12) rfl d_Qd_findModel_43 ?_
          refine xm_calli (ua := fun _ => ad) (va_runV (As := [.ref (ad ix_12)]) (rest := [.int v_5.2.1]) ⟨hx, hb, hml, hown, hts⟩ (c_Mt_follow (D := D) (ad := ad) (CE := (fun f v => (CE f v)))  (fun f v => k_M f v) (fun f v => k_V f v) (fun f v => k_P f v) (fun f v => k_R f v) (fun f v => kf_U f v ix_12 hix_12) (fun f v => kf_A f v ix_12 hix_12) (fun f v => kf_B f v ix_12 hix_12) (fun f v => kf_C f v ix_12 hix_12) (fun f v v' => u_V f v v') (fun f v f' => u_R f v f') h _) (xg_cwV 1 hts xw_485 xw_482 xw_483 xw_484 xw_6 rfl rfl (by decide +kernel) ⟨Nat.le_of_ble_eq_true rfl, Nat.le_of_ble_eq_true rfl⟩) (xm_preV hw (k_M v_5.2.2.1 v_5.2.2.2) rfl _) rfl rfl hl.1 rfl (lv_room (Nat.le_of_ble_eq_true rfl)) d_Qd_findModel_46 ⟨Nat.le_of_ble_eq_true rfl, Nat.le_of_ble_eq_true rfl⟩) hw (fun r_13 u_14 H locs h hw => ?_)
          obtain ⟨f_15, ef_15⟩ : ∃ z, z = u_14.1 := ⟨_, rfl⟩
          obtain ⟨v_16, ev_16⟩ : ∃ z, z = u_14.2 := ⟨_, rfl⟩
          try dsimp only at h hw
          rw [← ef_15, ← ev_16] at h hw
          refine lv_ior hx hb d_Qd_findModel_49 ?_
          refine lv_topi (fun x_17 ex_17 => ?_)
          have h := h x_17 ex_17
          refine lv_istore_n (lv' := [(1, .int x_17), (3, .int v_5.1), (2, .int v_1.1), (0, .ref (ad iQ))]) hx hb d_Qd_findModel_50 rfl hl (by decide) rfl (fun ls hl => ?_)
          obtain ⟨x_18, ex_18⟩ : ∃ y : Int32, y = v_5.1 + 1 := ⟨_, rfl⟩
          have h := h x_18 ex_18
          refine lv_iinc (v := x_18) (lv' := [(3, .int x_18), (1, .int x_17), (2, .int v_1.1), (0, .ref (ad iQ))]) hx hb d_Qd_findModel_51 hl (k := 1) rfl (by rw [ex_18]; rfl) (by decide) rfl (fun ls hl => ?_)
          refine lv_goto (tgt := 19) hx hb d_Qd_findModel_54 (by decide) ?_
          exact hK_6 (x_18, x_17, f_15, v_16) h _ _ _ hw (lv_sub hl [0, 1, 2, 3] rfl)
theorem xw_525 : (Jvm.Cond.code ({ cls := "QuestionDesk", name := "callByPattern", desc := "(LQuestionDesk$Rule;I)Z" } : Jvm.MethodName) prog_1_method_23_code (11 : Nat) (Option.some Jvm.ClassFile.FieldType.boolean)) ∈ xg := xg_t (i := 525) (by decide +kernel) (by decide +kernel)
theorem xw_522 : (Jvm.Cond.methodLink "QuestionDesk" (192 : Nat) ({ cls := "QuestionDesk", name := "callByPattern", desc := "(LQuestionDesk$Rule;I)Z" } : Jvm.MethodName)) ∈ xg := xg_t (i := 522) (by decide +kernel) (by decide +kernel)
theorem xw_524 : (Jvm.Cond.instanceMethod ({ cls := "QuestionDesk", name := "callByPattern", desc := "(LQuestionDesk$Rule;I)Z" } : Jvm.MethodName)) ∈ xg := xg_t (i := 524) (by decide +kernel) (by decide +kernel)
theorem xw_p21 : Cond.selects "QuestionDesk" ⟨"QuestionDesk", "callByPattern", "(LQuestionDesk$Rule;I)Z"⟩ ⟨"QuestionDesk", "callByPattern", "(LQuestionDesk$Rule;I)Z"⟩ ∈ xg := xg_p (q := (⟨"QuestionDesk", "callByPattern", "(LQuestionDesk$Rule;I)Z"⟩, 12)) (i := 21) (by decide +kernel) (by decide +kernel)
def wp_Qd_spreadCalls (post : (Nat → Int32) → (Nat → Int32) → (Nat → Int32) → (Nat → Int32) → Int32 → (Nat → Int32) → (Nat → Int32) → Prop) (ad : Nat → Nat)  (RV : Nat → Prop) (grs : Nat → Nat → Int32) (grf : Nat → Nat → Int32) (grc : Nat → Nat → Int32) (gna : Nat → Int32) (nE : Nat) (ec : Nat → Option Nat) (sz : Int32) (qbr : Nat → Int32) (qpt : Nat → Int32) (rs : Nat → Int32) (rf : Nat → Int32) (rc : Nat → Int32) (na : Int32) (f : Nat → Int32) (v : Nat → Int32) : Prop :=
xL (fun (K_2 : Int32 × Int32 × (Nat → Int32) × (Nat → Int32) × (Nat → Int32) × (Nat → Int32) × Int32 × (Nat → Int32) × (Nat → Int32) → Prop) (v_1 : Int32 × Int32 × (Nat → Int32) × (Nat → Int32) × (Nat → Int32) × (Nat → Int32) × Int32 × (Nat → Int32) × (Nat → Int32)) =>
xj (fun (v_3 : Unit) =>
post v_1.2.2.1 v_1.2.2.2.1 v_1.2.2.2.2.1 v_1.2.2.2.2.2.1 v_1.2.2.2.2.2.2.1 v_1.2.2.2.2.2.2.2.1 v_1.2.2.2.2.2.2.2.2) (fun (J_4 : Unit → Prop) =>
((v_1.2.1 = 0 →
J_4 ()) ∧ (¬ v_1.2.1 = 0 →
((10000 ≤ v_1.1 →
J_4 ()) ∧ (¬ 10000 ≤ v_1.1 →
xL (fun (K_6 : Int32 × Int32 × (Nat → Int32) × (Nat → Int32) × (Nat → Int32) × (Nat → Int32) × Int32 × (Nat → Int32) × (Nat → Int32) → Prop) (v_5 : Int32 × Int32 × (Nat → Int32) × (Nat → Int32) × (Nat → Int32) × (Nat → Int32) × Int32 × (Nat → Int32) × (Nat → Int32)) =>
wp_Al_size (fun r_7 =>
((r_7 ≤ v_5.1 →
∀ x_9 : Int32, x_9 = v_1.1 + 1 →
K_2 (x_9, v_5.2.1, v_5.2.2.1, v_5.2.2.2.1, v_5.2.2.2.2.1, v_5.2.2.2.2.2.1, v_5.2.2.2.2.2.2.1, v_5.2.2.2.2.2.2.2.1, v_5.2.2.2.2.2.2.2.2)) ∧ (¬ r_7 ≤ v_5.1 →
wp_Al_get (fun ix_12 =>
RV ix_12 ∧
xL (fun (K_14 : Int32 × Int32 × (Nat → Int32) × (Nat → Int32) × (Nat → Int32) × (Nat → Int32) × Int32 × (Nat → Int32) × (Nat → Int32) → Prop) (v_13 : Int32 × Int32 × (Nat → Int32) × (Nat → Int32) × (Nat → Int32) × (Nat → Int32) × Int32 × (Nat → Int32) × (Nat → Int32)) =>
((4 ≤ v_13.1 →
∀ x_15 : Int32, x_15 = v_5.1 + 1 →
K_6 (x_15, v_13.2.1, v_13.2.2.1, v_13.2.2.2.1, v_13.2.2.2.2.1, v_13.2.2.2.2.2.1, v_13.2.2.2.2.2.2.1, v_13.2.2.2.2.2.2.2.1, v_13.2.2.2.2.2.2.2.2)) ∧ (¬ 4 ≤ v_13.1 →
vp_in 0 4 ∧
vp_in ((grs ix_12) (Int32.toNatClampNeg 0)) 10 ∧
xj (fun (v_16 : Int32 × (Nat → Int32) × (Nat → Int32) × (Nat → Int32) × (Nat → Int32) × Int32 × (Nat → Int32) × (Nat → Int32)) =>
∀ x_18 : Int32, x_18 = v_13.1 + 1 →
K_14 (x_18, v_16.1, v_16.2.1, v_16.2.2.1, v_16.2.2.2.1, v_16.2.2.2.2.1, v_16.2.2.2.2.2.1, v_16.2.2.2.2.2.2.1, v_16.2.2.2.2.2.2.2)) (fun (J_17 : Int32 × (Nat → Int32) × (Nat → Int32) × (Nat → Int32) × (Nat → Int32) × Int32 × (Nat → Int32) × (Nat → Int32) → Prop) =>
(((((v_13.2.2.1 (Int32.toNatClampNeg ((grs ix_12) (Int32.toNatClampNeg 0)))) >>> (v_13.1 &&& 31)) &&& 1) = 0 →
J_17 (v_13.2.1, v_13.2.2.1, v_13.2.2.2.1, v_13.2.2.2.2.1, v_13.2.2.2.2.2.1, v_13.2.2.2.2.2.2.1, v_13.2.2.2.2.2.2.2.1, v_13.2.2.2.2.2.2.2.2)) ∧ (¬ (((v_13.2.2.1 (Int32.toNatClampNeg ((grs ix_12) (Int32.toNatClampNeg 0)))) >>> (v_13.1 &&& 31)) &&& 1) = 0 →
wp_Qd_callByPattern (fun r_19 qpt_21 rs_22 rf_23 rc_24 na_25 f_26 v_27 =>
∀ x_28 : Int32, x_28 = v_13.2.1 ||| r_19 →
J_17 (x_28, qpt_21, rs_22, rf_23, rc_24, na_25, f_26, v_27)) qbr (grs ix_12) (grf ix_12) (grc ix_12) (gna ix_12) v_13.2.2.1 v_13.2.2.2.1 v_13.2.2.2.2.1 v_13.2.2.2.2.2.1 v_13.2.2.2.2.2.2.1 v_13.2.2.2.2.2.2.2.1 v_13.2.2.2.2.2.2.2.2 v_13.1)))))) (0, v_5.2.1, v_5.2.2.1, v_5.2.2.2.1, v_5.2.2.2.2.1, v_5.2.2.2.2.2.1, v_5.2.2.2.2.2.2.1, v_5.2.2.2.2.2.2.2.1, v_5.2.2.2.2.2.2.2.2)) ad nE ec sz v_5.1))) sz) (0, 0, v_1.2.2.1, v_1.2.2.2.1, v_1.2.2.2.2.1, v_1.2.2.2.2.2.1, v_1.2.2.2.2.2.2.1, v_1.2.2.2.2.2.2.2.1, v_1.2.2.2.2.2.2.2.2))))))) (0, 1, qpt, rs, rf, rc, na, f, v)
abbrev rm_Qd_spreadCalls : Room := { frames := 11, cells := 0, slots := 0, locals := 290 }
set_option maxHeartbeats 4000000 in
set_option maxRecDepth 100000 in
theorem c_Qd_spreadCalls {l : Launch} {D : va_G} {ad : Nat → Nat} (CE : (Nat → Int32) → (Nat → Int32) → (Nat → Int32) → (Nat → Int32) → Int32 → (Nat → Int32) → (Nat → Int32) → Nat → Option va_E) {cI cZ cJ cO : ClassId} {iQ : Nat} {ipl : Nat} {ibr : Nat} {iL : Nat} {iP : Nat} {iM : Nat} {iU : Nat} {ipt : Nat} {iR : Nat} {iV : Nat} {iA : Nat} {iB : Nat} {iC : Nat} {iE : Nat} {RV : Nat → Prop} {grs : Nat → Nat → Int32} {grf : Nat → Nat → Int32} {grc : Nat → Nat → Int32} {gna : Nat → Int32} {nE : Nat} {ec : Nat → Option Nat} {sz : Int32} {qbr : Nat → Int32} {np : Int32} {bg : Value} {rw : Int32} {aq : Int32} {pn : Int32} {mo : Int32} (k_Q : ∀ (qpt : Nat → Int32) (rs : Nat → Int32) (rf : Nat → Int32) (rc : Nat → Int32) (na : Int32) (f : Nat → Int32) (v : Nat → Int32), (CE qpt rs rf rc na f v) iQ = some (.inr (0, [.ref (ad ipl), .ref (ad ibr), .int np, .ref (ad iL), bg, .ref (ad iP), .ref (ad iM), .ref (ad iU), .ref (ad ipt), .int rw, .int aq, .int pn]))) (k_br : ∀ (qpt : Nat → Int32) (rs : Nat → Int32) (rf : Nat → Int32) (rc : Nat → Int32) (na : Int32) (f : Nat → Int32) (v : Nat → Int32), (CE qpt rs rf rc na f v) ibr = some (.inl (cZ, 10, .inl qbr))) (k_pt : ∀ (qpt : Nat → Int32) (rs : Nat → Int32) (rf : Nat → Int32) (rc : Nat → Int32) (na : Int32) (f : Nat → Int32) (v : Nat → Int32), (CE qpt rs rf rc na f v) ipt = some (.inl (cI, 10, .inl qpt))) (k_L : ∀ (qpt : Nat → Int32) (rs : Nat → Int32) (rf : Nat → Int32) (rc : Nat → Int32) (na : Int32) (f : Nat → Int32) (v : Nat → Int32), (CE qpt rs rf rc na f v) iL = some (.inr (5, [.ref (ad iE), .int sz, .int mo]))) (k_E : ∀ (qpt : Nat → Int32) (rs : Nat → Int32) (rf : Nat → Int32) (rc : Nat → Int32) (na : Int32) (f : Nat → Int32) (v : Nat → Int32), (CE qpt rs rf rc na f v) iE = some (.inl (cO, nE, .inr (.inr (.inr (.inr ec)))))) (k_P : ∀ (qpt : Nat → Int32) (rs : Nat → Int32) (rf : Nat → Int32) (rc : Nat → Int32) (na : Int32) (f : Nat → Int32) (v : Nat → Int32), (CE qpt rs rf rc na f v) iP = some (.inr (1, [.ref (ad iR)]))) (k_R : ∀ (qpt : Nat → Int32) (rs : Nat → Int32) (rf : Nat → Int32) (rc : Nat → Int32) (na : Int32) (f : Nat → Int32) (v : Nat → Int32), (CE qpt rs rf rc na f v) iR = some (.inl (cI, 341, .inl f))) (k_M : ∀ (qpt : Nat → Int32) (rs : Nat → Int32) (rf : Nat → Int32) (rc : Nat → Int32) (na : Int32) (f : Nat → Int32) (v : Nat → Int32), (CE qpt rs rf rc na f v) iM = some (.inr (2, [.ref (ad iP), .ref (ad iV)]))) (k_V : ∀ (qpt : Nat → Int32) (rs : Nat → Int32) (rf : Nat → Int32) (rc : Nat → Int32) (na : Int32) (f : Nat → Int32) (v : Nat → Int32), (CE qpt rs rf rc na f v) iV = some (.inl (cI, 20, .inl v))) (k_U : ∀ (qpt : Nat → Int32) (rs : Nat → Int32) (rf : Nat → Int32) (rc : Nat → Int32) (na : Int32) (f : Nat → Int32) (v : Nat → Int32), (CE qpt rs rf rc na f v) iU = some (.inr (3, [.ref (ad iA), .ref (ad iB), .ref (ad iC), .int na]))) (k_A : ∀ (qpt : Nat → Int32) (rs : Nat → Int32) (rf : Nat → Int32) (rc : Nat → Int32) (na : Int32) (f : Nat → Int32) (v : Nat → Int32), (CE qpt rs rf rc na f v) iA = some (.inl (cI, 4, .inl rs))) (k_B : ∀ (qpt : Nat → Int32) (rs : Nat → Int32) (rf : Nat → Int32) (rc : Nat → Int32) (na : Int32) (f : Nat → Int32) (v : Nat → Int32), (CE qpt rs rf rc na f v) iB = some (.inl (cI, 4, .inl rf))) (k_C : ∀ (qpt : Nat → Int32) (rs : Nat → Int32) (rf : Nat → Int32) (rc : Nat → Int32) (na : Int32) (f : Nat → Int32) (v : Nat → Int32), (CE qpt rs rf rc na f v) iC = some (.inl (cI, 4, .inl rc))) (kf_U : ∀ (qpt : Nat → Int32) (rs : Nat → Int32) (rf : Nat → Int32) (rc : Nat → Int32) (na : Int32) (f : Nat → Int32) (v : Nat → Int32) (ix : Nat), RV ix → (CE qpt rs rf rc na f v) ix = some (.inr (3, [.ref (ad (ix + 1)), .ref (ad (ix + 2)), .ref (ad (ix + 3)), .int (gna ix)]))) (kf_A : ∀ (qpt : Nat → Int32) (rs : Nat → Int32) (rf : Nat → Int32) (rc : Nat → Int32) (na : Int32) (f : Nat → Int32) (v : Nat → Int32) (ix : Nat), RV ix → (CE qpt rs rf rc na f v) (ix + 1) = some (.inl (cI, 4, .inl (grs ix)))) (kf_B : ∀ (qpt : Nat → Int32) (rs : Nat → Int32) (rf : Nat → Int32) (rc : Nat → Int32) (na : Int32) (f : Nat → Int32) (v : Nat → Int32) (ix : Nat), RV ix → (CE qpt rs rf rc na f v) (ix + 2) = some (.inl (cI, 4, .inl (grf ix)))) (kf_C : ∀ (qpt : Nat → Int32) (rs : Nat → Int32) (rf : Nat → Int32) (rc : Nat → Int32) (na : Int32) (f : Nat → Int32) (v : Nat → Int32) (ix : Nat), RV ix → (CE qpt rs rf rc na f v) (ix + 3) = some (.inl (cI, 4, .inl (grc ix)))) (u_pt : ∀ (qpt : Nat → Int32) (rs : Nat → Int32) (rf : Nat → Int32) (rc : Nat → Int32) (na : Int32) (f : Nat → Int32) (v : Nat → Int32) (qpt' : Nat → Int32), va_up (CE qpt rs rf rc na f v) ipt (some (.inl (cI, 10, .inl qpt'))) = (CE qpt' rs rf rc na f v)) (u_R : ∀ (qpt : Nat → Int32) (rs : Nat → Int32) (rf : Nat → Int32) (rc : Nat → Int32) (na : Int32) (f : Nat → Int32) (v : Nat → Int32) (f' : Nat → Int32), va_up (CE qpt rs rf rc na f v) iR (some (.inl (cI, 341, .inl f'))) = (CE qpt rs rf rc na f' v)) (u_V : ∀ (qpt : Nat → Int32) (rs : Nat → Int32) (rf : Nat → Int32) (rc : Nat → Int32) (na : Int32) (f : Nat → Int32) (v : Nat → Int32) (v' : Nat → Int32), va_up (CE qpt rs rf rc na f v) iV (some (.inl (cI, 20, .inl v'))) = (CE qpt rs rf rc na f v')) (u_U : ∀ (qpt : Nat → Int32) (rs : Nat → Int32) (rf : Nat → Int32) (rc : Nat → Int32) (na : Int32) (f : Nat → Int32) (v : Nat → Int32) (na' : Int32), va_up (CE qpt rs rf rc na f v) iU (some (.inr (3, [.ref (ad iA), .ref (ad iB), .ref (ad iC), .int na']))) = (CE qpt rs rf rc na' f v)) (u_A : ∀ (qpt : Nat → Int32) (rs : Nat → Int32) (rf : Nat → Int32) (rc : Nat → Int32) (na : Int32) (f : Nat → Int32) (v : Nat → Int32) (rs' : Nat → Int32), va_up (CE qpt rs rf rc na f v) iA (some (.inl (cI, 4, .inl rs'))) = (CE qpt rs' rf rc na f v)) (u_B : ∀ (qpt : Nat → Int32) (rs : Nat → Int32) (rf : Nat → Int32) (rc : Nat → Int32) (na : Int32) (f : Nat → Int32) (v : Nat → Int32) (rf' : Nat → Int32), va_up (CE qpt rs rf rc na f v) iB (some (.inl (cI, 4, .inl rf'))) = (CE qpt rs rf' rc na f v)) (u_C : ∀ (qpt : Nat → Int32) (rs : Nat → Int32) (rf : Nat → Int32) (rc : Nat → Int32) (na : Int32) (f : Nat → Int32) (v : Nat → Int32) (rc' : Nat → Int32), va_up (CE qpt rs rf rc na f v) iC (some (.inl (cI, 4, .inl rc'))) = (CE qpt rs rf rc' na f v)) {post : (Nat → Int32) → (Nat → Int32) → (Nat → Int32) → (Nat → Int32) → Int32 → (Nat → Int32) → (Nat → Int32) → Prop} {qpt : Nat → Int32} {rs : Nat → Int32} {rf : Nat → Int32} {rc : Nat → Int32} {na : Int32} {f : Nat → Int32} {v : Nat → Int32} (h : wp_Qd_spreadCalls post ad RV grs grf grc gna nE ec sz qbr qpt rs rf rc na f v) : ∀ sz, Met l y_Qd_spreadCalls (Cond.code y_Qd_spreadCalls b_Qd_spreadCalls 6 none :: xg) rm_Qd_spreadCalls (xm_Pc D xcl (xT cI cZ cJ cO) ad (CE qpt rs rf rc na f v) sz [.ref (ad iQ)]) (va_Qv (fun u : (Nat → Int32) × (Nat → Int32) × (Nat → Int32) × (Nat → Int32) × Int32 × (Nat → Int32) × (Nat → Int32) => post u.1 u.2.1 u.2.2.1 u.2.2.2.1 u.2.2.2.2.1 u.2.2.2.2.2.1 u.2.2.2.2.2.2) (xm_B D xcl (xT cI cZ cJ cO) (xm_A ad (CE qpt rs rf rc na f v) sz) (fun _ => ad) (fun u : (Nat → Int32) × (Nat → Int32) × (Nat → Int32) × (Nat → Int32) × Int32 × (Nat → Int32) × (Nat → Int32) => CE u.1 u.2.1 u.2.2.1 u.2.2.2.1 u.2.2.2.2.1 u.2.2.2.2.2.1 u.2.2.2.2.2.2)) (xm_A ad (CE qpt rs rf rc na f v) sz)) 0 0 (xm_A ad (CE qpt rs rf rc na f v) sz) := by
  refine xm_ofW (cc := b_Qd_spreadCalls) (maxL := 6) (ret := none) (by decide) rfl (Nat.le_of_ble_eq_true rfl) ?_
  intro p e s m args below meth c ls QQ hQQ hx hb hml hr hown hlk hnm hts hl hw
  have hl : lv_has ls 6 [(0, .ref (ad iQ))] := hl
  unfold wp_Qd_spreadCalls at h
  refine lv_iconst (v := 1) hx hb d_Qd_spreadCalls_0 (by decide) ?_
  refine lv_istore_n (lv' := [(1, .int 1), (0, .ref (ad iQ))]) hx hb d_Qd_spreadCalls_1 rfl hl (by decide) rfl (fun ls hl => ?_)
  refine lv_iconst (v := 0) hx hb d_Qd_spreadCalls_2 (by decide) ?_
  refine lv_istore_n (lv' := [(2, .int 0), (1, .int 1), (0, .ref (ad iQ))]) hx hb d_Qd_spreadCalls_3 rfl hl (by decide) rfl (fun ls hl => ?_)
  refine xL_use h (fun (v_1 : Int32 × Int32 × (Nat → Int32) × (Nat → Int32) × (Nat → Int32) × (Nat → Int32) × Int32 × (Nat → Int32) × (Nat → Int32)) => ∀ (H : Heap) (locs : List Loc) (ls : Array Slot), xm_W D xcl (xT cI cZ cJ cO) (xm_A ad (CE qpt rs rf rc na f v) s.heap.size) ad (CE v_1.2.2.1 v_1.2.2.2.1 v_1.2.2.2.2.1 v_1.2.2.2.2.2.1 v_1.2.2.2.2.2.2.1 v_1.2.2.2.2.2.2.2.1 v_1.2.2.2.2.2.2.2.2) s s.heap H locs → lv_has ls 6 [(2, .int v_1.1), (1, .int v_1.2.1), (0, .ref (ad iQ))] → W p l e rm_Qd_spreadCalls s m args below meth c H locs 0 0 QQ (F0 m 4 ls [])) (fun K_2 hK_2 v_1 h H locs ls hw hl => ?_) _ _ _ hw (lv_sub hl [0, 1, 2] rfl)
  refine lv_iload_n hx hb d_Qd_spreadCalls_4 rfl (lv_at hl 1 rfl) ?_
  refine xj_use h (fun (v_3 : Unit) => ∀ (H : Heap) (locs : List Loc) (ls : Array Slot), xm_W D xcl (xT cI cZ cJ cO) (xm_A ad (CE qpt rs rf rc na f v) s.heap.size) ad (CE v_1.2.2.1 v_1.2.2.2.1 v_1.2.2.2.2.1 v_1.2.2.2.2.2.1 v_1.2.2.2.2.2.2.1 v_1.2.2.2.2.2.2.2.1 v_1.2.2.2.2.2.2.2.2) s s.heap H locs → lv_has ls 6 [] → W p l e rm_Qd_spreadCalls s m args below meth c H locs 0 0 QQ (F0 m 101 ls [])) (fun v_3 h H locs ls hw hl => ?_) (fun J_4 hJ_4 h => ?_)
  · subst hQQ
    exact xm_vret hx hb hr hlk hw (v_1.2.2.1, v_1.2.2.2.1, v_1.2.2.2.2.1, v_1.2.2.2.2.2.1, v_1.2.2.2.2.2.2.1, v_1.2.2.2.2.2.2.2.1, v_1.2.2.2.2.2.2.2.2) rfl rfl h d_Qd_spreadCalls_101
  · refine lv_if_eq (tgt := 101) hx hb d_Qd_spreadCalls_5 (by decide) (fun hc => ?_) (fun hc => ?_)
    · have h := h.1 hc
      exact hJ_4 () h _ _ _ hw (lv_sub hl [] rfl)
    · have h := h.2 hc
      refine lv_iload_n hx hb d_Qd_spreadCalls_8 rfl (lv_at hl 0 rfl) ?_
      refine lv_sipush (v := 10000) hx hb d_Qd_spreadCalls_9 (by decide) ?_
      refine lv_icmp_ge (tgt := 101) hx hb d_Qd_spreadCalls_12 (by decide) (fun hc => ?_) (fun hc => ?_)
      · have h := h.1 hc
        exact hJ_4 () h _ _ _ hw (lv_sub hl [] rfl)
      · have h := h.2 hc
        refine lv_iconst (v := 0) hx hb d_Qd_spreadCalls_15 (by decide) ?_
        refine lv_istore_n (lv' := [(1, .int 0), (2, .int v_1.1), (0, .ref (ad iQ))]) hx hb d_Qd_spreadCalls_16 rfl hl (by decide) rfl (fun ls hl => ?_)
        refine lv_iconst (v := 0) hx hb d_Qd_spreadCalls_17 (by decide) ?_
        refine lv_istore_n (lv' := [(3, .int 0), (1, .int 0), (2, .int v_1.1), (0, .ref (ad iQ))]) hx hb d_Qd_spreadCalls_18 rfl hl (by decide) rfl (fun ls hl => ?_)
        refine xL_use h (fun (v_5 : Int32 × Int32 × (Nat → Int32) × (Nat → Int32) × (Nat → Int32) × (Nat → Int32) × Int32 × (Nat → Int32) × (Nat → Int32)) => ∀ (H : Heap) (locs : List Loc) (ls : Array Slot), xm_W D xcl (xT cI cZ cJ cO) (xm_A ad (CE qpt rs rf rc na f v) s.heap.size) ad (CE v_5.2.2.1 v_5.2.2.2.1 v_5.2.2.2.2.1 v_5.2.2.2.2.2.1 v_5.2.2.2.2.2.2.1 v_5.2.2.2.2.2.2.2.1 v_5.2.2.2.2.2.2.2.2) s s.heap H locs → lv_has ls 6 [(3, .int v_5.1), (1, .int v_5.2.1), (2, .int v_1.1), (0, .ref (ad iQ))] → W p l e rm_Qd_spreadCalls s m args below meth c H locs 0 0 QQ (F0 m 19 ls [])) (fun K_6 hK_6 v_5 h H locs ls hw hl => ?_) _ _ _ hw (lv_sub hl [0, 1, 2, 3] rfl)
        refine lv_iload_n hx hb d_Qd_spreadCalls_19 rfl (lv_at hl 0 rfl) ?_
        refine lv_aload_n hx hb d_Qd_spreadCalls_20 rfl (lv_at hl 3 rfl) ?_
        refine xm_get (D := D) (v := .ref (ad iL)) (C := R_Qd) (T := F_Qd) (N := 12) hx hb hts (fun w h => List.mem_cons_of_mem _ (i_Qd w h)) hown hw (k_Q v_5.2.2.1 v_5.2.2.2.1 v_5.2.2.2.2.1 v_5.2.2.2.2.2.1 v_5.2.2.2.2.2.2.1 v_5.2.2.2.2.2.2.2.1 v_5.2.2.2.2.2.2.2.2) rfl 3 (by decide) (hts _ (List.mem_cons_of_mem _ xw_110)) (fun _ h9 => h9) rfl d_Qd_spreadCalls_21 ?_
        refine xm_calli (ua := fun _ => ad) (va_runV (As := []) (rest := [.int v_5.1]) ⟨hx, hb, hml, hown, hts⟩ (c_Al_size (D := D) (ad := ad) (CE := ((CE v_5.2.2.1 v_5.2.2.2.1 v_5.2.2.2.2.1 v_5.2.2.2.2.2.1 v_5.2.2.2.2.2.2.1 v_5.2.2.2.2.2.2.2.1 v_5.2.2.2.2.2.2.2.2)))  (k_L v_5.2.2.1 v_5.2.2.2.1 v_5.2.2.2.2.1 v_5.2.2.2.2.2.1 v_5.2.2.2.2.2.2.1 v_5.2.2.2.2.2.2.2.1 v_5.2.2.2.2.2.2.2.2) h _) (xg_cwV 0 hts xw_151 xw_148 xw_149 xw_150 xw_4 rfl rfl (by decide +kernel) ⟨Nat.le_of_ble_eq_true rfl, Nat.le_of_ble_eq_true rfl⟩) (xm_preV hw (k_L v_5.2.2.1 v_5.2.2.2.1 v_5.2.2.2.2.1 v_5.2.2.2.2.2.1 v_5.2.2.2.2.2.2.1 v_5.2.2.2.2.2.2.2.1 v_5.2.2.2.2.2.2.2.2) rfl _) rfl rfl hl.1 rfl (lv_room (Nat.le_of_ble_eq_true rfl)) d_Qd_spreadCalls_24 ⟨Nat.le_of_ble_eq_true rfl, Nat.le_of_ble_eq_true rfl⟩) hw (fun r_7 _ H locs h hw => ?_)
        refine lv_icmp_ge (tgt := 95) hx hb d_Qd_spreadCalls_27 (by decide) (fun hc => ?_) (fun hc => ?_)
        · have h := h.1 hc
          obtain ⟨x_9, ex_9⟩ : ∃ y : Int32, y = v_1.1 + 1 := ⟨_, rfl⟩
          have h := h x_9 ex_9
          refine lv_iinc (v := x_9) (lv' := [(2, .int x_9), (3, .int v_5.1), (1, .int v_5.2.1), (0, .ref (ad iQ))]) hx hb d_Qd_spreadCalls_95 hl (k := 2) rfl (by rw [ex_9]; rfl) (by decide) rfl (fun ls hl => ?_)
          refine lv_goto (tgt := 4) hx hb d_Qd_spreadCalls_98 (by decide) ?_
          exact hK_2 (x_9, v_5.2.1, v_5.2.2.1, v_5.2.2.2.1, v_5.2.2.2.2.1, v_5.2.2.2.2.2.1, v_5.2.2.2.2.2.2.1, v_5.2.2.2.2.2.2.2.1, v_5.2.2.2.2.2.2.2.2) h _ _ _ hw (lv_sub hl [0, 2, 3] rfl)
        · have h := h.2 hc
          refine lv_aload_n hx hb d_Qd_spreadCalls_30 rfl (lv_at hl 3 rfl) ?_
          refine xm_get (D := D) (v := .ref (ad iL)) (C := R_Qd) (T := F_Qd) (N := 12) hx hb hts (fun w h => List.mem_cons_of_mem _ (i_Qd w h)) hown hw (k_Q v_5.2.2.1 v_5.2.2.2.1 v_5.2.2.2.2.1 v_5.2.2.2.2.2.1 v_5.2.2.2.2.2.2.1 v_5.2.2.2.2.2.2.2.1 v_5.2.2.2.2.2.2.2.2) rfl 3 (by decide) (hts _ (List.mem_cons_of_mem _ xw_110)) (fun _ h9 => h9) rfl d_Qd_spreadCalls_31 ?_
          refine lv_iload_n hx hb d_Qd_spreadCalls_34 rfl (lv_at hl 0 rfl) ?_
          refine xm_callr (ua := fun _ => ad) (va_runV (As := [.int v_5.1]) (rest := []) ⟨hx, hb, hml, hown, hts⟩ (c_Al_get (D := D) (ad := ad) (CE := ((CE v_5.2.2.1 v_5.2.2.2.1 v_5.2.2.2.2.1 v_5.2.2.2.2.2.1 v_5.2.2.2.2.2.2.1 v_5.2.2.2.2.2.2.2.1 v_5.2.2.2.2.2.2.2.2)))  (k_L v_5.2.2.1 v_5.2.2.2.1 v_5.2.2.2.2.1 v_5.2.2.2.2.2.1 v_5.2.2.2.2.2.2.1 v_5.2.2.2.2.2.2.2.1 v_5.2.2.2.2.2.2.2.2) (k_E v_5.2.2.1 v_5.2.2.2.1 v_5.2.2.2.2.1 v_5.2.2.2.2.2.1 v_5.2.2.2.2.2.2.1 v_5.2.2.2.2.2.2.2.1 v_5.2.2.2.2.2.2.2.2) h _) (xg_cwV 1 hts xw_477 xw_474 xw_475 xw_476 xw_4 rfl rfl (by decide +kernel) ⟨Nat.le_of_ble_eq_true rfl, Nat.le_of_ble_eq_true rfl⟩) (xm_preV hw (k_L v_5.2.2.1 v_5.2.2.2.1 v_5.2.2.2.2.1 v_5.2.2.2.2.2.1 v_5.2.2.2.2.2.2.1 v_5.2.2.2.2.2.2.2.1 v_5.2.2.2.2.2.2.2.2) rfl _) rfl rfl hl.1 rfl (lv_room (Nat.le_of_ble_eq_true rfl)) d_Qd_spreadCalls_35 ⟨Nat.le_of_ble_eq_true rfl, Nat.le_of_ble_eq_true rfl⟩) hw (fun u_11 H locs h hw => ?_)
          obtain ⟨ix_12, eix_12⟩ : ∃ z, z = u_11 := ⟨_, rfl⟩
          try dsimp only at h hw
          rw [← eix_12] at h
          try dsimp only
          rw [← eix_12]
          obtain ⟨hix_12, h⟩ := h
          refine xm_cast hx hb hown (hts _ (List.mem_cons_of_mem _ xw_80)) hw (kf_U v_5.2.2.1 v_5.2.2.2.1 v_5.2.2.2.2.1 v_5.2.2.2.2.2.1 v_5.2.2.2.2.2.2.1 v_5.2.2.2.2.2.2.2.1 v_5.2.2.2.2.2.2.2.2 ix_12 hix_12) rfl d_Qd_spreadCalls_38 ?_
          refine lv_astore (lv' := [(4, .ref (ad ix_12)), (3, .int v_5.1), (1, .int v_5.2.1), (2, .int v_1.1), (0, .ref (ad iQ))]) hx hb d_Qd_spreadCalls_41 hl (by decide) rfl (fun ls hl => ?_)
          refine lv_iconst (v := 0) hx hb d_Qd_spreadCalls_43 (by decide) ?_
          refine lv_istore (lv' := [(5, .int 0), (4, .ref (ad ix_12)), (3, .int v_5.1), (1, .int v_5.2.1), (2, .int v_1.1), (0, .ref (ad iQ))]) hx hb d_Qd_spreadCalls_44 hl (by decide) rfl (fun ls hl => ?_)
          refine xL_use h (fun (v_13 : Int32 × Int32 × (Nat → Int32) × (Nat → Int32) × (Nat → Int32) × (Nat → Int32) × Int32 × (Nat → Int32) × (Nat → Int32)) => ∀ (H : Heap) (locs : List Loc) (ls : Array Slot), xm_W D xcl (xT cI cZ cJ cO) (xm_A ad (CE qpt rs rf rc na f v) s.heap.size) ad (CE v_13.2.2.1 v_13.2.2.2.1 v_13.2.2.2.2.1 v_13.2.2.2.2.2.1 v_13.2.2.2.2.2.2.1 v_13.2.2.2.2.2.2.2.1 v_13.2.2.2.2.2.2.2.2) s s.heap H locs → lv_has ls 6 [(5, .int v_13.1), (4, .ref (ad ix_12)), (3, .int v_5.1), (1, .int v_13.2.1), (2, .int v_1.1), (0, .ref (ad iQ))] → W p l e rm_Qd_spreadCalls s m args below meth c H locs 0 0 QQ (F0 m 46 ls [])) (fun K_14 hK_14 v_13 h H locs ls hw hl => ?_) _ _ _ hw (lv_sub hl [0, 1, 2, 3, 4, 5] rfl)
          refine lv_iload hx hb d_Qd_spreadCalls_46 (lv_at hl 0 rfl) ?_
          refine lv_iconst (v := 4) hx hb d_Qd_spreadCalls_48 (by decide) ?_
          refine lv_icmp_ge (tgt := 89) hx hb d_Qd_spreadCalls_49 (by decide) (fun hc => ?_) (fun hc => ?_)
          · have h := h.1 hc
            obtain ⟨x_15, ex_15⟩ : ∃ y : Int32, y = v_5.1 + 1 := ⟨_, rfl⟩
            have h := h x_15 ex_15
            refine lv_iinc (v := x_15) (lv' := [(3, .int x_15), (5, .int v_13.1), (4, .ref (ad ix_12)), (1, .int v_13.2.1), (2, .int v_1.1), (0, .ref (ad iQ))]) hx hb d_Qd_spreadCalls_89 hl (k := 2) rfl (by rw [ex_15]; rfl) (by decide) rfl (fun ls hl => ?_)
            refine lv_goto (tgt := 19) hx hb d_Qd_spreadCalls_92 (by decide) ?_
            exact hK_6 (x_15, v_13.2.1, v_13.2.2.1, v_13.2.2.2.1, v_13.2.2.2.2.1, v_13.2.2.2.2.2.1, v_13.2.2.2.2.2.2.1, v_13.2.2.2.2.2.2.2.1, v_13.2.2.2.2.2.2.2.2) h _ _ _ hw (lv_sub hl [0, 3, 4, 5] rfl)
          · have h := h.2 hc
            refine lv_aload_n hx hb d_Qd_spreadCalls_52 rfl (lv_at hl 5 rfl) ?_
            refine xm_get (D := D) (v := .ref (ad ipt)) (C := R_Qd) (T := F_Qd) (N := 12) hx hb hts (fun w h => List.mem_cons_of_mem _ (i_Qd w h)) hown hw (k_Q v_13.2.2.1 v_13.2.2.2.1 v_13.2.2.2.2.1 v_13.2.2.2.2.2.1 v_13.2.2.2.2.2.2.1 v_13.2.2.2.2.2.2.2.1 v_13.2.2.2.2.2.2.2.2) rfl 8 (by decide) (hts _ (List.mem_cons_of_mem _ xw_115)) (fun _ h9 => h9) rfl d_Qd_spreadCalls_53 ?_
            refine lv_aload hx hb d_Qd_spreadCalls_56 (lv_at hl 1 rfl) ?_
            refine xm_get (D := D) (v := .ref (ad (ix_12 + 1))) (C := R_Ru) (T := F_Ru) (N := 4) hx hb hts (fun w h => List.mem_cons_of_mem _ (i_Ru w h)) hown hw (kf_U v_13.2.2.1 v_13.2.2.2.1 v_13.2.2.2.2.1 v_13.2.2.2.2.2.1 v_13.2.2.2.2.2.2.1 v_13.2.2.2.2.2.2.2.1 v_13.2.2.2.2.2.2.2.2 ix_12 hix_12) rfl 0 (by decide) (hts _ (List.mem_cons_of_mem _ xw_88)) (fun _ h9 => h9) rfl d_Qd_spreadCalls_58 ?_
            refine lv_iconst (v := 0) hx hb d_Qd_spreadCalls_61 (by decide) ?_
            obtain ⟨hin, h⟩ := h
            refine xm_iald hx hb hw 0 (kf_A v_13.2.2.1 v_13.2.2.2.1 v_13.2.2.2.2.1 v_13.2.2.2.2.2.1 v_13.2.2.2.2.2.2.1 v_13.2.2.2.2.2.2.2.1 v_13.2.2.2.2.2.2.2.2 ix_12 hix_12) rfl hin d_Qd_spreadCalls_62 ?_
            obtain ⟨hin, h⟩ := h
            refine xm_iald hx hb hw 0 (k_pt v_13.2.2.1 v_13.2.2.2.1 v_13.2.2.2.2.1 v_13.2.2.2.2.2.1 v_13.2.2.2.2.2.2.1 v_13.2.2.2.2.2.2.2.1 v_13.2.2.2.2.2.2.2.2) rfl hin d_Qd_spreadCalls_63 ?_
            refine lv_iload hx hb d_Qd_spreadCalls_64 (lv_at hl 0 rfl) ?_
            refine lv_ishr hx hb d_Qd_spreadCalls_66 ?_
            refine lv_iconst (v := 1) hx hb d_Qd_spreadCalls_67 (by decide) ?_
            refine lv_iand hx hb d_Qd_spreadCalls_68 ?_
            refine xj_use h (fun (v_16 : Int32 × (Nat → Int32) × (Nat → Int32) × (Nat → Int32) × (Nat → Int32) × Int32 × (Nat → Int32) × (Nat → Int32)) => ∀ (H : Heap) (locs : List Loc) (ls : Array Slot), xm_W D xcl (xT cI cZ cJ cO) (xm_A ad (CE qpt rs rf rc na f v) s.heap.size) ad (CE v_16.2.1 v_16.2.2.1 v_16.2.2.2.1 v_16.2.2.2.2.1 v_16.2.2.2.2.2.1 v_16.2.2.2.2.2.2.1 v_16.2.2.2.2.2.2.2) s s.heap H locs → lv_has ls 6 [(0, .ref (ad iQ)), (1, .int v_16.1), (2, .int v_1.1), (3, .int v_5.1), (4, .ref (ad ix_12)), (5, .int v_13.1)] → W p l e rm_Qd_spreadCalls s m args below meth c H locs 0 0 QQ (F0 m 83 ls [])) (fun v_16 h H locs ls hw hl => ?_) (fun J_17 hJ_17 h => ?_)
            · obtain ⟨x_18, ex_18⟩ : ∃ y : Int32, y = v_13.1 + 1 := ⟨_, rfl⟩
              have h := h x_18 ex_18
              refine lv_iinc (v := x_18) (lv' := [(5, .int x_18), (0, .ref (ad iQ)), (1, .int v_16.1), (2, .int v_1.1), (3, .int v_5.1), (4, .ref (ad ix_12))]) hx hb d_Qd_spreadCalls_83 hl (k := 5) rfl (by rw [ex_18]; rfl) (by decide) rfl (fun ls hl => ?_)
              refine lv_goto (tgt := 46) hx hb d_Qd_spreadCalls_86 (by decide) ?_
              exact hK_14 (x_18, v_16.1, v_16.2.1, v_16.2.2.1, v_16.2.2.2.1, v_16.2.2.2.2.1, v_16.2.2.2.2.2.1, v_16.2.2.2.2.2.2.1, v_16.2.2.2.2.2.2.2) h _ _ _ hw (lv_sub hl [0, 5, 4, 2, 3, 1] rfl)
            · refine lv_if_eq (tgt := 83) hx hb d_Qd_spreadCalls_69 (by decide) (fun hc => ?_) (fun hc => ?_)
              · have h := h.1 hc
                exact hJ_17 (v_13.2.1, v_13.2.2.1, v_13.2.2.2.1, v_13.2.2.2.2.1, v_13.2.2.2.2.2.1, v_13.2.2.2.2.2.2.1, v_13.2.2.2.2.2.2.2.1, v_13.2.2.2.2.2.2.2.2) h _ _ _ hw (lv_sub hl [5, 3, 4, 2, 1, 0] rfl)
              · have h := h.2 hc
                refine lv_iload_n hx hb d_Qd_spreadCalls_72 rfl (lv_at hl 3 rfl) ?_
                refine lv_aload_n hx hb d_Qd_spreadCalls_73 rfl (lv_at hl 5 rfl) ?_
                refine lv_aload hx hb d_Qd_spreadCalls_74 (lv_at hl 1 rfl) ?_
                refine lv_iload hx hb d_Qd_spreadCalls_76 (lv_at hl 0 rfl) ?_
                refine xm_calli (ua := fun _ => ad) (va_runV (As := [.ref (ad ix_12), .int v_13.1]) (rest := [.int v_13.2.1]) ⟨hx, hb, hml, hown, hts⟩ (c_Qd_callByPattern (D := D) (ad := ad) (CE := (fun qpt rs rf rc na f v => (CE qpt rs rf rc na f v)))  (fun qpt rs rf rc na f v => k_Q qpt rs rf rc na f v) (fun qpt rs rf rc na f v => k_br qpt rs rf rc na f v) (fun qpt rs rf rc na f v => k_pt qpt rs rf rc na f v) (fun qpt rs rf rc na f v => k_P qpt rs rf rc na f v) (fun qpt rs rf rc na f v => k_R qpt rs rf rc na f v) (fun qpt rs rf rc na f v => k_M qpt rs rf rc na f v) (fun qpt rs rf rc na f v => k_V qpt rs rf rc na f v) (fun qpt rs rf rc na f v => k_U qpt rs rf rc na f v) (fun qpt rs rf rc na f v => k_A qpt rs rf rc na f v) (fun qpt rs rf rc na f v => k_B qpt rs rf rc na f v) (fun qpt rs rf rc na f v => k_C qpt rs rf rc na f v) (fun qpt rs rf rc na f v => kf_U qpt rs rf rc na f v ix_12 hix_12) (fun qpt rs rf rc na f v => kf_A qpt rs rf rc na f v ix_12 hix_12) (fun qpt rs rf rc na f v => kf_B qpt rs rf rc na f v ix_12 hix_12) (fun qpt rs rf rc na f v => kf_C qpt rs rf rc na f v ix_12 hix_12) (fun qpt rs rf rc na f v qpt' => u_pt qpt rs rf rc na f v qpt') (fun qpt rs rf rc na f v f' => u_R qpt rs rf rc na f v f') (fun qpt rs rf rc na f v v' => u_V qpt rs rf rc na f v v') (fun qpt rs rf rc na f v na' => u_U qpt rs rf rc na f v na') (fun qpt rs rf rc na f v rs' => u_A qpt rs rf rc na f v rs') (fun qpt rs rf rc na f v rf' => u_B qpt rs rf rc na f v rf') (fun qpt rs rf rc na f v rc' => u_C qpt rs rf rc na f v rc') h _) (xg_cwV 2 hts xw_525 xw_522 xw_524 xw_p21 xw_1 rfl rfl (by decide +kernel) ⟨Nat.le_of_ble_eq_true rfl, Nat.le_of_ble_eq_true rfl⟩) (xm_preV hw (k_Q v_13.2.2.1 v_13.2.2.2.1 v_13.2.2.2.2.1 v_13.2.2.2.2.2.1 v_13.2.2.2.2.2.2.1 v_13.2.2.2.2.2.2.2.1 v_13.2.2.2.2.2.2.2.2) rfl _) rfl rfl hl.1 rfl (lv_room (Nat.le_of_ble_eq_true rfl)) d_Qd_spreadCalls_78 ⟨Nat.le_of_ble_eq_true rfl, Nat.le_of_ble_eq_true rfl⟩) hw (fun r_19 u_20 H locs h hw => ?_)
                obtain ⟨qpt_21, eqpt_21⟩ : ∃ z, z = u_20.1 := ⟨_, rfl⟩
                obtain ⟨rs_22, ers_22⟩ : ∃ z, z = u_20.2.1 := ⟨_, rfl⟩
                obtain ⟨rf_23, erf_23⟩ : ∃ z, z = u_20.2.2.1 := ⟨_, rfl⟩
                obtain ⟨rc_24, erc_24⟩ : ∃ z, z = u_20.2.2.2.1 := ⟨_, rfl⟩
                obtain ⟨na_25, ena_25⟩ : ∃ z, z = u_20.2.2.2.2.1 := ⟨_, rfl⟩
                obtain ⟨f_26, ef_26⟩ : ∃ z, z = u_20.2.2.2.2.2.1 := ⟨_, rfl⟩
                obtain ⟨v_27, ev_27⟩ : ∃ z, z = u_20.2.2.2.2.2.2 := ⟨_, rfl⟩
                try dsimp only at h hw
                rw [← eqpt_21, ← ers_22, ← erf_23, ← erc_24, ← ena_25, ← ef_26, ← ev_27] at h hw
                refine lv_ior hx hb d_Qd_spreadCalls_81 ?_
                refine lv_topi (fun x_28 ex_28 => ?_)
                have h := h x_28 ex_28
                refine lv_istore_n (lv' := [(1, .int x_28), (5, .int v_13.1), (4, .ref (ad ix_12)), (3, .int v_5.1), (2, .int v_1.1), (0, .ref (ad iQ))]) hx hb d_Qd_spreadCalls_82 rfl hl (by decide) rfl (fun ls hl => ?_)
                exact hJ_17 (x_28, qpt_21, rs_22, rf_23, rc_24, na_25, f_26, v_27) h _ _ _ hw (lv_sub hl [5, 0, 4, 3, 2, 1] rfl)
def wp_Qd_countRewrittenRules (post : Int32 → Prop) (ad : Nat → Nat)  (RV : Nat → Prop) (grs : Nat → Nat → Int32) (grf : Nat → Nat → Int32) (grc : Nat → Nat → Int32) (gna : Nat → Int32) (nE : Nat) (ec : Nat → Option Nat) (sz : Int32) (qbr : Nat → Int32) (qpt : Nat → Int32) : Prop :=
xL (fun (K_2 : Int32 × Int32 → Prop) (v_1 : Int32 × Int32) =>
wp_Al_size (fun r_3 =>
((r_3 ≤ v_1.1 →
post v_1.2) ∧ (¬ r_3 ≤ v_1.1 →
wp_Al_get (fun ix_7 =>
RV ix_7 ∧
xL (fun (K_9 : Int32 × Int32 → Prop) (v_8 : Int32 × Int32) =>
(((gna ix_7) < v_8.1 →
vp_in 0 4 ∧
vp_in ((grs ix_7) (Int32.toNatClampNeg 0)) 10 ∧
wp_In_bitCount (fun r_10 =>
∀ x_12 : Int32, x_12 = v_1.2 + (v_8.2 * r_10) →
∀ x_13 : Int32, x_13 = v_1.1 + 1 →
K_2 (x_13, x_12)) (qpt (Int32.toNatClampNeg ((grs ix_7) (Int32.toNatClampNeg 0))))) ∧ (¬ (gna ix_7) < v_8.1 →
vp_in v_8.1 4 ∧
vp_in ((grs ix_7) (Int32.toNatClampNeg v_8.1)) 10 ∧
xj (fun (v_14 : Int32) =>
∀ x_16 : Int32, x_16 = v_8.2 + v_14 →
∀ x_17 : Int32, x_17 = v_8.1 + 1 →
K_9 (x_17, x_16)) (fun (J_15 : Int32 → Prop) =>
(((qbr (Int32.toNatClampNeg ((grs ix_7) (Int32.toNatClampNeg v_8.1)))) = 0 →
J_15 0) ∧ (¬ (qbr (Int32.toNatClampNeg ((grs ix_7) (Int32.toNatClampNeg v_8.1)))) = 0 →
J_15 1)))))) (1, 1)) ad nE ec sz v_1.1))) sz) (0, 0)
abbrev rm_Qd_countRewrittenRules : Room := { frames := 3, cells := 0, slots := 0, locals := 64 }
set_option maxHeartbeats 4000000 in
set_option maxRecDepth 100000 in
theorem c_Qd_countRewrittenRules {l : Launch} {D : va_G} {ad : Nat → Nat} (CE : Nat → Option va_E) {cI cZ cJ cO : ClassId} {iQ : Nat} {ipl : Nat} {ibr : Nat} {iL : Nat} {iP : Nat} {iM : Nat} {iU : Nat} {ipt : Nat} {iE : Nat} {RV : Nat → Prop} {grs : Nat → Nat → Int32} {grf : Nat → Nat → Int32} {grc : Nat → Nat → Int32} {gna : Nat → Int32} {nE : Nat} {ec : Nat → Option Nat} {sz : Int32} {qbr : Nat → Int32} {qpt : Nat → Int32} {np : Int32} {bg : Value} {rw : Int32} {aq : Int32} {pn : Int32} {mo : Int32} (k_Q : CE iQ = some (.inr (0, [.ref (ad ipl), .ref (ad ibr), .int np, .ref (ad iL), bg, .ref (ad iP), .ref (ad iM), .ref (ad iU), .ref (ad ipt), .int rw, .int aq, .int pn]))) (k_br : CE ibr = some (.inl (cZ, 10, .inl qbr))) (k_pt : CE ipt = some (.inl (cI, 10, .inl qpt))) (k_L : CE iL = some (.inr (5, [.ref (ad iE), .int sz, .int mo]))) (k_E : CE iE = some (.inl (cO, nE, .inr (.inr (.inr (.inr ec)))))) (kf_U : ∀  (ix : Nat), RV ix → CE ix = some (.inr (3, [.ref (ad (ix + 1)), .ref (ad (ix + 2)), .ref (ad (ix + 3)), .int (gna ix)]))) (kf_A : ∀  (ix : Nat), RV ix → CE (ix + 1) = some (.inl (cI, 4, .inl (grs ix)))) (kf_B : ∀  (ix : Nat), RV ix → CE (ix + 2) = some (.inl (cI, 4, .inl (grf ix)))) (kf_C : ∀  (ix : Nat), RV ix → CE (ix + 3) = some (.inl (cI, 4, .inl (grc ix)))) {post : Int32 → Prop}  (h : wp_Qd_countRewrittenRules post ad RV grs grf grc gna nE ec sz qbr qpt) : ∀ sz, Met l y_Qd_countRewrittenRules (Cond.code y_Qd_countRewrittenRules b_Qd_countRewrittenRules 6 (some .int) :: xg) rm_Qd_countRewrittenRules (xm_Pc D xcl (xT cI cZ cJ cO) ad CE sz [.ref (ad iQ)]) (va_Qi (fun (r : Int32) (_ : Unit) => post r) (xm_B D xcl (xT cI cZ cJ cO) (xm_A ad CE sz) (fun _ => ad) (fun _ : Unit => CE)) (xm_A ad CE sz)) 0 0 (xm_A ad CE sz) := by
  refine xm_ofW (cc := b_Qd_countRewrittenRules) (maxL := 6) (ret := (some .int)) (by decide) rfl (Nat.le_of_ble_eq_true rfl) ?_
  intro p e s m args below meth c ls QQ hQQ hx hb hml hr hown hlk hnm hts hl hw
  have hl : lv_has ls 6 [(0, .ref (ad iQ))] := hl
  unfold wp_Qd_countRewrittenRules at h
  refine lv_iconst (v := 0) hx hb d_Qd_countRewrittenRules_0 (by decide) ?_
  refine lv_istore_n (lv' := [(1, .int 0), (0, .ref (ad iQ))]) hx hb d_Qd_countRewrittenRules_1 rfl hl (by decide) rfl (fun ls hl => ?_)
  refine lv_iconst (v := 0) hx hb d_Qd_countRewrittenRules_2 (by decide) ?_
  refine lv_istore_n (lv' := [(2, .int 0), (1, .int 0), (0, .ref (ad iQ))]) hx hb d_Qd_countRewrittenRules_3 rfl hl (by decide) rfl (fun ls hl => ?_)
  refine xL_use h (fun (v_1 : Int32 × Int32) => ∀ (H : Heap) (locs : List Loc) (ls : Array Slot), xm_W D xcl (xT cI cZ cJ cO) (xm_A ad CE s.heap.size) ad CE s s.heap H locs → lv_has ls 6 [(2, .int v_1.1), (1, .int v_1.2), (0, .ref (ad iQ))] → W p l e rm_Qd_countRewrittenRules s m args below meth c H locs 0 0 QQ (F0 m 4 ls [])) (fun K_2 hK_2 v_1 h H locs ls hw hl => ?_) _ _ _ hw (lv_sub hl [0, 1, 2] rfl)
  refine lv_iload_n hx hb d_Qd_countRewrittenRules_4 rfl (lv_at hl 0 rfl) ?_
  refine lv_aload_n hx hb d_Qd_countRewrittenRules_5 rfl (lv_at hl 2 rfl) ?_
  refine xm_get (D := D) (v := .ref (ad iL)) (C := R_Qd) (T := F_Qd) (N := 12) hx hb hts (fun w h => List.mem_cons_of_mem _ (i_Qd w h)) hown hw k_Q rfl 3 (by decide) (hts _ (List.mem_cons_of_mem _ xw_110)) (fun _ h9 => h9) rfl d_Qd_countRewrittenRules_6 ?_
  refine xm_calli (ua := fun _ => ad) (va_runV (As := []) (rest := [.int v_1.1]) ⟨hx, hb, hml, hown, hts⟩ (c_Al_size (D := D) (ad := ad) (CE := (CE))  k_L h _) (xg_cwV 0 hts xw_151 xw_148 xw_149 xw_150 xw_4 rfl rfl (by decide +kernel) ⟨Nat.le_of_ble_eq_true rfl, Nat.le_of_ble_eq_true rfl⟩) (xm_preV hw k_L rfl _) rfl rfl hl.1 rfl (lv_room (Nat.le_of_ble_eq_true rfl)) d_Qd_countRewrittenRules_9 ⟨Nat.le_of_ble_eq_true rfl, Nat.le_of_ble_eq_true rfl⟩) hw (fun r_3 _ H locs h hw => ?_)
  refine lv_icmp_ge (tgt := 99) hx hb d_Qd_countRewrittenRules_12 (by decide) (fun hc => ?_) (fun hc => ?_)
  · have h := h.1 hc
    refine lv_iload_n hx hb d_Qd_countRewrittenRules_99 rfl (lv_at hl 1 rfl) ?_
    subst hQQ
    exact xm_iret hx hb hr hlk hw () rfl rfl h d_Qd_countRewrittenRules_100
  · have h := h.2 hc
    refine lv_aload_n hx hb d_Qd_countRewrittenRules_15 rfl (lv_at hl 2 rfl) ?_
    refine xm_get (D := D) (v := .ref (ad iL)) (C := R_Qd) (T := F_Qd) (N := 12) hx hb hts (fun w h => List.mem_cons_of_mem _ (i_Qd w h)) hown hw k_Q rfl 3 (by decide) (hts _ (List.mem_cons_of_mem _ xw_110)) (fun _ h9 => h9) rfl d_Qd_countRewrittenRules_16 ?_
    refine lv_iload_n hx hb d_Qd_countRewrittenRules_19 rfl (lv_at hl 0 rfl) ?_
    refine xm_callr (ua := fun _ => ad) (va_runV (As := [.int v_1.1]) (rest := []) ⟨hx, hb, hml, hown, hts⟩ (c_Al_get (D := D) (ad := ad) (CE := (CE))  k_L k_E h _) (xg_cwV 1 hts xw_477 xw_474 xw_475 xw_476 xw_4 rfl rfl (by decide +kernel) ⟨Nat.le_of_ble_eq_true rfl, Nat.le_of_ble_eq_true rfl⟩) (xm_preV hw k_L rfl _) rfl rfl hl.1 rfl (lv_room (Nat.le_of_ble_eq_true rfl)) d_Qd_countRewrittenRules_20 ⟨Nat.le_of_ble_eq_true rfl, Nat.le_of_ble_eq_true rfl⟩) hw (fun u_6 H locs h hw => ?_)
    obtain ⟨ix_7, eix_7⟩ : ∃ z, z = u_6 := ⟨_, rfl⟩
    try dsimp only at h hw
    rw [← eix_7] at h
    try dsimp only
    rw [← eix_7]
    obtain ⟨hix_7, h⟩ := h
    refine xm_cast hx hb hown (hts _ (List.mem_cons_of_mem _ xw_80)) hw (kf_U  ix_7 hix_7) rfl d_Qd_countRewrittenRules_23 ?_
    refine lv_astore_n (lv' := [(3, .ref (ad ix_7)), (2, .int v_1.1), (1, .int v_1.2), (0, .ref (ad iQ))]) hx hb d_Qd_countRewrittenRules_26 rfl hl (by decide) rfl (fun ls hl => ?_)
    refine lv_iconst (v := 1) hx hb d_Qd_countRewrittenRules_27 (by decide) ?_
    refine lv_istore (lv' := [(4, .int 1), (3, .ref (ad ix_7)), (2, .int v_1.1), (1, .int v_1.2), (0, .ref (ad iQ))]) hx hb d_Qd_countRewrittenRules_28 hl (by decide) rfl (fun ls hl => ?_)
    refine lv_iconst (v := 1) hx hb d_Qd_countRewrittenRules_30 (by decide) ?_
    refine lv_istore (lv' := [(5, .int 1), (4, .int 1), (3, .ref (ad ix_7)), (2, .int v_1.1), (1, .int v_1.2), (0, .ref (ad iQ))]) hx hb d_Qd_countRewrittenRules_31 hl (by decide) rfl (fun ls hl => ?_)
    refine xL_use h (fun (v_8 : Int32 × Int32) => ∀ (H : Heap) (locs : List Loc) (ls : Array Slot), xm_W D xcl (xT cI cZ cJ cO) (xm_A ad CE s.heap.size) ad CE s s.heap H locs → lv_has ls 6 [(5, .int v_8.1), (4, .int v_8.2), (3, .ref (ad ix_7)), (2, .int v_1.1), (1, .int v_1.2), (0, .ref (ad iQ))] → W p l e rm_Qd_countRewrittenRules s m args below meth c H locs 0 0 QQ (F0 m 33 ls [])) (fun K_9 hK_9 v_8 h H locs ls hw hl => ?_) _ _ _ hw (lv_sub hl [0, 1, 2, 3, 4, 5] rfl)
    refine lv_iload hx hb d_Qd_countRewrittenRules_33 (lv_at hl 0 rfl) ?_
    refine lv_aload_n hx hb d_Qd_countRewrittenRules_35 rfl (lv_at hl 2 rfl) ?_
    refine xm_get (D := D) (v := .int (gna ix_7)) (C := R_Ru) (T := F_Ru) (N := 4) hx hb hts (fun w h => List.mem_cons_of_mem _ (i_Ru w h)) hown hw (kf_U  ix_7 hix_7) rfl 3 (by decide) (hts _ (List.mem_cons_of_mem _ xw_97)) (fun _ h9 => h9) rfl d_Qd_countRewrittenRules_36 ?_
    refine lv_icmp_gt (tgt := 73) hx hb d_Qd_countRewrittenRules_39 (by decide) (fun hc => ?_) (fun hc => ?_)
    · have h := h.1 hc
      refine lv_iload_n hx hb d_Qd_countRewrittenRules_73 rfl (lv_at hl 4 rfl) ?_
      refine lv_iload hx hb d_Qd_countRewrittenRules_74 (lv_at hl 1 rfl) ?_
      refine lv_aload_n hx hb d_Qd_countRewrittenRules_76 rfl (lv_at hl 5 rfl) ?_
      refine xm_get (D := D) (v := .ref (ad ipt)) (C := R_Qd) (T := F_Qd) (N := 12) hx hb hts (fun w h => List.mem_cons_of_mem _ (i_Qd w h)) hown hw k_Q rfl 8 (by decide) (hts _ (List.mem_cons_of_mem _ xw_115)) (fun _ h9 => h9) rfl d_Qd_countRewrittenRules_77 ?_
      refine lv_aload_n hx hb d_Qd_countRewrittenRules_80 rfl (lv_at hl 2 rfl) ?_
      refine xm_get (D := D) (v := .ref (ad (ix_7 + 1))) (C := R_Ru) (T := F_Ru) (N := 4) hx hb hts (fun w h => List.mem_cons_of_mem _ (i_Ru w h)) hown hw (kf_U  ix_7 hix_7) rfl 0 (by decide) (hts _ (List.mem_cons_of_mem _ xw_88)) (fun _ h9 => h9) rfl d_Qd_countRewrittenRules_81 ?_
      refine lv_iconst (v := 0) hx hb d_Qd_countRewrittenRules_84 (by decide) ?_
      obtain ⟨hin, h⟩ := h
      refine xm_iald hx hb hw 0 (kf_A  ix_7 hix_7) rfl hin d_Qd_countRewrittenRules_85 ?_
      obtain ⟨hin, h⟩ := h
      refine xm_iald hx hb hw 0 k_pt rfl hin d_Qd_countRewrittenRules_86 ?_
      refine xm_calli (ua := fun _ => ad) (va_runS (As := [.int (qpt (Int32.toNatClampNeg ((grs ix_7) (Int32.toNatClampNeg 0))))]) (rest := [.int v_8.2, .int v_1.2]) ⟨hx, hb, hml, hown, hts⟩ (c_In_bitCount (D := D) (ad := ad) (CE := (CE))   h _) (xg_cwS 1 hts xw_194 xw_208 xw_193 xw_20 rfl rfl (by decide +kernel) ⟨Nat.le_of_ble_eq_true rfl, Nat.le_of_ble_eq_true rfl⟩) (xm_pre hw _) rfl rfl hl.1 rfl (lv_room (Nat.le_of_ble_eq_true rfl)) d_Qd_countRewrittenRules_87 ⟨Nat.le_of_ble_eq_true rfl, Nat.le_of_ble_eq_true rfl⟩) hw (fun r_10 _ H locs h hw => ?_)
      refine lv_imul hx hb d_Qd_countRewrittenRules_90 ?_
      refine lv_iadd hx hb d_Qd_countRewrittenRules_91 ?_
      refine lv_topi (fun x_12 ex_12 => ?_)
      have h := h x_12 ex_12
      refine lv_istore_n (lv' := [(1, .int x_12), (5, .int v_8.1), (4, .int v_8.2), (3, .ref (ad ix_7)), (2, .int v_1.1), (0, .ref (ad iQ))]) hx hb d_Qd_countRewrittenRules_92 rfl hl (by decide) rfl (fun ls hl => ?_)
      obtain ⟨x_13, ex_13⟩ : ∃ y : Int32, y = v_1.1 + 1 := ⟨_, rfl⟩
      have h := h x_13 ex_13
      refine lv_iinc (v := x_13) (lv' := [(2, .int x_13), (1, .int x_12), (5, .int v_8.1), (4, .int v_8.2), (3, .ref (ad ix_7)), (0, .ref (ad iQ))]) hx hb d_Qd_countRewrittenRules_93 hl (k := 4) rfl (by rw [ex_13]; rfl) (by decide) rfl (fun ls hl => ?_)
      refine lv_goto (tgt := 4) hx hb d_Qd_countRewrittenRules_96 (by decide) ?_
      exact hK_2 (x_13, x_12) h _ _ _ hw (lv_sub hl [0, 1, 5] rfl)
    · have h := h.2 hc
      refine lv_iload hx hb d_Qd_countRewrittenRules_42 (lv_at hl 1 rfl) ?_
      refine lv_aload_n hx hb d_Qd_countRewrittenRules_44 rfl (lv_at hl 5 rfl) ?_
      refine xm_get (D := D) (v := .ref (ad ibr)) (C := R_Qd) (T := F_Qd) (N := 12) hx hb hts (fun w h => List.mem_cons_of_mem _ (i_Qd w h)) hown hw k_Q rfl 1 (by decide) (hts _ (List.mem_cons_of_mem _ xw_108)) (fun _ h9 => h9) rfl d_Qd_countRewrittenRules_45 ?_
      refine lv_aload_n hx hb d_Qd_countRewrittenRules_48 rfl (lv_at hl 2 rfl) ?_
      refine xm_get (D := D) (v := .ref (ad (ix_7 + 1))) (C := R_Ru) (T := F_Ru) (N := 4) hx hb hts (fun w h => List.mem_cons_of_mem _ (i_Ru w h)) hown hw (kf_U  ix_7 hix_7) rfl 0 (by decide) (hts _ (List.mem_cons_of_mem _ xw_88)) (fun _ h9 => h9) rfl d_Qd_countRewrittenRules_49 ?_
      refine lv_iload hx hb d_Qd_countRewrittenRules_52 (lv_at hl 0 rfl) ?_
      obtain ⟨hin, h⟩ := h
      refine xm_iald hx hb hw 0 (kf_A  ix_7 hix_7) rfl hin d_Qd_countRewrittenRules_54 ?_
      obtain ⟨hin, h⟩ := h
      refine xm_zald hx hb hw 1 k_br rfl hin d_Qd_countRewrittenRules_55 ?_
      refine xj_use h (fun (v_14 : Int32) => ∀ (H : Heap) (locs : List Loc) (ls : Array Slot), xm_W D xcl (xT cI cZ cJ cO) (xm_A ad CE s.heap.size) ad CE s s.heap H locs → lv_has ls 6 [(0, .ref (ad iQ)), (1, .int v_1.2), (2, .int v_1.1), (3, .ref (ad ix_7)), (5, .int v_8.1)] → W p l e rm_Qd_countRewrittenRules s m args below meth c H locs 0 0 QQ (F0 m 64 ls [.int v_14, .int v_8.2])) (fun v_14 h H locs ls hw hl => ?_) (fun J_15 hJ_15 h => ?_)
      · refine lv_iadd hx hb d_Qd_countRewrittenRules_64 ?_
        refine lv_topi (fun x_16 ex_16 => ?_)
        have h := h x_16 ex_16
        refine lv_istore (lv' := [(4, .int x_16), (0, .ref (ad iQ)), (1, .int v_1.2), (2, .int v_1.1), (3, .ref (ad ix_7)), (5, .int v_8.1)]) hx hb d_Qd_countRewrittenRules_65 hl (by decide) rfl (fun ls hl => ?_)
        obtain ⟨x_17, ex_17⟩ : ∃ y : Int32, y = v_8.1 + 1 := ⟨_, rfl⟩
        have h := h x_17 ex_17
        refine lv_iinc (v := x_17) (lv' := [(5, .int x_17), (4, .int x_16), (0, .ref (ad iQ)), (1, .int v_1.2), (2, .int v_1.1), (3, .ref (ad ix_7))]) hx hb d_Qd_countRewrittenRules_67 hl (k := 5) rfl (by rw [ex_17]; rfl) (by decide) rfl (fun ls hl => ?_)
        refine lv_goto (tgt := 33) hx hb d_Qd_countRewrittenRules_70 (by decide) ?_
        exact hK_9 (x_17, x_16) h _ _ _ hw (lv_sub hl [0, 1, 5, 4, 3, 2] rfl)
      · refine lv_if_eq (tgt := 63) hx hb d_Qd_countRewrittenRules_56 (by decide) (fun hc => ?_) (fun hc => ?_)
        · have h := h.1 hc
          refine lv_iconst (v := 0) hx hb d_Qd_countRewrittenRules_63 (by decide) ?_
          exact hJ_15 0 h _ _ _ hw (lv_sub hl [5, 4, 3, 2, 0] rfl)
        · have h := h.2 hc
          refine lv_iconst (v := 1) hx hb d_Qd_countRewrittenRules_59 (by decide) ?_
          refine lv_goto (tgt := 64) hx hb d_Qd_countRewrittenRules_60 (by decide) ?_
          exact hJ_15 1 h _ _ _ hw (lv_sub hl [5, 4, 3, 2, 0] rfl)
