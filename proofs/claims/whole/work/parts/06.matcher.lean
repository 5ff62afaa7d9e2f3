abbrev b_Mt_matchSecond : ByteArray := prog_2_method_4_code
def y_Mt_matchSecond : MethodName := ⟨"QuestionDesk$Matcher", "matchSecond", "(LQuestionDesk$Rule;II)Z"⟩
theorem d_Mt_matchSecond_0 : decode b_Mt_matchSecond 0 = .ok (.aload_n 1, 1) := by decide +kernel
theorem d_Mt_matchSecond_1 : decode b_Mt_matchSecond 1 = .ok (.getfield 28, 3) := by decide +kernel
theorem d_Mt_matchSecond_4 : decode b_Mt_matchSecond 4 = .ok (.iload_n 2, 1) := by decide +kernel
theorem d_Mt_matchSecond_5 : decode b_Mt_matchSecond 5 = .ok (.iaload, 1) := by decide +kernel
theorem d_Mt_matchSecond_6 : decode b_Mt_matchSecond 6 = .ok (.istore 4, 2) := by decide +kernel
theorem d_Mt_matchSecond_8 : decode b_Mt_matchSecond 8 = .ok (.iload 4, 2) := by decide +kernel
theorem d_Mt_matchSecond_10 : decode b_Mt_matchSecond 10 = .ok (.bipush 18, 2) := by decide +kernel
theorem d_Mt_matchSecond_12 : decode b_Mt_matchSecond 12 = .ok (.if_icmp .ne 26, 3) := by decide +kernel
theorem d_Mt_matchSecond_15 : decode b_Mt_matchSecond 15 = .ok (.iload_n 3, 1) := by decide +kernel
theorem d_Mt_matchSecond_16 : decode b_Mt_matchSecond 16 = .ok (.iconst 1, 1) := by decide +kernel
theorem d_Mt_matchSecond_17 : decode b_Mt_matchSecond 17 = .ok (.ishr, 1) := by decide +kernel
theorem d_Mt_matchSecond_18 : decode b_Mt_matchSecond 18 = .ok (.ifCond .eq 18, 3) := by decide +kernel
theorem d_Mt_matchSecond_21 : decode b_Mt_matchSecond 21 = .ok (.aload_n 0, 1) := by decide +kernel
theorem d_Mt_matchSecond_22 : decode b_Mt_matchSecond 22 = .ok (.aload_n 1, 1) := by decide +kernel
theorem d_Mt_matchSecond_23 : decode b_Mt_matchSecond 23 = .ok (.iload_n 2, 1) := by decide +kernel
theorem d_Mt_matchSecond_24 : decode b_Mt_matchSecond 24 = .ok (.iconst 1, 1) := by decide +kernel
theorem d_Mt_matchSecond_25 : decode b_Mt_matchSecond 25 = .ok (.iadd, 1) := by decide +kernel
theorem d_Mt_matchSecond_26 : decode b_Mt_matchSecond 26 = .ok (.invokevirtual 19, 3) := by decide +kernel
theorem d_Mt_matchSecond_29 : decode b_Mt_matchSecond 29 = .ok (.ifCond .eq 7, 3) := by decide +kernel
theorem d_Mt_matchSecond_32 : decode b_Mt_matchSecond 32 = .ok (.iconst 1, 1) := by decide +kernel
theorem d_Mt_matchSecond_33 : decode b_Mt_matchSecond 33 = .ok (.goto 4, 3) := by decide +kernel
theorem d_Mt_matchSecond_36 : decode b_Mt_matchSecond 36 = .ok (.iconst 0, 1) := by decide +kernel
theorem d_Mt_matchSecond_37 : decode b_Mt_matchSecond 37 = .ok (.ireturn, 1) := by decide +kernel
theorem d_Mt_matchSecond_38 : decode b_Mt_matchSecond 38 = .ok (.aload_n 0, 1) := by decide +kernel
theorem d_Mt_matchSecond_39 : decode b_Mt_matchSecond 39 = .ok (.getfield 9, 3) := by decide +kernel
theorem d_Mt_matchSecond_42 : decode b_Mt_matchSecond 42 = .ok (.iload 4, 2) := by decide +kernel
theorem d_Mt_matchSecond_44 : decode b_Mt_matchSecond 44 = .ok (.iconst 1, 1) := by decide +kernel
theorem d_Mt_matchSecond_45 : decode b_Mt_matchSecond 45 = .ok (.iadd, 1) := by decide +kernel
theorem d_Mt_matchSecond_46 : decode b_Mt_matchSecond 46 = .ok (.iaload, 1) := by decide +kernel
theorem d_Mt_matchSecond_47 : decode b_Mt_matchSecond 47 = .ok (.bipush (-2), 2) := by decide +kernel
theorem d_Mt_matchSecond_49 : decode b_Mt_matchSecond 49 = .ok (.if_icmp .eq 36, 3) := by decide +kernel
theorem d_Mt_matchSecond_52 : decode b_Mt_matchSecond 52 = .ok (.iload_n 3, 1) := by decide +kernel
theorem d_Mt_matchSecond_53 : decode b_Mt_matchSecond 53 = .ok (.aload_n 0, 1) := by decide +kernel
theorem d_Mt_matchSecond_54 : decode b_Mt_matchSecond 54 = .ok (.getfield 9, 3) := by decide +kernel
theorem d_Mt_matchSecond_57 : decode b_Mt_matchSecond 57 = .ok (.iload 4, 2) := by decide +kernel
theorem d_Mt_matchSecond_59 : decode b_Mt_matchSecond 59 = .ok (.iconst 1, 1) := by decide +kernel
theorem d_Mt_matchSecond_60 : decode b_Mt_matchSecond 60 = .ok (.iadd, 1) := by decide +kernel
theorem d_Mt_matchSecond_61 : decode b_Mt_matchSecond 61 = .ok (.iaload, 1) := by decide +kernel
theorem d_Mt_matchSecond_62 : decode b_Mt_matchSecond 62 = .ok (.invokestatic 59, 3) := by decide +kernel
theorem d_Mt_matchSecond_65 : decode b_Mt_matchSecond 65 = .ok (.ifCond .eq 18, 3) := by decide +kernel
theorem d_Mt_matchSecond_68 : decode b_Mt_matchSecond 68 = .ok (.aload_n 0, 1) := by decide +kernel
theorem d_Mt_matchSecond_69 : decode b_Mt_matchSecond 69 = .ok (.aload_n 1, 1) := by decide +kernel
theorem d_Mt_matchSecond_70 : decode b_Mt_matchSecond 70 = .ok (.iload_n 2, 1) := by decide +kernel
theorem d_Mt_matchSecond_71 : decode b_Mt_matchSecond 71 = .ok (.iconst 1, 1) := by decide +kernel
theorem d_Mt_matchSecond_72 : decode b_Mt_matchSecond 72 = .ok (.iadd, 1) := by decide +kernel
theorem d_Mt_matchSecond_73 : decode b_Mt_matchSecond 73 = .ok (.invokevirtual 19, 3) := by decide +kernel
theorem d_Mt_matchSecond_76 : decode b_Mt_matchSecond 76 = .ok (.ifCond .eq 7, 3) := by decide +kernel
theorem d_Mt_matchSecond_79 : decode b_Mt_matchSecond 79 = .ok (.iconst 1, 1) := by decide +kernel
theorem d_Mt_matchSecond_80 : decode b_Mt_matchSecond 80 = .ok (.goto 4, 3) := by decide +kernel
theorem d_Mt_matchSecond_83 : decode b_Mt_matchSecond 83 = .ok (.iconst 0, 1) := by decide +kernel
theorem d_Mt_matchSecond_84 : decode b_Mt_matchSecond 84 = .ok (.ireturn, 1) := by decide +kernel
theorem d_Mt_matchSecond_85 : decode b_Mt_matchSecond 85 = .ok (.iconst 0, 1) := by decide +kernel
theorem d_Mt_matchSecond_86 : decode b_Mt_matchSecond 86 = .ok (.istore 5, 2) := by decide +kernel
theorem d_Mt_matchSecond_88 : decode b_Mt_matchSecond 88 = .ok (.iconst 0, 1) := by decide +kernel
theorem d_Mt_matchSecond_89 : decode b_Mt_matchSecond 89 = .ok (.istore 6, 2) := by decide +kernel
theorem d_Mt_matchSecond_91 : decode b_Mt_matchSecond 91 = .ok (.iload 6, 2) := by decide +kernel
theorem d_Mt_matchSecond_93 : decode b_Mt_matchSecond 93 = .ok (.bipush 10, 2) := by decide +kernel
theorem d_Mt_matchSecond_95 : decode b_Mt_matchSecond 95 = .ok (.if_icmp .ge 51, 3) := by decide +kernel
theorem d_Mt_matchSecond_98 : decode b_Mt_matchSecond 98 = .ok (.iload_n 3, 1) := by decide +kernel
theorem d_Mt_matchSecond_99 : decode b_Mt_matchSecond 99 = .ok (.iload 6, 2) := by decide +kernel
theorem d_Mt_matchSecond_101 : decode b_Mt_matchSecond 101 = .ok (.iconst 1, 1) := by decide +kernel
theorem d_Mt_matchSecond_102 : decode b_Mt_matchSecond 102 = .ok (.iadd, 1) := by decide +kernel
theorem d_Mt_matchSecond_103 : decode b_Mt_matchSecond 103 = .ok (.ishr, 1) := by decide +kernel
theorem d_Mt_matchSecond_104 : decode b_Mt_matchSecond 104 = .ok (.ifCond .eq 42, 3) := by decide +kernel
theorem d_Mt_matchSecond_107 : decode b_Mt_matchSecond 107 = .ok (.iload_n 3, 1) := by decide +kernel
theorem d_Mt_matchSecond_108 : decode b_Mt_matchSecond 108 = .ok (.iload 6, 2) := by decide +kernel
theorem d_Mt_matchSecond_110 : decode b_Mt_matchSecond 110 = .ok (.invokestatic 59, 3) := by decide +kernel
theorem d_Mt_matchSecond_113 : decode b_Mt_matchSecond 113 = .ok (.ifCond .eq 27, 3) := by decide +kernel
theorem d_Mt_matchSecond_116 : decode b_Mt_matchSecond 116 = .ok (.aload_n 0, 1) := by decide +kernel
theorem d_Mt_matchSecond_117 : decode b_Mt_matchSecond 117 = .ok (.getfield 9, 3) := by decide +kernel
theorem d_Mt_matchSecond_120 : decode b_Mt_matchSecond 120 = .ok (.iload 4, 2) := by decide +kernel
theorem d_Mt_matchSecond_122 : decode b_Mt_matchSecond 122 = .ok (.iconst 1, 1) := by decide +kernel
theorem d_Mt_matchSecond_123 : decode b_Mt_matchSecond 123 = .ok (.iadd, 1) := by decide +kernel
theorem d_Mt_matchSecond_124 : decode b_Mt_matchSecond 124 = .ok (.iload 6, 2) := by decide +kernel
theorem d_Mt_matchSecond_126 : decode b_Mt_matchSecond 126 = .ok (.iastore, 1) := by decide +kernel
theorem d_Mt_matchSecond_127 : decode b_Mt_matchSecond 127 = .ok (.iload 5, 2) := by decide +kernel
theorem d_Mt_matchSecond_129 : decode b_Mt_matchSecond 129 = .ok (.aload_n 0, 1) := by decide +kernel
theorem d_Mt_matchSecond_130 : decode b_Mt_matchSecond 130 = .ok (.aload_n 1, 1) := by decide +kernel
theorem d_Mt_matchSecond_131 : decode b_Mt_matchSecond 131 = .ok (.iload_n 2, 1) := by decide +kernel
theorem d_Mt_matchSecond_132 : decode b_Mt_matchSecond 132 = .ok (.iconst 1, 1) := by decide +kernel
theorem d_Mt_matchSecond_133 : decode b_Mt_matchSecond 133 = .ok (.iadd, 1) := by decide +kernel
theorem d_Mt_matchSecond_134 : decode b_Mt_matchSecond 134 = .ok (.invokevirtual 19, 3) := by decide +kernel
theorem d_Mt_matchSecond_137 : decode b_Mt_matchSecond 137 = .ok (.ior, 1) := by decide +kernel
theorem d_Mt_matchSecond_138 : decode b_Mt_matchSecond 138 = .ok (.istore 5, 2) := by decide +kernel
theorem d_Mt_matchSecond_140 : decode b_Mt_matchSecond 140 = .ok (.iinc 6 1, 3) := by decide +kernel
theorem d_Mt_matchSecond_143 : decode b_Mt_matchSecond 143 = .ok (.goto (-52), 3) := by decide +kernel
theorem d_Mt_matchSecond_146 : decode b_Mt_matchSecond 146 = .ok (.aload_n 0, 1) := by decide +kernel
theorem d_Mt_matchSecond_147 : decode b_Mt_matchSecond 147 = .ok (.getfield 9, 3) := by decide +kernel
theorem d_Mt_matchSecond_150 : decode b_Mt_matchSecond 150 = .ok (.iload 4, 2) := by decide +kernel
theorem d_Mt_matchSecond_152 : decode b_Mt_matchSecond 152 = .ok (.iconst 1, 1) := by decide +kernel
theorem d_Mt_matchSecond_153 : decode b_Mt_matchSecond 153 = .ok (.iadd, 1) := by decide +kernel
theorem d_Mt_matchSecond_154 : decode b_Mt_matchSecond 154 = .ok (.bipush (-2), 2) := by decide +kernel
theorem d_Mt_matchSecond_156 : decode b_Mt_matchSecond 156 = .ok (.iastore, 1) := by decide +kernel
theorem d_Mt_matchSecond_157 : decode b_Mt_matchSecond 157 = .ok (.iload 5, 2) := by decide +kernel
theorem d_Mt_matchSecond_159 : decode b_Mt_matchSecond 159 = .ok (.ireturn, 1) := by decide +kernel
abbrev b_Mt_matchAtom : ByteArray := prog_2_method_3_code
def y_Mt_matchAtom : MethodName := ⟨"QuestionDesk$Matcher", "matchAtom", "(LQuestionDesk$Rule;I)Z"⟩
theorem d_Mt_matchAtom_0 : decode b_Mt_matchAtom 0 = .ok (.aload_n 0, 1) := by decide +kernel
theorem d_Mt_matchAtom_1 : decode b_Mt_matchAtom 1 = .ok (.getfield 9, 3) := by decide +kernel
theorem d_Mt_matchAtom_4 : decode b_Mt_matchAtom 4 = .ok (.aload_n 1, 1) := by decide +kernel
theorem d_Mt_matchAtom_5 : decode b_Mt_matchAtom 5 = .ok (.getfield 23, 3) := by decide +kernel
theorem d_Mt_matchAtom_8 : decode b_Mt_matchAtom 8 = .ok (.iconst 0, 1) := by decide +kernel
theorem d_Mt_matchAtom_9 : decode b_Mt_matchAtom 9 = .ok (.iaload, 1) := by decide +kernel
theorem d_Mt_matchAtom_10 : decode b_Mt_matchAtom 10 = .ok (.iconst 1, 1) := by decide +kernel
theorem d_Mt_matchAtom_11 : decode b_Mt_matchAtom 11 = .ok (.iadd, 1) := by decide +kernel
theorem d_Mt_matchAtom_12 : decode b_Mt_matchAtom 12 = .ok (.iaload, 1) := by decide +kernel
theorem d_Mt_matchAtom_13 : decode b_Mt_matchAtom 13 = .ok (.istore_n 3, 1) := by decide +kernel
theorem d_Mt_matchAtom_14 : decode b_Mt_matchAtom 14 = .ok (.aload_n 0, 1) := by decide +kernel
theorem d_Mt_matchAtom_15 : decode b_Mt_matchAtom 15 = .ok (.getfield 9, 3) := by decide +kernel
theorem d_Mt_matchAtom_18 : decode b_Mt_matchAtom 18 = .ok (.aload_n 1, 1) := by decide +kernel
theorem d_Mt_matchAtom_19 : decode b_Mt_matchAtom 19 = .ok (.getfield 28, 3) := by decide +kernel
theorem d_Mt_matchAtom_22 : decode b_Mt_matchAtom 22 = .ok (.iconst 0, 1) := by decide +kernel
theorem d_Mt_matchAtom_23 : decode b_Mt_matchAtom 23 = .ok (.iaload, 1) := by decide +kernel
theorem d_Mt_matchAtom_24 : decode b_Mt_matchAtom 24 = .ok (.iconst 1, 1) := by decide +kernel
theorem d_Mt_matchAtom_25 : decode b_Mt_matchAtom 25 = .ok (.iadd, 1) := by decide +kernel
theorem d_Mt_matchAtom_26 : decode b_Mt_matchAtom 26 = .ok (.iaload, 1) := by decide +kernel
theorem d_Mt_matchAtom_27 : decode b_Mt_matchAtom 27 = .ok (.istore 4, 2) := by decide +kernel
theorem d_Mt_matchAtom_29 : decode b_Mt_matchAtom 29 = .ok (.iload_n 3, 1) := by decide +kernel
theorem d_Mt_matchAtom_30 : decode b_Mt_matchAtom 30 = .ok (.bipush (-2), 2) := by decide +kernel
theorem d_Mt_matchAtom_32 : decode b_Mt_matchAtom 32 = .ok (.if_icmp .eq 14, 3) := by decide +kernel
theorem d_Mt_matchAtom_35 : decode b_Mt_matchAtom 35 = .ok (.iload 4, 2) := by decide +kernel
theorem d_Mt_matchAtom_37 : decode b_Mt_matchAtom 37 = .ok (.bipush (-2), 2) := by decide +kernel
theorem d_Mt_matchAtom_39 : decode b_Mt_matchAtom 39 = .ok (.if_icmp .eq 7, 3) := by decide +kernel
theorem d_Mt_matchAtom_42 : decode b_Mt_matchAtom 42 = .ok (.iconst 1, 1) := by decide +kernel
theorem d_Mt_matchAtom_43 : decode b_Mt_matchAtom 43 = .ok (.goto 4, 3) := by decide +kernel
theorem d_Mt_matchAtom_46 : decode b_Mt_matchAtom 46 = .ok (.iconst 0, 1) := by decide +kernel
theorem d_Mt_matchAtom_47 : decode b_Mt_matchAtom 47 = .ok (.istore 5, 2) := by decide +kernel
theorem d_Mt_matchAtom_49 : decode b_Mt_matchAtom 49 = .ok (.iload 5, 2) := by decide +kernel
theorem d_Mt_matchAtom_51 : decode b_Mt_matchAtom 51 = .ok (.ifCond .eq 24, 3) := by decide +kernel
theorem d_Mt_matchAtom_54 : decode b_Mt_matchAtom 54 = .ok (.aload_n 0, 1) := by decide +kernel
theorem d_Mt_matchAtom_55 : decode b_Mt_matchAtom 55 = .ok (.getfield 15, 3) := by decide +kernel
theorem d_Mt_matchAtom_58 : decode b_Mt_matchAtom 58 = .ok (.aload_n 1, 1) := by decide +kernel
theorem d_Mt_matchAtom_59 : decode b_Mt_matchAtom 59 = .ok (.getfield 31, 3) := by decide +kernel
theorem d_Mt_matchAtom_62 : decode b_Mt_matchAtom 62 = .ok (.iconst 0, 1) := by decide +kernel
theorem d_Mt_matchAtom_63 : decode b_Mt_matchAtom 63 = .ok (.iaload, 1) := by decide +kernel
theorem d_Mt_matchAtom_64 : decode b_Mt_matchAtom 64 = .ok (.iload_n 3, 1) := by decide +kernel
theorem d_Mt_matchAtom_65 : decode b_Mt_matchAtom 65 = .ok (.iload 4, 2) := by decide +kernel
theorem d_Mt_matchAtom_67 : decode b_Mt_matchAtom 67 = .ok (.invokevirtual 34, 3) := by decide +kernel
theorem d_Mt_matchAtom_70 : decode b_Mt_matchAtom 70 = .ok (.ifCond .eq 5, 3) := by decide +kernel
theorem d_Mt_matchAtom_73 : decode b_Mt_matchAtom 73 = .ok (.iconst 0, 1) := by decide +kernel
theorem d_Mt_matchAtom_74 : decode b_Mt_matchAtom 74 = .ok (.ireturn, 1) := by decide +kernel
theorem d_Mt_matchAtom_75 : decode b_Mt_matchAtom 75 = .ok (.iload_n 2, 1) := by decide +kernel
theorem d_Mt_matchAtom_76 : decode b_Mt_matchAtom 76 = .ok (.aload_n 1, 1) := by decide +kernel
theorem d_Mt_matchAtom_77 : decode b_Mt_matchAtom 77 = .ok (.getfield 40, 3) := by decide +kernel
theorem d_Mt_matchAtom_80 : decode b_Mt_matchAtom 80 = .ok (.if_icmp .le 33, 3) := by decide +kernel
theorem d_Mt_matchAtom_83 : decode b_Mt_matchAtom 83 = .ok (.iload 5, 2) := by decide +kernel
theorem d_Mt_matchAtom_85 : decode b_Mt_matchAtom 85 = .ok (.ifCond .eq 26, 3) := by decide +kernel
theorem d_Mt_matchAtom_88 : decode b_Mt_matchAtom 88 = .ok (.aload_n 0, 1) := by decide +kernel
theorem d_Mt_matchAtom_89 : decode b_Mt_matchAtom 89 = .ok (.getfield 15, 3) := by decide +kernel
theorem d_Mt_matchAtom_92 : decode b_Mt_matchAtom 92 = .ok (.aload_n 1, 1) := by decide +kernel
theorem d_Mt_matchAtom_93 : decode b_Mt_matchAtom 93 = .ok (.getfield 31, 3) := by decide +kernel
theorem d_Mt_matchAtom_96 : decode b_Mt_matchAtom 96 = .ok (.iconst 0, 1) := by decide +kernel
theorem d_Mt_matchAtom_97 : decode b_Mt_matchAtom 97 = .ok (.iaload, 1) := by decide +kernel
theorem d_Mt_matchAtom_98 : decode b_Mt_matchAtom 98 = .ok (.iload_n 3, 1) := by decide +kernel
theorem d_Mt_matchAtom_99 : decode b_Mt_matchAtom 99 = .ok (.iload 4, 2) := by decide +kernel
theorem d_Mt_matchAtom_101 : decode b_Mt_matchAtom 101 = .ok (.invokevirtual 44, 3) := by decide +kernel
theorem d_Mt_matchAtom_104 : decode b_Mt_matchAtom 104 = .ok (.ifCond .eq 7, 3) := by decide +kernel
theorem d_Mt_matchAtom_107 : decode b_Mt_matchAtom 107 = .ok (.iconst 1, 1) := by decide +kernel
theorem d_Mt_matchAtom_108 : decode b_Mt_matchAtom 108 = .ok (.goto 4, 3) := by decide +kernel
theorem d_Mt_matchAtom_111 : decode b_Mt_matchAtom 111 = .ok (.iconst 0, 1) := by decide +kernel
theorem d_Mt_matchAtom_112 : decode b_Mt_matchAtom 112 = .ok (.ireturn, 1) := by decide +kernel
theorem d_Mt_matchAtom_113 : decode b_Mt_matchAtom 113 = .ok (.aload_n 1, 1) := by decide +kernel
theorem d_Mt_matchAtom_114 : decode b_Mt_matchAtom 114 = .ok (.getfield 31, 3) := by decide +kernel
theorem d_Mt_matchAtom_117 : decode b_Mt_matchAtom 117 = .ok (.iload_n 2, 1) := by decide +kernel
theorem d_Mt_matchAtom_118 : decode b_Mt_matchAtom 118 = .ok (.iaload, 1) := by decide +kernel
theorem d_Mt_matchAtom_119 : decode b_Mt_matchAtom 119 = .ok (.istore 6, 2) := by decide +kernel
theorem d_Mt_matchAtom_121 : decode b_Mt_matchAtom 121 = .ok (.aload_n 1, 1) := by decide +kernel
theorem d_Mt_matchAtom_122 : decode b_Mt_matchAtom 122 = .ok (.getfield 23, 3) := by decide +kernel
theorem d_Mt_matchAtom_125 : decode b_Mt_matchAtom 125 = .ok (.iload_n 2, 1) := by decide +kernel
theorem d_Mt_matchAtom_126 : decode b_Mt_matchAtom 126 = .ok (.iaload, 1) := by decide +kernel
theorem d_Mt_matchAtom_127 : decode b_Mt_matchAtom 127 = .ok (.istore 7, 2) := by decide +kernel
theorem d_Mt_matchAtom_129 : decode b_Mt_matchAtom 129 = .ok (.iload 7, 2) := by decide +kernel
theorem d_Mt_matchAtom_131 : decode b_Mt_matchAtom 131 = .ok (.bipush 18, 2) := by decide +kernel
theorem d_Mt_matchAtom_133 : decode b_Mt_matchAtom 133 = .ok (.if_icmp .ne 19, 3) := by decide +kernel
theorem d_Mt_matchAtom_136 : decode b_Mt_matchAtom 136 = .ok (.aload_n 0, 1) := by decide +kernel
theorem d_Mt_matchAtom_137 : decode b_Mt_matchAtom 137 = .ok (.aload_n 1, 1) := by decide +kernel
theorem d_Mt_matchAtom_138 : decode b_Mt_matchAtom 138 = .ok (.iload_n 2, 1) := by decide +kernel
theorem d_Mt_matchAtom_139 : decode b_Mt_matchAtom 139 = .ok (.aload_n 0, 1) := by decide +kernel
theorem d_Mt_matchAtom_140 : decode b_Mt_matchAtom 140 = .ok (.getfield 15, 3) := by decide +kernel
theorem d_Mt_matchAtom_143 : decode b_Mt_matchAtom 143 = .ok (.iload 6, 2) := by decide +kernel
theorem d_Mt_matchAtom_145 : decode b_Mt_matchAtom 145 = .ok (.invokevirtual 47, 3) := by decide +kernel
theorem d_Mt_matchAtom_148 : decode b_Mt_matchAtom 148 = .ok (.invokevirtual 51, 3) := by decide +kernel
theorem d_Mt_matchAtom_151 : decode b_Mt_matchAtom 151 = .ok (.ireturn, 1) := by decide +kernel
theorem d_Mt_matchAtom_152 : decode b_Mt_matchAtom 152 = .ok (.aload_n 0, 1) := by decide +kernel
theorem d_Mt_matchAtom_153 : decode b_Mt_matchAtom 153 = .ok (.getfield 9, 3) := by decide +kernel
theorem d_Mt_matchAtom_156 : decode b_Mt_matchAtom 156 = .ok (.iload 7, 2) := by decide +kernel
theorem d_Mt_matchAtom_158 : decode b_Mt_matchAtom 158 = .ok (.iconst 1, 1) := by decide +kernel
theorem d_Mt_matchAtom_159 : decode b_Mt_matchAtom 159 = .ok (.iadd, 1) := by decide +kernel
theorem d_Mt_matchAtom_160 : decode b_Mt_matchAtom 160 = .ok (.iaload, 1) := by decide +kernel
theorem d_Mt_matchAtom_161 : decode b_Mt_matchAtom 161 = .ok (.bipush (-2), 2) := by decide +kernel
theorem d_Mt_matchAtom_163 : decode b_Mt_matchAtom 163 = .ok (.if_icmp .eq 28, 3) := by decide +kernel
theorem d_Mt_matchAtom_166 : decode b_Mt_matchAtom 166 = .ok (.aload_n 0, 1) := by decide +kernel
theorem d_Mt_matchAtom_167 : decode b_Mt_matchAtom 167 = .ok (.aload_n 1, 1) := by decide +kernel
theorem d_Mt_matchAtom_168 : decode b_Mt_matchAtom 168 = .ok (.iload_n 2, 1) := by decide +kernel
theorem d_Mt_matchAtom_169 : decode b_Mt_matchAtom 169 = .ok (.aload_n 0, 1) := by decide +kernel
theorem d_Mt_matchAtom_170 : decode b_Mt_matchAtom 170 = .ok (.getfield 15, 3) := by decide +kernel
theorem d_Mt_matchAtom_173 : decode b_Mt_matchAtom 173 = .ok (.iload 6, 2) := by decide +kernel
theorem d_Mt_matchAtom_175 : decode b_Mt_matchAtom 175 = .ok (.aload_n 0, 1) := by decide +kernel
theorem d_Mt_matchAtom_176 : decode b_Mt_matchAtom 176 = .ok (.getfield 9, 3) := by decide +kernel
theorem d_Mt_matchAtom_179 : decode b_Mt_matchAtom 179 = .ok (.iload 7, 2) := by decide +kernel
theorem d_Mt_matchAtom_181 : decode b_Mt_matchAtom 181 = .ok (.iconst 1, 1) := by decide +kernel
theorem d_Mt_matchAtom_182 : decode b_Mt_matchAtom 182 = .ok (.iadd, 1) := by decide +kernel
theorem d_Mt_matchAtom_183 : decode b_Mt_matchAtom 183 = .ok (.iaload, 1) := by decide +kernel
theorem d_Mt_matchAtom_184 : decode b_Mt_matchAtom 184 = .ok (.invokevirtual 55, 3) := by decide +kernel
theorem d_Mt_matchAtom_187 : decode b_Mt_matchAtom 187 = .ok (.invokevirtual 51, 3) := by decide +kernel
theorem d_Mt_matchAtom_190 : decode b_Mt_matchAtom 190 = .ok (.ireturn, 1) := by decide +kernel
theorem d_Mt_matchAtom_191 : decode b_Mt_matchAtom 191 = .ok (.iconst 0, 1) := by decide +kernel
theorem d_Mt_matchAtom_192 : decode b_Mt_matchAtom 192 = .ok (.istore 8, 2) := by decide +kernel
theorem d_Mt_matchAtom_194 : decode b_Mt_matchAtom 194 = .ok (.iconst 0, 1) := by decide +kernel
theorem d_Mt_matchAtom_195 : decode b_Mt_matchAtom 195 = .ok (.istore 9, 2) := by decide +kernel
theorem d_Mt_matchAtom_197 : decode b_Mt_matchAtom 197 = .ok (.iload 9, 2) := by decide +kernel
theorem d_Mt_matchAtom_199 : decode b_Mt_matchAtom 199 = .ok (.bipush 10, 2) := by decide +kernel
theorem d_Mt_matchAtom_201 : decode b_Mt_matchAtom 201 = .ok (.if_icmp .ge 42, 3) := by decide +kernel
theorem d_Mt_matchAtom_204 : decode b_Mt_matchAtom 204 = .ok (.aload_n 0, 1) := by decide +kernel
theorem d_Mt_matchAtom_205 : decode b_Mt_matchAtom 205 = .ok (.getfield 9, 3) := by decide +kernel
theorem d_Mt_matchAtom_208 : decode b_Mt_matchAtom 208 = .ok (.iload 7, 2) := by decide +kernel
theorem d_Mt_matchAtom_210 : decode b_Mt_matchAtom 210 = .ok (.iconst 1, 1) := by decide +kernel
theorem d_Mt_matchAtom_211 : decode b_Mt_matchAtom 211 = .ok (.iadd, 1) := by decide +kernel
theorem d_Mt_matchAtom_212 : decode b_Mt_matchAtom 212 = .ok (.iload 9, 2) := by decide +kernel
theorem d_Mt_matchAtom_214 : decode b_Mt_matchAtom 214 = .ok (.iastore, 1) := by decide +kernel
theorem d_Mt_matchAtom_215 : decode b_Mt_matchAtom 215 = .ok (.iload 8, 2) := by decide +kernel
theorem d_Mt_matchAtom_217 : decode b_Mt_matchAtom 217 = .ok (.aload_n 0, 1) := by decide +kernel
theorem d_Mt_matchAtom_218 : decode b_Mt_matchAtom 218 = .ok (.aload_n 1, 1) := by decide +kernel
theorem d_Mt_matchAtom_219 : decode b_Mt_matchAtom 219 = .ok (.iload_n 2, 1) := by decide +kernel
theorem d_Mt_matchAtom_220 : decode b_Mt_matchAtom 220 = .ok (.aload_n 0, 1) := by decide +kernel
theorem d_Mt_matchAtom_221 : decode b_Mt_matchAtom 221 = .ok (.getfield 15, 3) := by decide +kernel
theorem d_Mt_matchAtom_224 : decode b_Mt_matchAtom 224 = .ok (.iload 6, 2) := by decide +kernel
theorem d_Mt_matchAtom_226 : decode b_Mt_matchAtom 226 = .ok (.iload 9, 2) := by decide +kernel
theorem d_Mt_matchAtom_228 : decode b_Mt_matchAtom 228 = .ok (.invokevirtual 55, 3) := by decide +kernel
theorem d_Mt_matchAtom_231 : decode b_Mt_matchAtom 231 = .ok (.invokevirtual 51, 3) := by decide +kernel
theorem d_Mt_matchAtom_234 : decode b_Mt_matchAtom 234 = .ok (.ior, 1) := by decide +kernel
theorem d_Mt_matchAtom_235 : decode b_Mt_matchAtom 235 = .ok (.istore 8, 2) := by decide +kernel
theorem d_Mt_matchAtom_237 : decode b_Mt_matchAtom 237 = .ok (.iinc 9 1, 3) := by decide +kernel
theorem d_Mt_matchAtom_240 : decode b_Mt_matchAtom 240 = .ok (.goto (-43), 3) := by decide +kernel
theorem d_Mt_matchAtom_243 : decode b_Mt_matchAtom 243 = .ok (.aload_n 0, 1) := by decide +kernel
theorem d_Mt_matchAtom_244 : decode b_Mt_matchAtom 244 = .ok (.getfield 9, 3) := by decide +kernel
theorem d_Mt_matchAtom_247 : decode b_Mt_matchAtom 247 = .ok (.iload 7, 2) := by decide +kernel
theorem d_Mt_matchAtom_249 : decode b_Mt_matchAtom 249 = .ok (.iconst 1, 1) := by decide +kernel
theorem d_Mt_matchAtom_250 : decode b_Mt_matchAtom 250 = .ok (.iadd, 1) := by decide +kernel
theorem d_Mt_matchAtom_251 : decode b_Mt_matchAtom 251 = .ok (.bipush (-2), 2) := by decide +kernel
theorem d_Mt_matchAtom_253 : decode b_Mt_matchAtom 253 = .ok (.iastore, 1) := by decide +kernel
theorem d_Mt_matchAtom_254 : decode b_Mt_matchAtom 254 = .ok (.iload 8, 2) := by decide +kernel
theorem d_Mt_matchAtom_256 : decode b_Mt_matchAtom 256 = .ok (.ireturn, 1) := by decide +kernel
theorem xw_74 : (Jvm.Cond.fieldLink "QuestionDesk$Matcher" (9 : Nat) "QuestionDesk$Matcher" "values" "[I") ∈ xg := xg_t (i := 74) (by decide +kernel) (by decide +kernel)
theorem xw_90 : (Jvm.Cond.fieldLink "QuestionDesk$Matcher" (23 : Nat) "QuestionDesk$Rule" "firsts" "[I") ∈ xg := xg_t (i := 90) (by decide +kernel) (by decide +kernel)
theorem xw_93 : (Jvm.Cond.fieldLink "QuestionDesk$Matcher" (28 : Nat) "QuestionDesk$Rule" "seconds" "[I") ∈ xg := xg_t (i := 93) (by decide +kernel) (by decide +kernel)
theorem xw_96 : (Jvm.Cond.fieldLink "QuestionDesk$Matcher" (40 : Nat) "QuestionDesk$Rule" "atoms" "I") ∈ xg := xg_t (i := 96) (by decide +kernel) (by decide +kernel)
theorem xw_87 : (Jvm.Cond.fieldLink "QuestionDesk$Matcher" (31 : Nat) "QuestionDesk$Rule" "sets" "[I") ∈ xg := xg_t (i := 87) (by decide +kernel) (by decide +kernel)
theorem xw_73 : (Jvm.Cond.fieldLink "QuestionDesk$Matcher" (15 : Nat) "QuestionDesk$Matcher" "pairs" "LQuestionDesk$Pairs;") ∈ xg := xg_t (i := 73) (by decide +kernel) (by decide +kernel)
theorem xw_501 : (Jvm.Cond.methodLink "QuestionDesk$Matcher" (55 : Nat) ({ cls := "QuestionDesk$Pairs", name := "row", desc := "(II)I" } : Jvm.MethodName)) ∈ xg := xg_t (i := 501) (by decide +kernel) (by decide +kernel)
theorem xw_495 : (Jvm.Cond.code ({ cls := "QuestionDesk$Pairs", name := "rowOfAny", desc := "(I)I" } : Jvm.MethodName) prog_3_method_4_code (4 : Nat) (Option.some Jvm.ClassFile.FieldType.int)) ∈ xg := xg_t (i := 495) (by decide +kernel) (by decide +kernel)
theorem xw_492 : (Jvm.Cond.methodLink "QuestionDesk$Matcher" (47 : Nat) ({ cls := "QuestionDesk$Pairs", name := "rowOfAny", desc := "(I)I" } : Jvm.MethodName)) ∈ xg := xg_t (i := 492) (by decide +kernel) (by decide +kernel)
theorem xw_493 : (Jvm.Cond.instanceMethod ({ cls := "QuestionDesk$Pairs", name := "rowOfAny", desc := "(I)I" } : Jvm.MethodName)) ∈ xg := xg_t (i := 493) (by decide +kernel) (by decide +kernel)
theorem xw_494 : (Jvm.Cond.selects "QuestionDesk$Pairs" ({ cls := "QuestionDesk$Pairs", name := "rowOfAny", desc := "(I)I" } : Jvm.MethodName) ({ cls := "QuestionDesk$Pairs", name := "rowOfAny", desc := "(I)I" } : Jvm.MethodName)) ∈ xg := xg_t (i := 494) (by decide +kernel) (by decide +kernel)
theorem xw_321 : (Jvm.Cond.code ({ cls := "QuestionDesk$Pairs", name := "put", desc := "(III)Z" } : Jvm.MethodName) prog_3_method_6_code (6 : Nat) (Option.some Jvm.ClassFile.FieldType.boolean)) ∈ xg := xg_t (i := 321) (by decide +kernel) (by decide +kernel)
theorem xw_491 : (Jvm.Cond.methodLink "QuestionDesk$Matcher" (44 : Nat) ({ cls := "QuestionDesk$Pairs", name := "put", desc := "(III)Z" } : Jvm.MethodName)) ∈ xg := xg_t (i := 491) (by decide +kernel) (by decide +kernel)
theorem xw_319 : (Jvm.Cond.instanceMethod ({ cls := "QuestionDesk$Pairs", name := "put", desc := "(III)Z" } : Jvm.MethodName)) ∈ xg := xg_t (i := 319) (by decide +kernel) (by decide +kernel)
theorem xw_320 : (Jvm.Cond.selects "QuestionDesk$Pairs" ({ cls := "QuestionDesk$Pairs", name := "put", desc := "(III)Z" } : Jvm.MethodName) ({ cls := "QuestionDesk$Pairs", name := "put", desc := "(III)Z" } : Jvm.MethodName)) ∈ xg := xg_t (i := 320) (by decide +kernel) (by decide +kernel)
theorem xw_176 : (Jvm.Cond.code ({ cls := "QuestionDesk$Pairs", name := "has", desc := "(III)Z" } : Jvm.MethodName) prog_3_method_5_code (4 : Nat) (Option.some Jvm.ClassFile.FieldType.boolean)) ∈ xg := xg_t (i := 176) (by decide +kernel) (by decide +kernel)
theorem xw_490 : (Jvm.Cond.methodLink "QuestionDesk$Matcher" (34 : Nat) ({ cls := "QuestionDesk$Pairs", name := "has", desc := "(III)Z" } : Jvm.MethodName)) ∈ xg := xg_t (i := 490) (by decide +kernel) (by decide +kernel)
theorem xw_174 : (Jvm.Cond.instanceMethod ({ cls := "QuestionDesk$Pairs", name := "has", desc := "(III)Z" } : Jvm.MethodName)) ∈ xg := xg_t (i := 174) (by decide +kernel) (by decide +kernel)
theorem xw_175 : (Jvm.Cond.selects "QuestionDesk$Pairs" ({ cls := "QuestionDesk$Pairs", name := "has", desc := "(III)Z" } : Jvm.MethodName) ({ cls := "QuestionDesk$Pairs", name := "has", desc := "(III)Z" } : Jvm.MethodName)) ∈ xg := xg_t (i := 175) (by decide +kernel) (by decide +kernel)
theorem i_Mt : ∀ w ∈ u_ws R_Mt F_Mt 2, w ∈ xg := by decide +kernel
def wp_Mt_matchAtom (WS : (Int32 → (Nat → Int32) → (Nat → Int32) → Prop) → (Nat → Int32) → (Nat → Int32) → (Nat → Int32) → Int32 → (Nat → Int32) → (Nat → Int32) → Int32 → Int32 → Prop) (post : Int32 → (Nat → Int32) → (Nat → Int32) → Prop)  (rs : Nat → Int32) (rf : Nat → Int32) (rc : Nat → Int32) (na : Int32) (f : Nat → Int32) (v : Nat → Int32) (a : Int32) : Prop :=
vp_in 0 4 ∧
vp_in ((rf (Int32.toNatClampNeg 0)) + 1) 20 ∧
∀ x_1 : Int32, x_1 = v (Int32.toNatClampNeg ((rf (Int32.toNatClampNeg 0)) + 1)) →
vp_in 0 4 ∧
vp_in ((rc (Int32.toNatClampNeg 0)) + 1) 20 ∧
∀ x_2 : Int32, x_2 = v (Int32.toNatClampNeg ((rc (Int32.toNatClampNeg 0)) + 1)) →
xj (fun (v_3 : Int32) =>
xj (fun (v_5 : Unit) =>
((a ≤ na →
vp_in a 4 ∧
∀ x_7 : Int32, x_7 = rs (Int32.toNatClampNeg a) →
vp_in a 4 ∧
∀ x_8 : Int32, x_8 = rf (Int32.toNatClampNeg a) →
((¬ x_8 = 18 →
vp_in (x_8 + 1) 20 ∧
(((v (Int32.toNatClampNeg (x_8 + 1))) = (-2) →
xL (fun (K_10 : Int32 × Int32 × (Nat → Int32) × (Nat → Int32) → Prop) (v_9 : Int32 × Int32 × (Nat → Int32) × (Nat → Int32)) =>
((10 ≤ v_9.1 →
vp_in (x_8 + 1) 20 ∧
∀ v_11 : Nat → Int32, v_11 = upd v_9.2.2.2 (Int32.toNatClampNeg (x_8 + 1)) (-2) →
(narrow .boolean (.int v_9.2.1) = .int v_9.2.1 ∧ post v_9.2.1 v_9.2.2.1 v_11)) ∧ (¬ 10 ≤ v_9.1 →
vp_in (x_8 + 1) 20 ∧
∀ v_12 : Nat → Int32, v_12 = upd v_9.2.2.2 (Int32.toNatClampNeg (x_8 + 1)) v_9.1 →
wp_Pr_row (fun r_13 =>
WS (fun r_15 f_17 v_18 =>
∀ x_19 : Int32, x_19 = v_9.2.1 ||| r_15 →
∀ x_20 : Int32, x_20 = v_9.1 + 1 →
K_10 (x_20, x_19, f_17, v_18)) rs rf rc na v_9.2.2.1 v_12 a r_13) v_9.2.2.1 x_7 v_9.1))) (0, 0, f, v)) ∧ (¬ (v (Int32.toNatClampNeg (x_8 + 1))) = (-2) →
vp_in (x_8 + 1) 20 ∧
wp_Pr_row (fun r_21 =>
WS (fun r_23 f_25 v_26 =>
(narrow .boolean (.int r_23) = .int r_23 ∧ post r_23 f_25 v_26)) rs rf rc na f v a r_21) f x_7 (v (Int32.toNatClampNeg (x_8 + 1)))))) ∧ (x_8 = 18 →
wp_Pr_rowOfAny (fun r_27 =>
WS (fun r_29 f_31 v_32 =>
(narrow .boolean (.int r_29) = .int r_29 ∧ post r_29 f_31 v_32)) rs rf rc na f v a r_27) f x_7))) ∧ (¬ a ≤ na →
xj (fun (v_33 : Int32 × (Nat → Int32) × (Nat → Int32)) =>
(narrow .boolean (.int v_33.1) = .int v_33.1 ∧ post v_33.1 v_33.2.1 v_33.2.2)) (fun (J_34 : Int32 × (Nat → Int32) × (Nat → Int32) → Prop) =>
xj (fun (v_35 : (Nat → Int32) × (Nat → Int32)) =>
J_34 (0, v_35.1, v_35.2)) (fun (J_36 : (Nat → Int32) × (Nat → Int32) → Prop) =>
((v_3 = 0 →
J_36 (f, v)) ∧ (¬ v_3 = 0 →
vp_in 0 4 ∧
wp_Pr_put (fun r_37 f_39 =>
((r_37 = 0 →
J_36 (f_39, v)) ∧ (¬ r_37 = 0 →
J_34 (1, f_39, v)))) f (rs (Int32.toNatClampNeg 0)) x_1 x_2))))))) (fun (J_6 : Unit → Prop) =>
((v_3 = 0 →
J_6 ()) ∧ (¬ v_3 = 0 →
vp_in 0 4 ∧
wp_Pr_has (fun r_40 =>
((r_40 = 0 →
J_6 ()) ∧ (¬ r_40 = 0 →
post 0 f v))) f (rs (Int32.toNatClampNeg 0)) x_1 x_2)))) (fun (J_4 : Int32 → Prop) =>
xj (fun (v_42 : Unit) =>
J_4 0) (fun (J_43 : Unit → Prop) =>
((x_1 = (-2) →
J_43 ()) ∧ (¬ x_1 = (-2) →
((x_2 = (-2) →
J_43 ()) ∧ (¬ x_2 = (-2) →
J_4 1))))))
def wp_Mt_matchAtom_0 (post : Int32 → (Nat → Int32) → (Nat → Int32) → Prop)  (rs : Nat → Int32) (rf : Nat → Int32) (rc : Nat → Int32) (na : Int32) (f : Nat → Int32) (v : Nat → Int32) (a : Int32) : Prop := wp_Mt_matchAtom (fun _ _ _ _ _ _ _ _ _ => False) post rs rf rc na f v a
abbrev rm_Mt_matchAtom_0 : Room := { frames := 2, cells := 0, slots := 0, locals := 45 }
set_option maxHeartbeats 4000000 in
set_option maxRecDepth 100000 in
theorem c_Mt_matchAtom_0 {l : Launch} {D : va_G} {ad : Nat → Nat} (CE : (Nat → Int32) → (Nat → Int32) → Nat → Option va_E) {cI cZ cJ cO : ClassId} {iM : Nat} {iV : Nat} {iP : Nat} {iR : Nat} {iU : Nat} {iA : Nat} {iB : Nat} {iC : Nat} {rs : Nat → Int32} {rf : Nat → Int32} {rc : Nat → Int32} {na : Int32} (k_M : ∀ (f : Nat → Int32) (v : Nat → Int32), (CE f v) iM = some (.inr (2, [.ref (ad iP), .ref (ad iV)]))) (k_V : ∀ (f : Nat → Int32) (v : Nat → Int32), (CE f v) iV = some (.inl (cI, 20, .inl v))) (k_P : ∀ (f : Nat → Int32) (v : Nat → Int32), (CE f v) iP = some (.inr (1, [.ref (ad iR)]))) (k_R : ∀ (f : Nat → Int32) (v : Nat → Int32), (CE f v) iR = some (.inl (cI, 341, .inl f))) (k_U : ∀ (f : Nat → Int32) (v : Nat → Int32), (CE f v) iU = some (.inr (3, [.ref (ad iA), .ref (ad iB), .ref (ad iC), .int na]))) (k_A : ∀ (f : Nat → Int32) (v : Nat → Int32), (CE f v) iA = some (.inl (cI, 4, .inl rs))) (k_B : ∀ (f : Nat → Int32) (v : Nat → Int32), (CE f v) iB = some (.inl (cI, 4, .inl rf))) (k_C : ∀ (f : Nat → Int32) (v : Nat → Int32), (CE f v) iC = some (.inl (cI, 4, .inl rc))) (u_V : ∀ (f : Nat → Int32) (v : Nat → Int32) (v' : Nat → Int32), va_up (CE f v) iV (some (.inl (cI, 20, .inl v'))) = (CE f v')) (u_R : ∀ (f : Nat → Int32) (v : Nat → Int32) (f' : Nat → Int32), va_up (CE f v) iR (some (.inl (cI, 341, .inl f'))) = (CE f' v)) {post : Int32 → (Nat → Int32) → (Nat → Int32) → Prop} {f : Nat → Int32} {v : Nat → Int32} {a : Int32} (h : wp_Mt_matchAtom_0 post rs rf rc na f v a) : ∀ sz, Met l y_Mt_matchAtom (Cond.code y_Mt_matchAtom b_Mt_matchAtom 10 (some .boolean) :: xg) rm_Mt_matchAtom_0 (xm_Pc D xcl (xT cI cZ cJ cO) ad (CE f v) sz [.ref (ad iM), .ref (ad iU), .int a]) (va_Qi (fun (r : Int32) (u : (Nat → Int32) × (Nat → Int32)) => post r u.1 u.2) (xm_B D xcl (xT cI cZ cJ cO) (xm_A ad (CE f v) sz) (fun _ => ad) (fun u : (Nat → Int32) × (Nat → Int32) => CE u.1 u.2)) (xm_A ad (CE f v) sz)) 0 0 (xm_A ad (CE f v) sz) := by
  refine xm_ofW (cc := b_Mt_matchAtom) (maxL := 10) (ret := (some .boolean)) (by decide) rfl (Nat.le_of_ble_eq_true rfl) ?_
  intro p e s m args below meth c ls QQ hQQ hx hb hml hr hown hlk hnm hts hl hw
  have hl : lv_has ls 10 [(0, .ref (ad iM)), (1, .ref (ad iU)), (2, .int a)] := hl
  unfold wp_Mt_matchAtom_0 wp_Mt_matchAtom at h
  refine lv_aload_n hx hb d_Mt_matchAtom_0 rfl (lv_at hl 0 rfl) ?_
  refine xm_get (D := D) (v := .ref (ad iV)) (C := R_Mt) (T := F_Mt) (N := 2) hx hb hts (fun w h => List.mem_cons_of_mem _ (i_Mt w h)) hown hw (k_M f v) rfl 1 (by decide) (hts _ (List.mem_cons_of_mem _ xw_74)) (fun _ h9 => h9) rfl d_Mt_matchAtom_1 ?_
  refine lv_aload_n hx hb d_Mt_matchAtom_4 rfl (lv_at hl 1 rfl) ?_
  refine xm_get (D := D) (v := .ref (ad iB)) (C := R_Ru) (T := F_Ru) (N := 4) hx hb hts (fun w h => List.mem_cons_of_mem _ (i_Ru w h)) hown hw (k_U f v) rfl 1 (by decide) (hts _ (List.mem_cons_of_mem _ xw_90)) (fun _ h9 => h9) rfl d_Mt_matchAtom_5 ?_
  refine lv_iconst (v := 0) hx hb d_Mt_matchAtom_8 (by decide) ?_
  obtain ⟨hin, h⟩ := h
  refine xm_iald hx hb hw 0 (k_B f v) rfl hin d_Mt_matchAtom_9 ?_
  refine lv_iconst (v := 1) hx hb d_Mt_matchAtom_10 (by decide) ?_
  refine lv_iadd hx hb d_Mt_matchAtom_11 ?_
  obtain ⟨hin, h⟩ := h
  refine xm_iald hx hb hw 0 (k_V f v) rfl hin d_Mt_matchAtom_12 ?_
  refine lv_topi (fun x_1 ex_1 => ?_)
  have h := h x_1 ex_1
  refine lv_istore_n (lv' := [(3, .int x_1), (0, .ref (ad iM)), (1, .ref (ad iU)), (2, .int a)]) hx hb d_Mt_matchAtom_13 rfl hl (by decide) rfl (fun ls hl => ?_)
  refine lv_aload_n hx hb d_Mt_matchAtom_14 rfl (lv_at hl 1 rfl) ?_
  refine xm_get (D := D) (v := .ref (ad iV)) (C := R_Mt) (T := F_Mt) (N := 2) hx hb hts (fun w h => List.mem_cons_of_mem _ (i_Mt w h)) hown hw (k_M f v) rfl 1 (by decide) (hts _ (List.mem_cons_of_mem _ xw_74)) (fun _ h9 => h9) rfl d_Mt_matchAtom_15 ?_
  refine lv_aload_n hx hb d_Mt_matchAtom_18 rfl (lv_at hl 2 rfl) ?_
  refine xm_get (D := D) (v := .ref (ad iC)) (C := R_Ru) (T := F_Ru) (N := 4) hx hb hts (fun w h => List.mem_cons_of_mem _ (i_Ru w h)) hown hw (k_U f v) rfl 2 (by decide) (hts _ (List.mem_cons_of_mem _ xw_93)) (fun _ h9 => h9) rfl d_Mt_matchAtom_19 ?_
  refine lv_iconst (v := 0) hx hb d_Mt_matchAtom_22 (by decide) ?_
  obtain ⟨hin, h⟩ := h
  refine xm_iald hx hb hw 0 (k_C f v) rfl hin d_Mt_matchAtom_23 ?_
  refine lv_iconst (v := 1) hx hb d_Mt_matchAtom_24 (by decide) ?_
  refine lv_iadd hx hb d_Mt_matchAtom_25 ?_
  obtain ⟨hin, h⟩ := h
  refine xm_iald hx hb hw 0 (k_V f v) rfl hin d_Mt_matchAtom_26 ?_
  refine lv_topi (fun x_2 ex_2 => ?_)
  have h := h x_2 ex_2
  refine lv_istore (lv' := [(4, .int x_2), (3, .int x_1), (0, .ref (ad iM)), (1, .ref (ad iU)), (2, .int a)]) hx hb d_Mt_matchAtom_27 hl (by decide) rfl (fun ls hl => ?_)
  refine lv_iload_n hx hb d_Mt_matchAtom_29 rfl (lv_at hl 1 rfl) ?_
  refine lv_bipush (v := (-2)) hx hb d_Mt_matchAtom_30 (by decide) ?_
  refine xj_use h (fun (v_3 : Int32) => ∀ (H : Heap) (locs : List Loc) (ls : Array Slot), xm_W D xcl (xT cI cZ cJ cO) (xm_A ad (CE f v) s.heap.size) ad (CE f v) s s.heap H locs → lv_has ls 10 [(0, .ref (ad iM)), (1, .ref (ad iU)), (2, .int a), (3, .int x_1), (4, .int x_2)] → W p l e rm_Mt_matchAtom_0 s m args below meth c H locs 0 0 QQ (F0 m 47 ls [.int v_3])) (fun v_3 h H locs ls hw hl => ?_) (fun J_4 hJ_4 h => ?_)
  · refine lv_istore (lv' := [(5, .int v_3), (0, .ref (ad iM)), (1, .ref (ad iU)), (2, .int a), (3, .int x_1), (4, .int x_2)]) hx hb d_Mt_matchAtom_47 hl (by decide) rfl (fun ls hl => ?_)
    refine lv_iload hx hb d_Mt_matchAtom_49 (lv_at hl 0 rfl) ?_
    refine xj_use h (fun (v_5 : Unit) => ∀ (H : Heap) (locs : List Loc) (ls : Array Slot), xm_W D xcl (xT cI cZ cJ cO) (xm_A ad (CE f v) s.heap.size) ad (CE f v) s s.heap H locs → lv_has ls 10 [(0, .ref (ad iM)), (1, .ref (ad iU)), (2, .int a), (3, .int x_1), (4, .int x_2), (5, .int v_3)] → W p l e rm_Mt_matchAtom_0 s m args below meth c H locs 0 0 QQ (F0 m 75 ls [])) (fun v_5 h H locs ls hw hl => ?_) (fun J_6 hJ_6 h => ?_)
    · refine lv_iload_n hx hb d_Mt_matchAtom_75 rfl (lv_at hl 2 rfl) ?_
      refine lv_aload_n hx hb d_Mt_matchAtom_76 rfl (lv_at hl 1 rfl) ?_
      refine xm_get (D := D) (v := .int na) (C := R_Ru) (T := F_Ru) (N := 4) hx hb hts (fun w h => List.mem_cons_of_mem _ (i_Ru w h)) hown hw (k_U f v) rfl 3 (by decide) (hts _ (List.mem_cons_of_mem _ xw_96)) (fun _ h9 => h9) rfl d_Mt_matchAtom_77 ?_
      refine lv_icmp_le (tgt := 113) hx hb d_Mt_matchAtom_80 (by decide) (fun hc => ?_) (fun hc => ?_)
      · have h := h.1 hc
        refine lv_aload_n hx hb d_Mt_matchAtom_113 rfl (lv_at hl 1 rfl) ?_
        refine xm_get (D := D) (v := .ref (ad iA)) (C := R_Ru) (T := F_Ru) (N := 4) hx hb hts (fun w h => List.mem_cons_of_mem _ (i_Ru w h)) hown hw (k_U f v) rfl 0 (by decide) (hts _ (List.mem_cons_of_mem _ xw_87)) (fun _ h9 => h9) rfl d_Mt_matchAtom_114 ?_
        refine lv_iload_n hx hb d_Mt_matchAtom_117 rfl (lv_at hl 2 rfl) ?_
        obtain ⟨hin, h⟩ := h
        refine xm_iald hx hb hw 0 (k_A f v) rfl hin d_Mt_matchAtom_118 ?_
        refine lv_topi (fun x_7 ex_7 => ?_)
        have h := h x_7 ex_7
        refine lv_istore (lv' := [(6, .int x_7), (0, .ref (ad iM)), (1, .ref (ad iU)), (2, .int a), (3, .int x_1), (4, .int x_2), (5, .int v_3)]) hx hb d_Mt_matchAtom_119 hl (by decide) rfl (fun ls hl => ?_)
        refine lv_aload_n hx hb d_Mt_matchAtom_121 rfl (lv_at hl 2 rfl) ?_
        refine xm_get (D := D) (v := .ref (ad iB)) (C := R_Ru) (T := F_Ru) (N := 4) hx hb hts (fun w h => List.mem_cons_of_mem _ (i_Ru w h)) hown hw (k_U f v) rfl 1 (by decide) (hts _ (List.mem_cons_of_mem _ xw_90)) (fun _ h9 => h9) rfl d_Mt_matchAtom_122 ?_
        refine lv_iload_n hx hb d_Mt_matchAtom_125 rfl (lv_at hl 3 rfl) ?_
        obtain ⟨hin, h⟩ := h
        refine xm_iald hx hb hw 0 (k_B f v) rfl hin d_Mt_matchAtom_126 ?_
        refine lv_topi (fun x_8 ex_8 => ?_)
        have h := h x_8 ex_8
        refine lv_istore (lv' := [(7, .int x_8), (6, .int x_7), (0, .ref (ad iM)), (1, .ref (ad iU)), (2, .int a), (3, .int x_1), (4, .int x_2), (5, .int v_3)]) hx hb d_Mt_matchAtom_127 hl (by decide) rfl (fun ls hl => ?_)
        refine lv_iload hx hb d_Mt_matchAtom_129 (lv_at hl 0 rfl) ?_
        refine lv_bipush (v := 18) hx hb d_Mt_matchAtom_131 (by decide) ?_
        refine lv_icmp_ne (tgt := 152) hx hb d_Mt_matchAtom_133 (by decide) (fun hc => ?_) (fun hc => ?_)
        · have h := h.1 hc
          refine lv_aload_n hx hb d_Mt_matchAtom_152 rfl (lv_at hl 2 rfl) ?_
          refine xm_get (D := D) (v := .ref (ad iV)) (C := R_Mt) (T := F_Mt) (N := 2) hx hb hts (fun w h => List.mem_cons_of_mem _ (i_Mt w h)) hown hw (k_M f v) rfl 1 (by decide) (hts _ (List.mem_cons_of_mem _ xw_74)) (fun _ h9 => h9) rfl d_Mt_matchAtom_153 ?_
          refine lv_iload hx hb d_Mt_matchAtom_156 (lv_at hl 0 rfl) ?_
          refine lv_iconst (v := 1) hx hb d_Mt_matchAtom_158 (by decide) ?_
          refine lv_iadd hx hb d_Mt_matchAtom_159 ?_
          obtain ⟨hin, h⟩ := h
          refine xm_iald hx hb hw 0 (k_V f v) rfl hin d_Mt_matchAtom_160 ?_
          refine lv_bipush (v := (-2)) hx hb d_Mt_matchAtom_161 (by decide) ?_
          refine lv_icmp_eq (tgt := 191) hx hb d_Mt_matchAtom_163 (by decide) (fun hc => ?_) (fun hc => ?_)
          · have h := h.1 hc
            refine lv_iconst (v := 0) hx hb d_Mt_matchAtom_191 (by decide) ?_
            refine lv_istore (lv' := [(8, .int 0), (7, .int x_8), (6, .int x_7), (0, .ref (ad iM)), (1, .ref (ad iU)), (2, .int a), (3, .int x_1), (4, .int x_2), (5, .int v_3)]) hx hb d_Mt_matchAtom_192 hl (by decide) rfl (fun ls hl => ?_)
            refine lv_iconst (v := 0) hx hb d_Mt_matchAtom_194 (by decide) ?_
            refine lv_istore (lv' := [(9, .int 0), (8, .int 0), (7, .int x_8), (6, .int x_7), (0, .ref (ad iM)), (1, .ref (ad iU)), (2, .int a), (3, .int x_1), (4, .int x_2), (5, .int v_3)]) hx hb d_Mt_matchAtom_195 hl (by decide) rfl (fun ls hl => ?_)
            refine xL_use h (fun (v_9 : Int32 × Int32 × (Nat → Int32) × (Nat → Int32)) => ∀ (H : Heap) (locs : List Loc) (ls : Array Slot), xm_W D xcl (xT cI cZ cJ cO) (xm_A ad (CE f v) s.heap.size) ad (CE v_9.2.2.1 v_9.2.2.2) s s.heap H locs → lv_has ls 10 [(9, .int v_9.1), (8, .int v_9.2.1), (7, .int x_8), (6, .int x_7), (0, .ref (ad iM)), (1, .ref (ad iU)), (2, .int a)] → W p l e rm_Mt_matchAtom_0 s m args below meth c H locs 0 0 QQ (F0 m 197 ls [])) (fun K_10 hK_10 v_9 h H locs ls hw hl => ?_) _ _ _ hw (lv_sub hl [0, 1, 2, 3, 4, 5, 6] rfl)
            refine lv_iload hx hb d_Mt_matchAtom_197 (lv_at hl 0 rfl) ?_
            refine lv_bipush (v := 10) hx hb d_Mt_matchAtom_199 (by decide) ?_
            refine lv_icmp_ge (tgt := 243) hx hb d_Mt_matchAtom_201 (by decide) (fun hc => ?_) (fun hc => ?_)
            · have h := h.1 hc
              refine lv_aload_n hx hb d_Mt_matchAtom_243 rfl (lv_at hl 4 rfl) ?_
              refine xm_get (D := D) (v := .ref (ad iV)) (C := R_Mt) (T := F_Mt) (N := 2) hx hb hts (fun w h => List.mem_cons_of_mem _ (i_Mt w h)) hown hw (k_M v_9.2.2.1 v_9.2.2.2) rfl 1 (by decide) (hts _ (List.mem_cons_of_mem _ xw_74)) (fun _ h9 => h9) rfl d_Mt_matchAtom_244 ?_
              refine lv_iload hx hb d_Mt_matchAtom_247 (lv_at hl 2 rfl) ?_
              refine lv_iconst (v := 1) hx hb d_Mt_matchAtom_249 (by decide) ?_
              refine lv_iadd hx hb d_Mt_matchAtom_250 ?_
              refine lv_bipush (v := (-2)) hx hb d_Mt_matchAtom_251 (by decide) ?_
              obtain ⟨hin, h⟩ := h
              refine xm_iast hx hb hw 0 (k_V v_9.2.2.1 v_9.2.2.2) rfl hin d_Mt_matchAtom_253 (fun H locs hw => ?_)
              have hw : xm_W D xcl (xT cI cZ cJ cO) (xm_A ad (CE f v) s.heap.size) ad (CE v_9.2.2.1 (upd v_9.2.2.2 (Int32.toNatClampNeg (x_8 + 1)) (-2))) s s.heap H locs := xm_W.cast (u_V v_9.2.2.1 v_9.2.2.2 (upd v_9.2.2.2 (Int32.toNatClampNeg (x_8 + 1)) (-2))) hw
              obtain ⟨v_11, ev_11⟩ : ∃ z : Nat → Int32, z = upd v_9.2.2.2 (Int32.toNatClampNeg (x_8 + 1)) (-2) := ⟨_, rfl⟩
              have h := h v_11 ev_11
              rw [← ev_11] at hw
              refine lv_iload hx hb d_Mt_matchAtom_254 (lv_at hl 1 rfl) ?_
              subst hQQ
              exact xm_zret hx hb hr hlk h.1 hw (v_9.2.2.1, v_11) rfl rfl h.2 d_Mt_matchAtom_256
            · have h := h.2 hc
              refine lv_aload_n hx hb d_Mt_matchAtom_204 rfl (lv_at hl 4 rfl) ?_
              refine xm_get (D := D) (v := .ref (ad iV)) (C := R_Mt) (T := F_Mt) (N := 2) hx hb hts (fun w h => List.mem_cons_of_mem _ (i_Mt w h)) hown hw (k_M v_9.2.2.1 v_9.2.2.2) rfl 1 (by decide) (hts _ (List.mem_cons_of_mem _ xw_74)) (fun _ h9 => h9) rfl d_Mt_matchAtom_205 ?_
              refine lv_iload hx hb d_Mt_matchAtom_208 (lv_at hl 2 rfl) ?_
              refine lv_iconst (v := 1) hx hb d_Mt_matchAtom_210 (by decide) ?_
              refine lv_iadd hx hb d_Mt_matchAtom_211 ?_
              refine lv_iload hx hb d_Mt_matchAtom_212 (lv_at hl 0 rfl) ?_
              obtain ⟨hin, h⟩ := h
              refine xm_iast hx hb hw 0 (k_V v_9.2.2.1 v_9.2.2.2) rfl hin d_Mt_matchAtom_214 (fun H locs hw => ?_)
              have hw : xm_W D xcl (xT cI cZ cJ cO) (xm_A ad (CE f v) s.heap.size) ad (CE v_9.2.2.1 (upd v_9.2.2.2 (Int32.toNatClampNeg (x_8 + 1)) v_9.1)) s s.heap H locs := xm_W.cast (u_V v_9.2.2.1 v_9.2.2.2 (upd v_9.2.2.2 (Int32.toNatClampNeg (x_8 + 1)) v_9.1)) hw
              obtain ⟨v_12, ev_12⟩ : ∃ z : Nat → Int32, z = upd v_9.2.2.2 (Int32.toNatClampNeg (x_8 + 1)) v_9.1 := ⟨_, rfl⟩
              have h := h v_12 ev_12
              rw [← ev_12] at hw
              refine lv_iload hx hb d_Mt_matchAtom_215 (lv_at hl 1 rfl) ?_
              refine lv_aload_n hx hb d_Mt_matchAtom_217 rfl (lv_at hl 4 rfl) ?_
              refine lv_aload_n hx hb d_Mt_matchAtom_218 rfl (lv_at hl 5 rfl) ?_
              refine lv_iload_n hx hb d_Mt_matchAtom_219 rfl (lv_at hl 6 rfl) ?_
              refine lv_aload_n hx hb d_Mt_matchAtom_220 rfl (lv_at hl 4 rfl) ?_
              refine xm_get (D := D) (v := .ref (ad iP)) (C := R_Mt) (T := F_Mt) (N := 2) hx hb hts (fun w h => List.mem_cons_of_mem _ (i_Mt w h)) hown hw (k_M v_9.2.2.1 v_12) rfl 0 (by decide) (hts _ (List.mem_cons_of_mem _ xw_73)) (fun _ h9 => h9) rfl d_Mt_matchAtom_221 ?_
              refine lv_iload hx hb d_Mt_matchAtom_224 (lv_at hl 3 rfl) ?_
              refine lv_iload hx hb d_Mt_matchAtom_226 (lv_at hl 0 rfl) ?_
              refine xm_calli (ua := fun _ => ad) (va_runV (As := [.int x_7, .int v_9.1]) (rest := [.int a, .ref (ad iU), .ref (ad iM), .int v_9.2.1]) ⟨hx, hb, hml, hown, hts⟩ (c_Pr_row (D := D) (ad := ad) (CE := ((CE v_9.2.2.1 v_12)))  (k_P v_9.2.2.1 v_12) (k_R v_9.2.2.1 v_12) h _) (xg_cwV 2 hts xw_180 xw_501 xw_178 xw_179 xw_5 rfl rfl (by decide +kernel) ⟨Nat.le_of_ble_eq_true rfl, Nat.le_of_ble_eq_true rfl⟩) (xm_preV hw (k_P v_9.2.2.1 v_12) rfl _) rfl rfl hl.1 rfl (lv_room (Nat.le_of_ble_eq_true rfl)) d_Mt_matchAtom_228 ⟨Nat.le_of_ble_eq_true rfl, Nat.le_of_ble_eq_true rfl⟩) hw (fun r_13 _ H locs h hw => ?_)
              exact False.elim h
          · have h := h.2 hc
            refine lv_aload_n hx hb d_Mt_matchAtom_166 rfl (lv_at hl 2 rfl) ?_
            refine lv_aload_n hx hb d_Mt_matchAtom_167 rfl (lv_at hl 3 rfl) ?_
            refine lv_iload_n hx hb d_Mt_matchAtom_168 rfl (lv_at hl 4 rfl) ?_
            refine lv_aload_n hx hb d_Mt_matchAtom_169 rfl (lv_at hl 2 rfl) ?_
            refine xm_get (D := D) (v := .ref (ad iP)) (C := R_Mt) (T := F_Mt) (N := 2) hx hb hts (fun w h => List.mem_cons_of_mem _ (i_Mt w h)) hown hw (k_M f v) rfl 0 (by decide) (hts _ (List.mem_cons_of_mem _ xw_73)) (fun _ h9 => h9) rfl d_Mt_matchAtom_170 ?_
            refine lv_iload hx hb d_Mt_matchAtom_173 (lv_at hl 1 rfl) ?_
            refine lv_aload_n hx hb d_Mt_matchAtom_175 rfl (lv_at hl 2 rfl) ?_
            refine xm_get (D := D) (v := .ref (ad iV)) (C := R_Mt) (T := F_Mt) (N := 2) hx hb hts (fun w h => List.mem_cons_of_mem _ (i_Mt w h)) hown hw (k_M f v) rfl 1 (by decide) (hts _ (List.mem_cons_of_mem _ xw_74)) (fun _ h9 => h9) rfl d_Mt_matchAtom_176 ?_
            refine lv_iload hx hb d_Mt_matchAtom_179 (lv_at hl 0 rfl) ?_
            refine lv_iconst (v := 1) hx hb d_Mt_matchAtom_181 (by decide) ?_
            refine lv_iadd hx hb d_Mt_matchAtom_182 ?_
            obtain ⟨hin, h⟩ := h
            refine xm_iald hx hb hw 0 (k_V f v) rfl hin d_Mt_matchAtom_183 ?_
            refine xm_calli (ua := fun _ => ad) (va_runV (As := [.int x_7, .int (v (Int32.toNatClampNeg (x_8 + 1)))]) (rest := [.int a, .ref (ad iU), .ref (ad iM)]) ⟨hx, hb, hml, hown, hts⟩ (c_Pr_row (D := D) (ad := ad) (CE := ((CE f v)))  (k_P f v) (k_R f v) h _) (xg_cwV 2 hts xw_180 xw_501 xw_178 xw_179 xw_5 rfl rfl (by decide +kernel) ⟨Nat.le_of_ble_eq_true rfl, Nat.le_of_ble_eq_true rfl⟩) (xm_preV hw (k_P f v) rfl _) rfl rfl hl.1 rfl (lv_room (Nat.le_of_ble_eq_true rfl)) d_Mt_matchAtom_184 ⟨Nat.le_of_ble_eq_true rfl, Nat.le_of_ble_eq_true rfl⟩) hw (fun r_21 _ H locs h hw => ?_)
            exact False.elim h
        · have h := h.2 hc
          refine lv_aload_n hx hb d_Mt_matchAtom_136 rfl (lv_at hl 2 rfl) ?_
          refine lv_aload_n hx hb d_Mt_matchAtom_137 rfl (lv_at hl 3 rfl) ?_
          refine lv_iload_n hx hb d_Mt_matchAtom_138 rfl (lv_at hl 4 rfl) ?_
          refine lv_aload_n hx hb d_Mt_matchAtom_139 rfl (lv_at hl 2 rfl) ?_
          refine xm_get (D := D) (v := .ref (ad iP)) (C := R_Mt) (T := F_Mt) (N := 2) hx hb hts (fun w h => List.mem_cons_of_mem _ (i_Mt w h)) hown hw (k_M f v) rfl 0 (by decide) (hts _ (List.mem_cons_of_mem _ xw_73)) (fun _ h9 => h9) rfl d_Mt_matchAtom_140 ?_
          refine lv_iload hx hb d_Mt_matchAtom_143 (lv_at hl 1 rfl) ?_
          refine xm_calli (ua := fun _ => ad) (va_runV (As := [.int x_7]) (rest := [.int a, .ref (ad iU), .ref (ad iM)]) ⟨hx, hb, hml, hown, hts⟩ (c_Pr_rowOfAny (D := D) (ad := ad) (CE := ((CE f v)))  (k_P f v) (k_R f v) h _) (xg_cwV 1 hts xw_495 xw_492 xw_493 xw_494 xw_5 rfl rfl (by decide +kernel) ⟨Nat.le_of_ble_eq_true rfl, Nat.le_of_ble_eq_true rfl⟩) (xm_preV hw (k_P f v) rfl _) rfl rfl hl.1 rfl (lv_room (Nat.le_of_ble_eq_true rfl)) d_Mt_matchAtom_145 ⟨Nat.le_of_ble_eq_true rfl, Nat.le_of_ble_eq_true rfl⟩) hw (fun r_27 _ H locs h hw => ?_)
          exact False.elim h
      · have h := h.2 hc
        refine lv_iload hx hb d_Mt_matchAtom_83 (lv_at hl 5 rfl) ?_
        refine xj_use h (fun (v_33 : Int32 × (Nat → Int32) × (Nat → Int32)) => ∀ (H : Heap) (locs : List Loc) (ls : Array Slot), xm_W D xcl (xT cI cZ cJ cO) (xm_A ad (CE f v) s.heap.size) ad (CE v_33.2.1 v_33.2.2) s s.heap H locs → lv_has ls 10 [] → W p l e rm_Mt_matchAtom_0 s m args below meth c H locs 0 0 QQ (F0 m 112 ls [.int v_33.1])) (fun v_33 h H locs ls hw hl => ?_) (fun J_34 hJ_34 h => ?_)
        · subst hQQ
          exact xm_zret hx hb hr hlk h.1 hw (v_33.2.1, v_33.2.2) rfl rfl h.2 d_Mt_matchAtom_112
        · refine xj_use h (fun (v_35 : (Nat → Int32) × (Nat → Int32)) => ∀ (H : Heap) (locs : List Loc) (ls : Array Slot), xm_W D xcl (xT cI cZ cJ cO) (xm_A ad (CE f v) s.heap.size) ad (CE v_35.1 v_35.2) s s.heap H locs → lv_has ls 10 [] → W p l e rm_Mt_matchAtom_0 s m args below meth c H locs 0 0 QQ (F0 m 111 ls [])) (fun v_35 h H locs ls hw hl => ?_) (fun J_36 hJ_36 h => ?_)
          · refine lv_iconst (v := 0) hx hb d_Mt_matchAtom_111 (by decide) ?_
            exact hJ_34 (0, v_35.1, v_35.2) h _ _ _ hw (lv_sub hl [] rfl)
          · refine lv_if_eq (tgt := 111) hx hb d_Mt_matchAtom_85 (by decide) (fun hc => ?_) (fun hc => ?_)
            · have h := h.1 hc
              exact hJ_36 (f, v) h _ _ _ hw (lv_sub hl [] rfl)
            · have h := h.2 hc
              refine lv_aload_n hx hb d_Mt_matchAtom_88 rfl (lv_at hl 0 rfl) ?_
              refine xm_get (D := D) (v := .ref (ad iP)) (C := R_Mt) (T := F_Mt) (N := 2) hx hb hts (fun w h => List.mem_cons_of_mem _ (i_Mt w h)) hown hw (k_M f v) rfl 0 (by decide) (hts _ (List.mem_cons_of_mem _ xw_73)) (fun _ h9 => h9) rfl d_Mt_matchAtom_89 ?_
              refine lv_aload_n hx hb d_Mt_matchAtom_92 rfl (lv_at hl 1 rfl) ?_
              refine xm_get (D := D) (v := .ref (ad iA)) (C := R_Ru) (T := F_Ru) (N := 4) hx hb hts (fun w h => List.mem_cons_of_mem _ (i_Ru w h)) hown hw (k_U f v) rfl 0 (by decide) (hts _ (List.mem_cons_of_mem _ xw_87)) (fun _ h9 => h9) rfl d_Mt_matchAtom_93 ?_
              refine lv_iconst (v := 0) hx hb d_Mt_matchAtom_96 (by decide) ?_
              obtain ⟨hin, h⟩ := h
              refine xm_iald hx hb hw 0 (k_A f v) rfl hin d_Mt_matchAtom_97 ?_
              refine lv_iload_n hx hb d_Mt_matchAtom_98 rfl (lv_at hl 3 rfl) ?_
              refine lv_iload hx hb d_Mt_matchAtom_99 (lv_at hl 4 rfl) ?_
              refine xm_calli (ua := fun _ => ad) (va_runV (As := [.int (rs (Int32.toNatClampNeg 0)), .int x_1, .int x_2]) (rest := []) ⟨hx, hb, hml, hown, hts⟩ (c_Pr_put (D := D) (ad := ad) (CE := (fun f => (CE f v)))  (fun f => k_P f v) (fun f => k_R f v) (fun f f' => u_R f v f') h _) (xg_cwV 3 hts xw_321 xw_491 xw_319 xw_320 xw_5 rfl rfl (by decide +kernel) ⟨Nat.le_of_ble_eq_true rfl, Nat.le_of_ble_eq_true rfl⟩) (xm_preV hw (k_P f v) rfl _) rfl rfl hl.1 rfl (lv_room (Nat.le_of_ble_eq_true rfl)) d_Mt_matchAtom_101 ⟨Nat.le_of_ble_eq_true rfl, Nat.le_of_ble_eq_true rfl⟩) hw (fun r_37 u_38 H locs h hw => ?_)
              obtain ⟨f_39, ef_39⟩ : ∃ z, z = u_38 := ⟨_, rfl⟩
              try dsimp only at h hw
              rw [← ef_39] at h hw
              refine lv_if_eq (tgt := 111) hx hb d_Mt_matchAtom_104 (by decide) (fun hc => ?_) (fun hc => ?_)
              · have h := h.1 hc
                exact hJ_36 (f_39, v) h _ _ _ hw (lv_sub hl [] rfl)
              · have h := h.2 hc
                refine lv_iconst (v := 1) hx hb d_Mt_matchAtom_107 (by decide) ?_
                refine lv_goto (tgt := 112) hx hb d_Mt_matchAtom_108 (by decide) ?_
                exact hJ_34 (1, f_39, v) h _ _ _ hw (lv_sub hl [] rfl)
    · refine lv_if_eq (tgt := 75) hx hb d_Mt_matchAtom_51 (by decide) (fun hc => ?_) (fun hc => ?_)
      · have h := h.1 hc
        exact hJ_6 () h _ _ _ hw (lv_sub hl [1, 2, 3, 4, 5, 0] rfl)
      · have h := h.2 hc
        refine lv_aload_n hx hb d_Mt_matchAtom_54 rfl (lv_at hl 1 rfl) ?_
        refine xm_get (D := D) (v := .ref (ad iP)) (C := R_Mt) (T := F_Mt) (N := 2) hx hb hts (fun w h => List.mem_cons_of_mem _ (i_Mt w h)) hown hw (k_M f v) rfl 0 (by decide) (hts _ (List.mem_cons_of_mem _ xw_73)) (fun _ h9 => h9) rfl d_Mt_matchAtom_55 ?_
        refine lv_aload_n hx hb d_Mt_matchAtom_58 rfl (lv_at hl 2 rfl) ?_
        refine xm_get (D := D) (v := .ref (ad iA)) (C := R_Ru) (T := F_Ru) (N := 4) hx hb hts (fun w h => List.mem_cons_of_mem _ (i_Ru w h)) hown hw (k_U f v) rfl 0 (by decide) (hts _ (List.mem_cons_of_mem _ xw_87)) (fun _ h9 => h9) rfl d_Mt_matchAtom_59 ?_
        refine lv_iconst (v := 0) hx hb d_Mt_matchAtom_62 (by decide) ?_
        obtain ⟨hin, h⟩ := h
        refine xm_iald hx hb hw 0 (k_A f v) rfl hin d_Mt_matchAtom_63 ?_
        refine lv_iload_n hx hb d_Mt_matchAtom_64 rfl (lv_at hl 4 rfl) ?_
        refine lv_iload hx hb d_Mt_matchAtom_65 (lv_at hl 5 rfl) ?_
        refine xm_calli (ua := fun _ => ad) (va_runV (As := [.int (rs (Int32.toNatClampNeg 0)), .int x_1, .int x_2]) (rest := []) ⟨hx, hb, hml, hown, hts⟩ (c_Pr_has (D := D) (ad := ad) (CE := ((CE f v)))  (k_P f v) (k_R f v) h _) (xg_cwV 3 hts xw_176 xw_490 xw_174 xw_175 xw_5 rfl rfl (by decide +kernel) ⟨Nat.le_of_ble_eq_true rfl, Nat.le_of_ble_eq_true rfl⟩) (xm_preV hw (k_P f v) rfl _) rfl rfl hl.1 rfl (lv_room (Nat.le_of_ble_eq_true rfl)) d_Mt_matchAtom_67 ⟨Nat.le_of_ble_eq_true rfl, Nat.le_of_ble_eq_true rfl⟩) hw (fun r_40 _ H locs h hw => ?_)
        refine lv_if_eq (tgt := 75) hx hb d_Mt_matchAtom_70 (by decide) (fun hc => ?_) (fun hc => ?_)
        · have h := h.1 hc
          exact hJ_6 () h _ _ _ hw (lv_sub hl [1, 2, 3, 4, 5, 0] rfl)
        · have h := h.2 hc
          refine lv_iconst (v := 0) hx hb d_Mt_matchAtom_73 (by decide) ?_
          subst hQQ
          exact xm_zret hx hb hr hlk rfl hw (f, v) rfl rfl h d_Mt_matchAtom_74
  · refine xj_use h (fun (v_42 : Unit) => ∀ (H : Heap) (locs : List Loc) (ls : Array Slot), xm_W D xcl (xT cI cZ cJ cO) (xm_A ad (CE f v) s.heap.size) ad (CE f v) s s.heap H locs → lv_has ls 10 [(0, .ref (ad iM)), (1, .ref (ad iU)), (2, .int a), (3, .int x_1), (4, .int x_2)] → W p l e rm_Mt_matchAtom_0 s m args below meth c H locs 0 0 QQ (F0 m 46 ls [])) (fun v_42 h H locs ls hw hl => ?_) (fun J_43 hJ_43 h => ?_)
    · refine lv_iconst (v := 0) hx hb d_Mt_matchAtom_46 (by decide) ?_
      exact hJ_4 0 h _ _ _ hw (lv_sub hl [0, 1, 2, 3, 4] rfl)
    · refine lv_icmp_eq (tgt := 46) hx hb d_Mt_matchAtom_32 (by decide) (fun hc => ?_) (fun hc => ?_)
      · have h := h.1 hc
        exact hJ_43 () h _ _ _ hw (lv_sub hl [2, 3, 4, 1, 0] rfl)
      · have h := h.2 hc
        refine lv_iload hx hb d_Mt_matchAtom_35 (lv_at hl 0 rfl) ?_
        refine lv_bipush (v := (-2)) hx hb d_Mt_matchAtom_37 (by decide) ?_
        refine lv_icmp_eq (tgt := 46) hx hb d_Mt_matchAtom_39 (by decide) (fun hc => ?_) (fun hc => ?_)
        · have h := h.1 hc
          exact hJ_43 () h _ _ _ hw (lv_sub hl [2, 3, 4, 1, 0] rfl)
        · have h := h.2 hc
          refine lv_iconst (v := 1) hx hb d_Mt_matchAtom_42 (by decide) ?_
          refine lv_goto (tgt := 47) hx hb d_Mt_matchAtom_43 (by decide) ?_
          exact hJ_4 1 h _ _ _ hw (lv_sub hl [2, 3, 4, 1, 0] rfl)
theorem xw_489 : (Jvm.Cond.code ({ cls := "QuestionDesk$Matcher", name := "matchAtom", desc := "(LQuestionDesk$Rule;I)Z" } : Jvm.MethodName) prog_2_method_3_code (10 : Nat) (Option.some Jvm.ClassFile.FieldType.boolean)) ∈ xg := xg_t (i := 489) (by decide +kernel) (by decide +kernel)
theorem xw_6 : (Jvm.Cond.initialized "QuestionDesk$Matcher") ∈ xg := xg_t (i := 6) (by decide +kernel) (by decide +kernel)
theorem xw_486 : (Jvm.Cond.methodLink "QuestionDesk$Matcher" (19 : Nat) ({ cls := "QuestionDesk$Matcher", name := "matchAtom", desc := "(LQuestionDesk$Rule;I)Z" } : Jvm.MethodName)) ∈ xg := xg_t (i := 486) (by decide +kernel) (by decide +kernel)
theorem xw_488 : (Jvm.Cond.instanceMethod ({ cls := "QuestionDesk$Matcher", name := "matchAtom", desc := "(LQuestionDesk$Rule;I)Z" } : Jvm.MethodName)) ∈ xg := xg_t (i := 488) (by decide +kernel) (by decide +kernel)
theorem xw_p15 : Cond.selects "QuestionDesk$Matcher" ⟨"QuestionDesk$Matcher", "matchAtom", "(LQuestionDesk$Rule;I)Z"⟩ ⟨"QuestionDesk$Matcher", "matchAtom", "(LQuestionDesk$Rule;I)Z"⟩ ∈ xg := xg_p (q := (⟨"QuestionDesk$Matcher", "matchAtom", "(LQuestionDesk$Rule;I)Z"⟩, 2)) (i := 15) (by decide +kernel) (by decide +kernel)
theorem xw_500 : (Jvm.Cond.methodLink "QuestionDesk$Matcher" (59 : Nat) ({ cls := "QuestionDesk$Pairs", name := "isIn", desc := "(II)Z" } : Jvm.MethodName)) ∈ xg := xg_t (i := 500) (by decide +kernel) (by decide +kernel)
def wp_Mt_matchSecond (WA : (Int32 → (Nat → Int32) → (Nat → Int32) → Prop) → (Nat → Int32) → (Nat → Int32) → (Nat → Int32) → Int32 → (Nat → Int32) → (Nat → Int32) → Int32 → Prop) (post : Int32 → (Nat → Int32) → (Nat → Int32) → Prop)  (rs : Nat → Int32) (rf : Nat → Int32) (rc : Nat → Int32) (na : Int32) (f : Nat → Int32) (v : Nat → Int32) (a : Int32) (row : Int32) : Prop :=
vp_in a 4 ∧
∀ x_1 : Int32, x_1 = rc (Int32.toNatClampNeg a) →
((¬ x_1 = 18 →
vp_in (x_1 + 1) 20 ∧
(((v (Int32.toNatClampNeg (x_1 + 1))) = (-2) →
xL (fun (K_3 : Int32 × Int32 × (Nat → Int32) × (Nat → Int32) → Prop) (v_2 : Int32 × Int32 × (Nat → Int32) × (Nat → Int32)) =>
xj (fun (v_4 : Unit) =>
vp_in (x_1 + 1) 20 ∧
∀ v_6 : Nat → Int32, v_6 = upd v_2.2.2.2 (Int32.toNatClampNeg (x_1 + 1)) (-2) →
(narrow .boolean (.int v_2.2.1) = .int v_2.2.1 ∧ post v_2.2.1 v_2.2.2.1 v_6)) (fun (J_5 : Unit → Prop) =>
((10 ≤ v_2.1 →
J_5 ()) ∧ (¬ 10 ≤ v_2.1 →
(((row >>> ((v_2.1 + 1) &&& 31)) = 0 →
J_5 ()) ∧ (¬ (row >>> ((v_2.1 + 1) &&& 31)) = 0 →
wp_Pr_isIn (fun r_7 =>
xj (fun (v_9 : Int32 × (Nat → Int32) × (Nat → Int32)) =>
∀ x_11 : Int32, x_11 = v_2.1 + 1 →
K_3 (x_11, v_9.1, v_9.2.1, v_9.2.2)) (fun (J_10 : Int32 × (Nat → Int32) × (Nat → Int32) → Prop) =>
((r_7 = 0 →
J_10 (v_2.2.1, v_2.2.2.1, v_2.2.2.2)) ∧ (¬ r_7 = 0 →
vp_in (x_1 + 1) 20 ∧
∀ v_12 : Nat → Int32, v_12 = upd v_2.2.2.2 (Int32.toNatClampNeg (x_1 + 1)) v_2.1 →
WA (fun r_13 f_15 v_16 =>
∀ x_17 : Int32, x_17 = v_2.2.1 ||| r_13 →
J_10 (x_17, f_15, v_16)) rs rf rc na v_2.2.2.1 v_12 (a + 1))))) row v_2.1)))))) (0, 0, f, v)) ∧ (¬ (v (Int32.toNatClampNeg (x_1 + 1))) = (-2) →
vp_in (x_1 + 1) 20 ∧
wp_Pr_isIn (fun r_18 =>
xj (fun (v_20 : Int32 × (Nat → Int32) × (Nat → Int32)) =>
(narrow .boolean (.int v_20.1) = .int v_20.1 ∧ post v_20.1 v_20.2.1 v_20.2.2)) (fun (J_21 : Int32 × (Nat → Int32) × (Nat → Int32) → Prop) =>
xj (fun (v_22 : (Nat → Int32) × (Nat → Int32)) =>
J_21 (0, v_22.1, v_22.2)) (fun (J_23 : (Nat → Int32) × (Nat → Int32) → Prop) =>
((r_18 = 0 →
J_23 (f, v)) ∧ (¬ r_18 = 0 →
WA (fun r_24 f_26 v_27 =>
((r_24 = 0 →
J_23 (f_26, v_27)) ∧ (¬ r_24 = 0 →
J_21 (1, f_26, v_27)))) rs rf rc na f v (a + 1)))))) row (v (Int32.toNatClampNeg (x_1 + 1)))))) ∧ (x_1 = 18 →
xj (fun (v_28 : Int32 × (Nat → Int32) × (Nat → Int32)) =>
(narrow .boolean (.int v_28.1) = .int v_28.1 ∧ post v_28.1 v_28.2.1 v_28.2.2)) (fun (J_29 : Int32 × (Nat → Int32) × (Nat → Int32) → Prop) =>
xj (fun (v_30 : (Nat → Int32) × (Nat → Int32)) =>
J_29 (0, v_30.1, v_30.2)) (fun (J_31 : (Nat → Int32) × (Nat → Int32) → Prop) =>
(((row >>> (1 &&& 31)) = 0 →
J_31 (f, v)) ∧ (¬ (row >>> (1 &&& 31)) = 0 →
WA (fun r_32 f_34 v_35 =>
((r_32 = 0 →
J_31 (f_34, v_35)) ∧ (¬ r_32 = 0 →
J_29 (1, f_34, v_35)))) rs rf rc na f v (a + 1)))))))
def wp_Mt_matchSecond_0 (post : Int32 → (Nat → Int32) → (Nat → Int32) → Prop)  (rs : Nat → Int32) (rf : Nat → Int32) (rc : Nat → Int32) (na : Int32) (f : Nat → Int32) (v : Nat → Int32) (a : Int32) (row : Int32) : Prop := wp_Mt_matchSecond wp_Mt_matchAtom_0 post rs rf rc na f v a row
abbrev rm_Mt_matchSecond_0 : Room := { frames := 3, cells := 0, slots := 0, locals := 74 }
set_option maxHeartbeats 4000000 in
set_option maxRecDepth 100000 in
theorem c_Mt_matchSecond_0 {l : Launch} {D : va_G} {ad : Nat → Nat} (CE : (Nat → Int32) → (Nat → Int32) → Nat → Option va_E) {cI cZ cJ cO : ClassId} {iM : Nat} {iV : Nat} {iP : Nat} {iR : Nat} {iU : Nat} {iA : Nat} {iB : Nat} {iC : Nat} {rs : Nat → Int32} {rf : Nat → Int32} {rc : Nat → Int32} {na : Int32} (k_M : ∀ (f : Nat → Int32) (v : Nat → Int32), (CE f v) iM = some (.inr (2, [.ref (ad iP), .ref (ad iV)]))) (k_V : ∀ (f : Nat → Int32) (v : Nat → Int32), (CE f v) iV = some (.inl (cI, 20, .inl v))) (k_P : ∀ (f : Nat → Int32) (v : Nat → Int32), (CE f v) iP = some (.inr (1, [.ref (ad iR)]))) (k_R : ∀ (f : Nat → Int32) (v : Nat → Int32), (CE f v) iR = some (.inl (cI, 341, .inl f))) (k_U : ∀ (f : Nat → Int32) (v : Nat → Int32), (CE f v) iU = some (.inr (3, [.ref (ad iA), .ref (ad iB), .ref (ad iC), .int na]))) (k_A : ∀ (f : Nat → Int32) (v : Nat → Int32), (CE f v) iA = some (.inl (cI, 4, .inl rs))) (k_B : ∀ (f : Nat → Int32) (v : Nat → Int32), (CE f v) iB = some (.inl (cI, 4, .inl rf))) (k_C : ∀ (f : Nat → Int32) (v : Nat → Int32), (CE f v) iC = some (.inl (cI, 4, .inl rc))) (u_V : ∀ (f : Nat → Int32) (v : Nat → Int32) (v' : Nat → Int32), va_up (CE f v) iV (some (.inl (cI, 20, .inl v'))) = (CE f v')) (u_R : ∀ (f : Nat → Int32) (v : Nat → Int32) (f' : Nat → Int32), va_up (CE f v) iR (some (.inl (cI, 341, .inl f'))) = (CE f' v)) {post : Int32 → (Nat → Int32) → (Nat → Int32) → Prop} {f : Nat → Int32} {v : Nat → Int32} {a : Int32} {row : Int32} (h : wp_Mt_matchSecond_0 post rs rf rc na f v a row) : ∀ sz, Met l y_Mt_matchSecond (Cond.code y_Mt_matchSecond b_Mt_matchSecond 7 (some .boolean) :: xg) rm_Mt_matchSecond_0 (xm_Pc D xcl (xT cI cZ cJ cO) ad (CE f v) sz [.ref (ad iM), .ref (ad iU), .int a, .int row]) (va_Qi (fun (r : Int32) (u : (Nat → Int32) × (Nat → Int32)) => post r u.1 u.2) (xm_B D xcl (xT cI cZ cJ cO) (xm_A ad (CE f v) sz) (fun _ => ad) (fun u : (Nat → Int32) × (Nat → Int32) => CE u.1 u.2)) (xm_A ad (CE f v) sz)) 0 0 (xm_A ad (CE f v) sz) := by
  refine xm_ofW (cc := b_Mt_matchSecond) (maxL := 7) (ret := (some .boolean)) (by decide) rfl (Nat.le_of_ble_eq_true rfl) ?_
  intro p e s m args below meth c ls QQ hQQ hx hb hml hr hown hlk hnm hts hl hw
  have hl : lv_has ls 7 [(0, .ref (ad iM)), (1, .ref (ad iU)), (2, .int a), (3, .int row)] := hl
  unfold wp_Mt_matchSecond_0 wp_Mt_matchSecond at h
  refine lv_aload_n hx hb d_Mt_matchSecond_0 rfl (lv_at hl 1 rfl) ?_
  refine xm_get (D := D) (v := .ref (ad iC)) (C := R_Ru) (T := F_Ru) (N := 4) hx hb hts (fun w h => List.mem_cons_of_mem _ (i_Ru w h)) hown hw (k_U f v) rfl 2 (by decide) (hts _ (List.mem_cons_of_mem _ xw_93)) (fun _ h9 => h9) rfl d_Mt_matchSecond_1 ?_
  refine lv_iload_n hx hb d_Mt_matchSecond_4 rfl (lv_at hl 2 rfl) ?_
  obtain ⟨hin, h⟩ := h
  refine xm_iald hx hb hw 0 (k_C f v) rfl hin d_Mt_matchSecond_5 ?_
  refine lv_topi (fun x_1 ex_1 => ?_)
  have h := h x_1 ex_1
  refine lv_istore (lv' := [(4, .int x_1), (0, .ref (ad iM)), (1, .ref (ad iU)), (2, .int a), (3, .int row)]) hx hb d_Mt_matchSecond_6 hl (by decide) rfl (fun ls hl => ?_)
  refine lv_iload hx hb d_Mt_matchSecond_8 (lv_at hl 0 rfl) ?_
  refine lv_bipush (v := 18) hx hb d_Mt_matchSecond_10 (by decide) ?_
  refine lv_icmp_ne (tgt := 38) hx hb d_Mt_matchSecond_12 (by decide) (fun hc => ?_) (fun hc => ?_)
  · have h := h.1 hc
    refine lv_aload_n hx hb d_Mt_matchSecond_38 rfl (lv_at hl 1 rfl) ?_
    refine xm_get (D := D) (v := .ref (ad iV)) (C := R_Mt) (T := F_Mt) (N := 2) hx hb hts (fun w h => List.mem_cons_of_mem _ (i_Mt w h)) hown hw (k_M f v) rfl 1 (by decide) (hts _ (List.mem_cons_of_mem _ xw_74)) (fun _ h9 => h9) rfl d_Mt_matchSecond_39 ?_
    refine lv_iload hx hb d_Mt_matchSecond_42 (lv_at hl 0 rfl) ?_
    refine lv_iconst (v := 1) hx hb d_Mt_matchSecond_44 (by decide) ?_
    refine lv_iadd hx hb d_Mt_matchSecond_45 ?_
    obtain ⟨hin, h⟩ := h
    refine xm_iald hx hb hw 0 (k_V f v) rfl hin d_Mt_matchSecond_46 ?_
    refine lv_bipush (v := (-2)) hx hb d_Mt_matchSecond_47 (by decide) ?_
    refine lv_icmp_eq (tgt := 85) hx hb d_Mt_matchSecond_49 (by decide) (fun hc => ?_) (fun hc => ?_)
    · have h := h.1 hc
      refine lv_iconst (v := 0) hx hb d_Mt_matchSecond_85 (by decide) ?_
      refine lv_istore (lv' := [(5, .int 0), (4, .int x_1), (0, .ref (ad iM)), (1, .ref (ad iU)), (2, .int a), (3, .int row)]) hx hb d_Mt_matchSecond_86 hl (by decide) rfl (fun ls hl => ?_)
      refine lv_iconst (v := 0) hx hb d_Mt_matchSecond_88 (by decide) ?_
      refine lv_istore (lv' := [(6, .int 0), (5, .int 0), (4, .int x_1), (0, .ref (ad iM)), (1, .ref (ad iU)), (2, .int a), (3, .int row)]) hx hb d_Mt_matchSecond_89 hl (by decide) rfl (fun ls hl => ?_)
      refine xL_use h (fun (v_2 : Int32 × Int32 × (Nat → Int32) × (Nat → Int32)) => ∀ (H : Heap) (locs : List Loc) (ls : Array Slot), xm_W D xcl (xT cI cZ cJ cO) (xm_A ad (CE f v) s.heap.size) ad (CE v_2.2.2.1 v_2.2.2.2) s s.heap H locs → lv_has ls 7 [(6, .int v_2.1), (5, .int v_2.2.1), (4, .int x_1), (0, .ref (ad iM)), (1, .ref (ad iU)), (2, .int a), (3, .int row)] → W p l e rm_Mt_matchSecond_0 s m args below meth c H locs 0 0 QQ (F0 m 91 ls [])) (fun K_3 hK_3 v_2 h H locs ls hw hl => ?_) _ _ _ hw (lv_sub hl [0, 1, 2, 3, 4, 5, 6] rfl)
      refine lv_iload hx hb d_Mt_matchSecond_91 (lv_at hl 0 rfl) ?_
      refine lv_bipush (v := 10) hx hb d_Mt_matchSecond_93 (by decide) ?_
      refine xj_use h (fun (v_4 : Unit) => ∀ (H : Heap) (locs : List Loc) (ls : Array Slot), xm_W D xcl (xT cI cZ cJ cO) (xm_A ad (CE f v) s.heap.size) ad (CE v_2.2.2.1 v_2.2.2.2) s s.heap H locs → lv_has ls 7 [(0, .ref (ad iM)), (4, .int x_1), (5, .int v_2.2.1)] → W p l e rm_Mt_matchSecond_0 s m args below meth c H locs 0 0 QQ (F0 m 146 ls [])) (fun v_4 h H locs ls hw hl => ?_) (fun J_5 hJ_5 h => ?_)
      · refine lv_aload_n hx hb d_Mt_matchSecond_146 rfl (lv_at hl 0 rfl) ?_
        refine xm_get (D := D) (v := .ref (ad iV)) (C := R_Mt) (T := F_Mt) (N := 2) hx hb hts (fun w h => List.mem_cons_of_mem _ (i_Mt w h)) hown hw (k_M v_2.2.2.1 v_2.2.2.2) rfl 1 (by decide) (hts _ (List.mem_cons_of_mem _ xw_74)) (fun _ h9 => h9) rfl d_Mt_matchSecond_147 ?_
        refine lv_iload hx hb d_Mt_matchSecond_150 (lv_at hl 1 rfl) ?_
        refine lv_iconst (v := 1) hx hb d_Mt_matchSecond_152 (by decide) ?_
        refine lv_iadd hx hb d_Mt_matchSecond_153 ?_
        refine lv_bipush (v := (-2)) hx hb d_Mt_matchSecond_154 (by decide) ?_
        obtain ⟨hin, h⟩ := h
        refine xm_iast hx hb hw 0 (k_V v_2.2.2.1 v_2.2.2.2) rfl hin d_Mt_matchSecond_156 (fun H locs hw => ?_)
        have hw : xm_W D xcl (xT cI cZ cJ cO) (xm_A ad (CE f v) s.heap.size) ad (CE v_2.2.2.1 (upd v_2.2.2.2 (Int32.toNatClampNeg (x_1 + 1)) (-2))) s s.heap H locs := xm_W.cast (u_V v_2.2.2.1 v_2.2.2.2 (upd v_2.2.2.2 (Int32.toNatClampNeg (x_1 + 1)) (-2))) hw
        obtain ⟨v_6, ev_6⟩ : ∃ z : Nat → Int32, z = upd v_2.2.2.2 (Int32.toNatClampNeg (x_1 + 1)) (-2) := ⟨_, rfl⟩
        have h := h v_6 ev_6
        rw [← ev_6] at hw
        refine lv_iload hx hb d_Mt_matchSecond_157 (lv_at hl 2 rfl) ?_
        subst hQQ
        exact xm_zret hx hb hr hlk h.1 hw (v_2.2.2.1, v_6) rfl rfl h.2 d_Mt_matchSecond_159
      · refine lv_icmp_ge (tgt := 146) hx hb d_Mt_matchSecond_95 (by decide) (fun hc => ?_) (fun hc => ?_)
        · have h := h.1 hc
          exact hJ_5 () h _ _ _ hw (lv_sub hl [3, 2, 1] rfl)
        · have h := h.2 hc
          refine lv_iload_n hx hb d_Mt_matchSecond_98 rfl (lv_at hl 6 rfl) ?_
          refine lv_iload hx hb d_Mt_matchSecond_99 (lv_at hl 0 rfl) ?_
          refine lv_iconst (v := 1) hx hb d_Mt_matchSecond_101 (by decide) ?_
          refine lv_iadd hx hb d_Mt_matchSecond_102 ?_
          refine lv_ishr hx hb d_Mt_matchSecond_103 ?_
          refine lv_if_eq (tgt := 146) hx hb d_Mt_matchSecond_104 (by decide) (fun hc => ?_) (fun hc => ?_)
          · have h := h.1 hc
            exact hJ_5 () h _ _ _ hw (lv_sub hl [3, 2, 1] rfl)
          · have h := h.2 hc
            refine lv_iload_n hx hb d_Mt_matchSecond_107 rfl (lv_at hl 6 rfl) ?_
            refine lv_iload hx hb d_Mt_matchSecond_108 (lv_at hl 0 rfl) ?_
            refine xm_calli (ua := fun _ => ad) (va_runS (As := [.int row, .int v_2.1]) (rest := []) ⟨hx, hb, hml, hown, hts⟩ (c_Pr_isIn (D := D) (ad := ad) (CE := ((CE v_2.2.2.1 v_2.2.2.2)))   h _) (xg_cwS 2 hts xw_183 xw_500 xw_182 xw_5 rfl rfl (by decide +kernel) ⟨Nat.le_of_ble_eq_true rfl, Nat.le_of_ble_eq_true rfl⟩) (xm_pre hw _) rfl rfl hl.1 rfl (lv_room (Nat.le_of_ble_eq_true rfl)) d_Mt_matchSecond_110 ⟨Nat.le_of_ble_eq_true rfl, Nat.le_of_ble_eq_true rfl⟩) hw (fun r_7 _ H locs h hw => ?_)
            refine xj_use h (fun (v_9 : Int32 × (Nat → Int32) × (Nat → Int32)) => ∀ (H : Heap) (locs : List Loc) (ls : Array Slot), xm_W D xcl (xT cI cZ cJ cO) (xm_A ad (CE f v) s.heap.size) ad (CE v_9.2.1 v_9.2.2) s s.heap H locs → lv_has ls 7 [(0, .ref (ad iM)), (1, .ref (ad iU)), (2, .int a), (3, .int row), (4, .int x_1), (5, .int v_9.1), (6, .int v_2.1)] → W p l e rm_Mt_matchSecond_0 s m args below meth c H locs 0 0 QQ (F0 m 140 ls [])) (fun v_9 h H locs ls hw hl => ?_) (fun J_10 hJ_10 h => ?_)
            · obtain ⟨x_11, ex_11⟩ : ∃ y : Int32, y = v_2.1 + 1 := ⟨_, rfl⟩
              have h := h x_11 ex_11
              refine lv_iinc (v := x_11) (lv' := [(6, .int x_11), (0, .ref (ad iM)), (1, .ref (ad iU)), (2, .int a), (3, .int row), (4, .int x_1), (5, .int v_9.1)]) hx hb d_Mt_matchSecond_140 hl (k := 6) rfl (by rw [ex_11]; rfl) (by decide) rfl (fun ls hl => ?_)
              refine lv_goto (tgt := 91) hx hb d_Mt_matchSecond_143 (by decide) ?_
              exact hK_3 (x_11, v_9.1, v_9.2.1, v_9.2.2) h _ _ _ hw (lv_sub hl [0, 6, 5, 1, 2, 3, 4] rfl)
            · refine lv_if_eq (tgt := 140) hx hb d_Mt_matchSecond_113 (by decide) (fun hc => ?_) (fun hc => ?_)
              · have h := h.1 hc
                exact hJ_10 (v_2.2.1, v_2.2.2.1, v_2.2.2.2) h _ _ _ hw (lv_sub hl [3, 4, 5, 6, 2, 1, 0] rfl)
              · have h := h.2 hc
                refine lv_aload_n hx hb d_Mt_matchSecond_116 rfl (lv_at hl 3 rfl) ?_
                refine xm_get (D := D) (v := .ref (ad iV)) (C := R_Mt) (T := F_Mt) (N := 2) hx hb hts (fun w h => List.mem_cons_of_mem _ (i_Mt w h)) hown hw (k_M v_2.2.2.1 v_2.2.2.2) rfl 1 (by decide) (hts _ (List.mem_cons_of_mem _ xw_74)) (fun _ h9 => h9) rfl d_Mt_matchSecond_117 ?_
                refine lv_iload hx hb d_Mt_matchSecond_120 (lv_at hl 2 rfl) ?_
                refine lv_iconst (v := 1) hx hb d_Mt_matchSecond_122 (by decide) ?_
                refine lv_iadd hx hb d_Mt_matchSecond_123 ?_
                refine lv_iload hx hb d_Mt_matchSecond_124 (lv_at hl 0 rfl) ?_
                obtain ⟨hin, h⟩ := h
                refine xm_iast hx hb hw 0 (k_V v_2.2.2.1 v_2.2.2.2) rfl hin d_Mt_matchSecond_126 (fun H locs hw => ?_)
                have hw : xm_W D xcl (xT cI cZ cJ cO) (xm_A ad (CE f v) s.heap.size) ad (CE v_2.2.2.1 (upd v_2.2.2.2 (Int32.toNatClampNeg (x_1 + 1)) v_2.1)) s s.heap H locs := xm_W.cast (u_V v_2.2.2.1 v_2.2.2.2 (upd v_2.2.2.2 (Int32.toNatClampNeg (x_1 + 1)) v_2.1)) hw
                obtain ⟨v_12, ev_12⟩ : ∃ z : Nat → Int32, z = upd v_2.2.2.2 (Int32.toNatClampNeg (x_1 + 1)) v_2.1 := ⟨_, rfl⟩
                have h := h v_12 ev_12
                rw [← ev_12] at hw
                refine lv_iload hx hb d_Mt_matchSecond_127 (lv_at hl 1 rfl) ?_
                refine lv_aload_n hx hb d_Mt_matchSecond_129 rfl (lv_at hl 3 rfl) ?_
                refine lv_aload_n hx hb d_Mt_matchSecond_130 rfl (lv_at hl 4 rfl) ?_
                refine lv_iload_n hx hb d_Mt_matchSecond_131 rfl (lv_at hl 5 rfl) ?_
                refine lv_iconst (v := 1) hx hb d_Mt_matchSecond_132 (by decide) ?_
                refine lv_iadd hx hb d_Mt_matchSecond_133 ?_
                refine xm_calli (ua := fun _ => ad) (va_runV (As := [.ref (ad iU), .int (a + 1)]) (rest := [.int v_2.2.1]) ⟨hx, hb, hml, hown, hts⟩ (c_Mt_matchAtom_0 (D := D) (ad := ad) (CE := (fun f v => (CE f v)))  (fun f v => k_M f v) (fun f v => k_V f v) (fun f v => k_P f v) (fun f v => k_R f v) (fun f v => k_U f v) (fun f v => k_A f v) (fun f v => k_B f v) (fun f v => k_C f v) (fun f v v' => u_V f v v') (fun f v f' => u_R f v f') h _) (xg_cwV 2 hts xw_489 xw_486 xw_488 xw_p15 xw_6 rfl rfl (by decide +kernel) ⟨Nat.le_of_ble_eq_true rfl, Nat.le_of_ble_eq_true rfl⟩) (xm_preV hw (k_M v_2.2.2.1 v_12) rfl _) rfl rfl hl.1 rfl (lv_room (Nat.le_of_ble_eq_true rfl)) d_Mt_matchSecond_134 ⟨Nat.le_of_ble_eq_true rfl, Nat.le_of_ble_eq_true rfl⟩) hw (fun r_13 u_14 H locs h hw => ?_)
                obtain ⟨f_15, ef_15⟩ : ∃ z, z = u_14.1 := ⟨_, rfl⟩
                obtain ⟨v_16, ev_16⟩ : ∃ z, z = u_14.2 := ⟨_, rfl⟩
                try dsimp only at h hw
                rw [← ef_15, ← ev_16] at h hw
                refine lv_ior hx hb d_Mt_matchSecond_137 ?_
                refine lv_topi (fun x_17 ex_17 => ?_)
                have h := h x_17 ex_17
                refine lv_istore (lv' := [(5, .int x_17), (6, .int v_2.1), (4, .int x_1), (0, .ref (ad iM)), (1, .ref (ad iU)), (2, .int a), (3, .int row)]) hx hb d_Mt_matchSecond_138 hl (by decide) rfl (fun ls hl => ?_)
                exact hJ_10 (x_17, f_15, v_16) h _ _ _ hw (lv_sub hl [3, 4, 5, 6, 2, 0, 1] rfl)
    · have h := h.2 hc
      refine lv_iload_n hx hb d_Mt_matchSecond_52 rfl (lv_at hl 4 rfl) ?_
      refine lv_aload_n hx hb d_Mt_matchSecond_53 rfl (lv_at hl 1 rfl) ?_
      refine xm_get (D := D) (v := .ref (ad iV)) (C := R_Mt) (T := F_Mt) (N := 2) hx hb hts (fun w h => List.mem_cons_of_mem _ (i_Mt w h)) hown hw (k_M f v) rfl 1 (by decide) (hts _ (List.mem_cons_of_mem _ xw_74)) (fun _ h9 => h9) rfl d_Mt_matchSecond_54 ?_
      refine lv_iload hx hb d_Mt_matchSecond_57 (lv_at hl 0 rfl) ?_
      refine lv_iconst (v := 1) hx hb d_Mt_matchSecond_59 (by decide) ?_
      refine lv_iadd hx hb d_Mt_matchSecond_60 ?_
      obtain ⟨hin, h⟩ := h
      refine xm_iald hx hb hw 0 (k_V f v) rfl hin d_Mt_matchSecond_61 ?_
      refine xm_calli (ua := fun _ => ad) (va_runS (As := [.int row, .int (v (Int32.toNatClampNeg (x_1 + 1)))]) (rest := []) ⟨hx, hb, hml, hown, hts⟩ (c_Pr_isIn (D := D) (ad := ad) (CE := ((CE f v)))   h _) (xg_cwS 2 hts xw_183 xw_500 xw_182 xw_5 rfl rfl (by decide +kernel) ⟨Nat.le_of_ble_eq_true rfl, Nat.le_of_ble_eq_true rfl⟩) (xm_pre hw _) rfl rfl hl.1 rfl (lv_room (Nat.le_of_ble_eq_true rfl)) d_Mt_matchSecond_62 ⟨Nat.le_of_ble_eq_true rfl, Nat.le_of_ble_eq_true rfl⟩) hw (fun r_18 _ H locs h hw => ?_)
      refine xj_use h (fun (v_20 : Int32 × (Nat → Int32) × (Nat → Int32)) => ∀ (H : Heap) (locs : List Loc) (ls : Array Slot), xm_W D xcl (xT cI cZ cJ cO) (xm_A ad (CE f v) s.heap.size) ad (CE v_20.2.1 v_20.2.2) s s.heap H locs → lv_has ls 7 [] → W p l e rm_Mt_matchSecond_0 s m args below meth c H locs 0 0 QQ (F0 m 84 ls [.int v_20.1])) (fun v_20 h H locs ls hw hl => ?_) (fun J_21 hJ_21 h => ?_)
      · subst hQQ
        exact xm_zret hx hb hr hlk h.1 hw (v_20.2.1, v_20.2.2) rfl rfl h.2 d_Mt_matchSecond_84
      · refine xj_use h (fun (v_22 : (Nat → Int32) × (Nat → Int32)) => ∀ (H : Heap) (locs : List Loc) (ls : Array Slot), xm_W D xcl (xT cI cZ cJ cO) (xm_A ad (CE f v) s.heap.size) ad (CE v_22.1 v_22.2) s s.heap H locs → lv_has ls 7 [] → W p l e rm_Mt_matchSecond_0 s m args below meth c H locs 0 0 QQ (F0 m 83 ls [])) (fun v_22 h H locs ls hw hl => ?_) (fun J_23 hJ_23 h => ?_)
        · refine lv_iconst (v := 0) hx hb d_Mt_matchSecond_83 (by decide) ?_
          exact hJ_21 (0, v_22.1, v_22.2) h _ _ _ hw (lv_sub hl [] rfl)
        · refine lv_if_eq (tgt := 83) hx hb d_Mt_matchSecond_65 (by decide) (fun hc => ?_) (fun hc => ?_)
          · have h := h.1 hc
            exact hJ_23 (f, v) h _ _ _ hw (lv_sub hl [] rfl)
          · have h := h.2 hc
            refine lv_aload_n hx hb d_Mt_matchSecond_68 rfl (lv_at hl 1 rfl) ?_
            refine lv_aload_n hx hb d_Mt_matchSecond_69 rfl (lv_at hl 2 rfl) ?_
            refine lv_iload_n hx hb d_Mt_matchSecond_70 rfl (lv_at hl 3 rfl) ?_
            refine lv_iconst (v := 1) hx hb d_Mt_matchSecond_71 (by decide) ?_
            refine lv_iadd hx hb d_Mt_matchSecond_72 ?_
            refine xm_calli (ua := fun _ => ad) (va_runV (As := [.ref (ad iU), .int (a + 1)]) (rest := []) ⟨hx, hb, hml, hown, hts⟩ (c_Mt_matchAtom_0 (D := D) (ad := ad) (CE := (fun f v => (CE f v)))  (fun f v => k_M f v) (fun f v => k_V f v) (fun f v => k_P f v) (fun f v => k_R f v) (fun f v => k_U f v) (fun f v => k_A f v) (fun f v => k_B f v) (fun f v => k_C f v) (fun f v v' => u_V f v v') (fun f v f' => u_R f v f') h _) (xg_cwV 2 hts xw_489 xw_486 xw_488 xw_p15 xw_6 rfl rfl (by decide +kernel) ⟨Nat.le_of_ble_eq_true rfl, Nat.le_of_ble_eq_true rfl⟩) (xm_preV hw (k_M f v) rfl _) rfl rfl hl.1 rfl (lv_room (Nat.le_of_ble_eq_true rfl)) d_Mt_matchSecond_73 ⟨Nat.le_of_ble_eq_true rfl, Nat.le_of_ble_eq_true rfl⟩) hw (fun r_24 u_25 H locs h hw => ?_)
            obtain ⟨f_26, ef_26⟩ : ∃ z, z = u_25.1 := ⟨_, rfl⟩
            obtain ⟨v_27, ev_27⟩ : ∃ z, z = u_25.2 := ⟨_, rfl⟩
            try dsimp only at h hw
            rw [← ef_26, ← ev_27] at h hw
            refine lv_if_eq (tgt := 83) hx hb d_Mt_matchSecond_76 (by decide) (fun hc => ?_) (fun hc => ?_)
            · have h := h.1 hc
              exact hJ_23 (f_26, v_27) h _ _ _ hw (lv_sub hl [] rfl)
            · have h := h.2 hc
              refine lv_iconst (v := 1) hx hb d_Mt_matchSecond_79 (by decide) ?_
              refine lv_goto (tgt := 84) hx hb d_Mt_matchSecond_80 (by decide) ?_
              exact hJ_21 (1, f_26, v_27) h _ _ _ hw (lv_sub hl [] rfl)
  · have h := h.2 hc
    refine lv_iload_n hx hb d_Mt_matchSecond_15 rfl (lv_at hl 4 rfl) ?_
    refine lv_iconst (v := 1) hx hb d_Mt_matchSecond_16 (by decide) ?_
    refine lv_ishr hx hb d_Mt_matchSecond_17 ?_
    refine xj_use h (fun (v_28 : Int32 × (Nat → Int32) × (Nat → Int32)) => ∀ (H : Heap) (locs : List Loc) (ls : Array Slot), xm_W D xcl (xT cI cZ cJ cO) (xm_A ad (CE f v) s.heap.size) ad (CE v_28.2.1 v_28.2.2) s s.heap H locs → lv_has ls 7 [] → W p l e rm_Mt_matchSecond_0 s m args below meth c H locs 0 0 QQ (F0 m 37 ls [.int v_28.1])) (fun v_28 h H locs ls hw hl => ?_) (fun J_29 hJ_29 h => ?_)
    · subst hQQ
      exact xm_zret hx hb hr hlk h.1 hw (v_28.2.1, v_28.2.2) rfl rfl h.2 d_Mt_matchSecond_37
    · refine xj_use h (fun (v_30 : (Nat → Int32) × (Nat → Int32)) => ∀ (H : Heap) (locs : List Loc) (ls : Array Slot), xm_W D xcl (xT cI cZ cJ cO) (xm_A ad (CE f v) s.heap.size) ad (CE v_30.1 v_30.2) s s.heap H locs → lv_has ls 7 [] → W p l e rm_Mt_matchSecond_0 s m args below meth c H locs 0 0 QQ (F0 m 36 ls [])) (fun v_30 h H locs ls hw hl => ?_) (fun J_31 hJ_31 h => ?_)
      · refine lv_iconst (v := 0) hx hb d_Mt_matchSecond_36 (by decide) ?_
        exact hJ_29 (0, v_30.1, v_30.2) h _ _ _ hw (lv_sub hl [] rfl)
      · refine lv_if_eq (tgt := 36) hx hb d_Mt_matchSecond_18 (by decide) (fun hc => ?_) (fun hc => ?_)
        · have h := h.1 hc
          exact hJ_31 (f, v) h _ _ _ hw (lv_sub hl [] rfl)
        · have h := h.2 hc
          refine lv_aload_n hx hb d_Mt_matchSecond_21 rfl (lv_at hl 1 rfl) ?_
          refine lv_aload_n hx hb d_Mt_matchSecond_22 rfl (lv_at hl 2 rfl) ?_
          refine lv_iload_n hx hb d_Mt_matchSecond_23 rfl (lv_at hl 3 rfl) ?_
          refine lv_iconst (v := 1) hx hb d_Mt_matchSecond_24 (by decide) ?_
          refine lv_iadd hx hb d_Mt_matchSecond_25 ?_
          refine xm_calli (ua := fun _ => ad) (va_runV (As := [.ref (ad iU), .int (a + 1)]) (rest := []) ⟨hx, hb, hml, hown, hts⟩ (c_Mt_matchAtom_0 (D := D) (ad := ad) (CE := (fun f v => (CE f v)))  (fun f v => k_M f v) (fun f v => k_V f v) (fun f v => k_P f v) (fun f v => k_R f v) (fun f v => k_U f v) (fun f v => k_A f v) (fun f v => k_B f v) (fun f v => k_C f v) (fun f v v' => u_V f v v') (fun f v f' => u_R f v f') h _) (xg_cwV 2 hts xw_489 xw_486 xw_488 xw_p15 xw_6 rfl rfl (by decide +kernel) ⟨Nat.le_of_ble_eq_true rfl, Nat.le_of_ble_eq_true rfl⟩) (xm_preV hw (k_M f v) rfl _) rfl rfl hl.1 rfl (lv_room (Nat.le_of_ble_eq_true rfl)) d_Mt_matchSecond_26 ⟨Nat.le_of_ble_eq_true rfl, Nat.le_of_ble_eq_true rfl⟩) hw (fun r_32 u_33 H locs h hw => ?_)
          obtain ⟨f_34, ef_34⟩ : ∃ z, z = u_33.1 := ⟨_, rfl⟩
          obtain ⟨v_35, ev_35⟩ : ∃ z, z = u_33.2 := ⟨_, rfl⟩
          try dsimp only at h hw
          rw [← ef_34, ← ev_35] at h hw
          refine lv_if_eq (tgt := 36) hx hb d_Mt_matchSecond_29 (by decide) (fun hc => ?_) (fun hc => ?_)
          · have h := h.1 hc
            exact hJ_31 (f_34, v_35) h _ _ _ hw (lv_sub hl [] rfl)
          · have h := h.2 hc
            refine lv_iconst (v := 1) hx hb d_Mt_matchSecond_32 (by decide) ?_
            refine lv_goto (tgt := 37) hx hb d_Mt_matchSecond_33 (by decide) ?_
            exact hJ_29 (1, f_34, v_35) h _ _ _ hw (lv_sub hl [] rfl)
theorem xw_499 : (Jvm.Cond.code ({ cls := "QuestionDesk$Matcher", name := "matchSecond", desc := "(LQuestionDesk$Rule;II)Z" } : Jvm.MethodName) prog_2_method_4_code (7 : Nat) (Option.some Jvm.ClassFile.FieldType.boolean)) ∈ xg := xg_t (i := 499) (by decide +kernel) (by decide +kernel)
theorem xw_496 : (Jvm.Cond.methodLink "QuestionDesk$Matcher" (51 : Nat) ({ cls := "QuestionDesk$Matcher", name := "matchSecond", desc := "(LQuestionDesk$Rule;II)Z" } : Jvm.MethodName)) ∈ xg := xg_t (i := 496) (by decide +kernel) (by decide +kernel)
theorem xw_498 : (Jvm.Cond.instanceMethod ({ cls := "QuestionDesk$Matcher", name := "matchSecond", desc := "(LQuestionDesk$Rule;II)Z" } : Jvm.MethodName)) ∈ xg := xg_t (i := 498) (by decide +kernel) (by decide +kernel)
theorem xw_p16 : Cond.selects "QuestionDesk$Matcher" ⟨"QuestionDesk$Matcher", "matchSecond", "(LQuestionDesk$Rule;II)Z"⟩ ⟨"QuestionDesk$Matcher", "matchSecond", "(LQuestionDesk$Rule;II)Z"⟩ ∈ xg := xg_p (q := (⟨"QuestionDesk$Matcher", "matchSecond", "(LQuestionDesk$Rule;II)Z"⟩, 2)) (i := 16) (by decide +kernel) (by decide +kernel)
def wp_Mt_matchAtom_1 (post : Int32 → (Nat → Int32) → (Nat → Int32) → Prop)  (rs : Nat → Int32) (rf : Nat → Int32) (rc : Nat → Int32) (na : Int32) (f : Nat → Int32) (v : Nat → Int32) (a : Int32) : Prop := wp_Mt_matchAtom wp_Mt_matchSecond_0 post rs rf rc na f v a
abbrev rm_Mt_matchAtom_1 : Room := { frames := 4, cells := 0, slots := 0, locals := 100 }
set_option maxHeartbeats 4000000 in
set_option maxRecDepth 100000 in
theorem c_Mt_matchAtom_1 {l : Launch} {D : va_G} {ad : Nat → Nat} (CE : (Nat → Int32) → (Nat → Int32) → Nat → Option va_E) {cI cZ cJ cO : ClassId} {iM : Nat} {iV : Nat} {iP : Nat} {iR : Nat} {iU : Nat} {iA : Nat} {iB : Nat} {iC : Nat} {rs : Nat → Int32} {rf : Nat → Int32} {rc : Nat → Int32} {na : Int32} (k_M : ∀ (f : Nat → Int32) (v : Nat → Int32), (CE f v) iM = some (.inr (2, [.ref (ad iP), .ref (ad iV)]))) (k_V : ∀ (f : Nat → Int32) (v : Nat → Int32), (CE f v) iV = some (.inl (cI, 20, .inl v))) (k_P : ∀ (f : Nat → Int32) (v : Nat → Int32), (CE f v) iP = some (.inr (1, [.ref (ad iR)]))) (k_R : ∀ (f : Nat → Int32) (v : Nat → Int32), (CE f v) iR = some (.inl (cI, 341, .inl f))) (k_U : ∀ (f : Nat → Int32) (v : Nat → Int32), (CE f v) iU = some (.inr (3, [.ref (ad iA), .ref (ad iB), .ref (ad iC), .int na]))) (k_A : ∀ (f : Nat → Int32) (v : Nat → Int32), (CE f v) iA = some (.inl (cI, 4, .inl rs))) (k_B : ∀ (f : Nat → Int32) (v : Nat → Int32), (CE f v) iB = some (.inl (cI, 4, .inl rf))) (k_C : ∀ (f : Nat → Int32) (v : Nat → Int32), (CE f v) iC = some (.inl (cI, 4, .inl rc))) (u_V : ∀ (f : Nat → Int32) (v : Nat → Int32) (v' : Nat → Int32), va_up (CE f v) iV (some (.inl (cI, 20, .inl v'))) = (CE f v')) (u_R : ∀ (f : Nat → Int32) (v : Nat → Int32) (f' : Nat → Int32), va_up (CE f v) iR (some (.inl (cI, 341, .inl f'))) = (CE f' v)) {post : Int32 → (Nat → Int32) → (Nat → Int32) → Prop} {f : Nat → Int32} {v : Nat → Int32} {a : Int32} (h : wp_Mt_matchAtom_1 post rs rf rc na f v a) : ∀ sz, Met l y_Mt_matchAtom (Cond.code y_Mt_matchAtom b_Mt_matchAtom 10 (some .boolean) :: xg) rm_Mt_matchAtom_1 (xm_Pc D xcl (xT cI cZ cJ cO) ad (CE f v) sz [.ref (ad iM), .ref (ad iU), .int a]) (va_Qi (fun (r : Int32) (u : (Nat → Int32) × (Nat → Int32)) => post r u.1 u.2) (xm_B D xcl (xT cI cZ cJ cO) (xm_A ad (CE f v) sz) (fun _ => ad) (fun u : (Nat → Int32) × (Nat → Int32) => CE u.1 u.2)) (xm_A ad (CE f v) sz)) 0 0 (xm_A ad (CE f v) sz) := by
  refine xm_ofW (cc := b_Mt_matchAtom) (maxL := 10) (ret := (some .boolean)) (by decide) rfl (Nat.le_of_ble_eq_true rfl) ?_
  intro p e s m args below meth c ls QQ hQQ hx hb hml hr hown hlk hnm hts hl hw
  have hl : lv_has ls 10 [(0, .ref (ad iM)), (1, .ref (ad iU)), (2, .int a)] := hl
  unfold wp_Mt_matchAtom_1 wp_Mt_matchAtom at h
  refine lv_aload_n hx hb d_Mt_matchAtom_0 rfl (lv_at hl 0 rfl) ?_
  refine xm_get (D := D) (v := .ref (ad iV)) (C := R_Mt) (T := F_Mt) (N := 2) hx hb hts (fun w h => List.mem_cons_of_mem _ (i_Mt w h)) hown hw (k_M f v) rfl 1 (by decide) (hts _ (List.mem_cons_of_mem _ xw_74)) (fun _ h9 => h9) rfl d_Mt_matchAtom_1 ?_
  refine lv_aload_n hx hb d_Mt_matchAtom_4 rfl (lv_at hl 1 rfl) ?_
  refine xm_get (D := D) (v := .ref (ad iB)) (C := R_Ru) (T := F_Ru) (N := 4) hx hb hts (fun w h => List.mem_cons_of_mem _ (i_Ru w h)) hown hw (k_U f v) rfl 1 (by decide) (hts _ (List.mem_cons_of_mem _ xw_90)) (fun _ h9 => h9) rfl d_Mt_matchAtom_5 ?_
  refine lv_iconst (v := 0) hx hb d_Mt_matchAtom_8 (by decide) ?_
  obtain ⟨hin, h⟩ := h
  refine xm_iald hx hb hw 0 (k_B f v) rfl hin d_Mt_matchAtom_9 ?_
  refine lv_iconst (v := 1) hx hb d_Mt_matchAtom_10 (by decide) ?_
  refine lv_iadd hx hb d_Mt_matchAtom_11 ?_
  obtain ⟨hin, h⟩ := h
  refine xm_iald hx hb hw 0 (k_V f v) rfl hin d_Mt_matchAtom_12 ?_
  refine lv_topi (fun x_1 ex_1 => ?_)
  have h := h x_1 ex_1
  refine lv_istore_n (lv' := [(3, .int x_1), (0, .ref (ad iM)), (1, .ref (ad iU)), (2, .int a)]) hx hb d_Mt_matchAtom_13 rfl hl (by decide) rfl (fun ls hl => ?_)
  refine lv_aload_n hx hb d_Mt_matchAtom_14 rfl (lv_at hl 1 rfl) ?_
  refine xm_get (D := D) (v := .ref (ad iV)) (C := R_Mt) (T := F_Mt) (N := 2) hx hb hts (fun w h => List.mem_cons_of_mem _ (i_Mt w h)) hown hw (k_M f v) rfl 1 (by decide) (hts _ (List.mem_cons_of_mem _ xw_74)) (fun _ h9 => h9) rfl d_Mt_matchAtom_15 ?_
  refine lv_aload_n hx hb d_Mt_matchAtom_18 rfl (lv_at hl 2 rfl) ?_
  refine xm_get (D := D) (v := .ref (ad iC)) (C := R_Ru) (T := F_Ru) (N := 4) hx hb hts (fun w h => List.mem_cons_of_mem _ (i_Ru w h)) hown hw (k_U f v) rfl 2 (by decide) (hts _ (List.mem_cons_of_mem _ xw_93)) (fun _ h9 => h9) rfl d_Mt_matchAtom_19 ?_
  refine lv_iconst (v := 0) hx hb d_Mt_matchAtom_22 (by decide) ?_
  obtain ⟨hin, h⟩ := h
  refine xm_iald hx hb hw 0 (k_C f v) rfl hin d_Mt_matchAtom_23 ?_
  refine lv_iconst (v := 1) hx hb d_Mt_matchAtom_24 (by decide) ?_
  refine lv_iadd hx hb d_Mt_matchAtom_25 ?_
  obtain ⟨hin, h⟩ := h
  refine xm_iald hx hb hw 0 (k_V f v) rfl hin d_Mt_matchAtom_26 ?_
  refine lv_topi (fun x_2 ex_2 => ?_)
  have h := h x_2 ex_2
  refine lv_istore (lv' := [(4, .int x_2), (3, .int x_1), (0, .ref (ad iM)), (1, .ref (ad iU)), (2, .int a)]) hx hb d_Mt_matchAtom_27 hl (by decide) rfl (fun ls hl => ?_)
  refine lv_iload_n hx hb d_Mt_matchAtom_29 rfl (lv_at hl 1 rfl) ?_
  refine lv_bipush (v := (-2)) hx hb d_Mt_matchAtom_30 (by decide) ?_
  refine xj_use h (fun (v_3 : Int32) => ∀ (H : Heap) (locs : List Loc) (ls : Array Slot), xm_W D xcl (xT cI cZ cJ cO) (xm_A ad (CE f v) s.heap.size) ad (CE f v) s s.heap H locs → lv_has ls 10 [(0, .ref (ad iM)), (1, .ref (ad iU)), (2, .int a), (3, .int x_1), (4, .int x_2)] → W p l e rm_Mt_matchAtom_1 s m args below meth c H locs 0 0 QQ (F0 m 47 ls [.int v_3])) (fun v_3 h H locs ls hw hl => ?_) (fun J_4 hJ_4 h => ?_)
  · refine lv_istore (lv' := [(5, .int v_3), (0, .ref (ad iM)), (1, .ref (ad iU)), (2, .int a), (3, .int x_1), (4, .int x_2)]) hx hb d_Mt_matchAtom_47 hl (by decide) rfl (fun ls hl => ?_)
    refine lv_iload hx hb d_Mt_matchAtom_49 (lv_at hl 0 rfl) ?_
    refine xj_use h (fun (v_5 : Unit) => ∀ (H : Heap) (locs : List Loc) (ls : Array Slot), xm_W D xcl (xT cI cZ cJ cO) (xm_A ad (CE f v) s.heap.size) ad (CE f v) s s.heap H locs → lv_has ls 10 [(0, .ref (ad iM)), (1, .ref (ad iU)), (2, .int a), (3, .int x_1), (4, .int x_2), (5, .int v_3)] → W p l e rm_Mt_matchAtom_1 s m args below meth c H locs 0 0 QQ (F0 m 75 ls [])) (fun v_5 h H locs ls hw hl => ?_) (fun J_6 hJ_6 h => ?_)
    · refine lv_iload_n hx hb d_Mt_matchAtom_75 rfl (lv_at hl 2 rfl) ?_
      refine lv_aload_n hx hb d_Mt_matchAtom_76 rfl (lv_at hl 1 rfl) ?_
      refine xm_get (D := D) (v := .int na) (C := R_Ru) (T := F_Ru) (N := 4) hx hb hts (fun w h => List.mem_cons_of_mem _ (i_Ru w h)) hown hw (k_U f v) rfl 3 (by decide) (hts _ (List.mem_cons_of_mem _ xw_96)) (fun _ h9 => h9) rfl d_Mt_matchAtom_77 ?_
      refine lv_icmp_le (tgt := 113) hx hb d_Mt_matchAtom_80 (by decide) (fun hc => ?_) (fun hc => ?_)
      · have h := h.1 hc
        refine lv_aload_n hx hb d_Mt_matchAtom_113 rfl (lv_at hl 1 rfl) ?_
        refine xm_get (D := D) (v := .ref (ad iA)) (C := R_Ru) (T := F_Ru) (N := 4) hx hb hts (fun w h => List.mem_cons_of_mem _ (i_Ru w h)) hown hw (k_U f v) rfl 0 (by decide) (hts _ (List.mem_cons_of_mem _ xw_87)) (fun _ h9 => h9) rfl d_Mt_matchAtom_114 ?_
        refine lv_iload_n hx hb d_Mt_matchAtom_117 rfl (lv_at hl 2 rfl) ?_
        obtain ⟨hin, h⟩ := h
        refine xm_iald hx hb hw 0 (k_A f v) rfl hin d_Mt_matchAtom_118 ?_
        refine lv_topi (fun x_7 ex_7 => ?_)
        have h := h x_7 ex_7
        refine lv_istore (lv' := [(6, .int x_7), (0, .ref (ad iM)), (1, .ref (ad iU)), (2, .int a), (3, .int x_1), (4, .int x_2), (5, .int v_3)]) hx hb d_Mt_matchAtom_119 hl (by decide) rfl (fun ls hl => ?_)
        refine lv_aload_n hx hb d_Mt_matchAtom_121 rfl (lv_at hl 2 rfl) ?_
        refine xm_get (D := D) (v := .ref (ad iB)) (C := R_Ru) (T := F_Ru) (N := 4) hx hb hts (fun w h => List.mem_cons_of_mem _ (i_Ru w h)) hown hw (k_U f v) rfl 1 (by decide) (hts _ (List.mem_cons_of_mem _ xw_90)) (fun _ h9 => h9) rfl d_Mt_matchAtom_122 ?_
        refine lv_iload_n hx hb d_Mt_matchAtom_125 rfl (lv_at hl 3 rfl) ?_
        obtain ⟨hin, h⟩ := h
        refine xm_iald hx hb hw 0 (k_B f v) rfl hin d_Mt_matchAtom_126 ?_
        refine lv_topi (fun x_8 ex_8 => ?_)
        have h := h x_8 ex_8
        refine lv_istore (lv' := [(7, .int x_8), (6, .int x_7), (0, .ref (ad iM)), (1, .ref (ad iU)), (2, .int a), (3, .int x_1), (4, .int x_2), (5, .int v_3)]) hx hb d_Mt_matchAtom_127 hl (by decide) rfl (fun ls hl => ?_)
        refine lv_iload hx hb d_Mt_matchAtom_129 (lv_at hl 0 rfl) ?_
        refine lv_bipush (v := 18) hx hb d_Mt_matchAtom_131 (by decide) ?_
        refine lv_icmp_ne (tgt := 152) hx hb d_Mt_matchAtom_133 (by decide) (fun hc => ?_) (fun hc => ?_)
        · have h := h.1 hc
          refine lv_aload_n hx hb d_Mt_matchAtom_152 rfl (lv_at hl 2 rfl) ?_
          refine xm_get (D := D) (v := .ref (ad iV)) (C := R_Mt) (T := F_Mt) (N := 2) hx hb hts (fun w h => List.mem_cons_of_mem _ (i_Mt w h)) hown hw (k_M f v) rfl 1 (by decide) (hts _ (List.mem_cons_of_mem _ xw_74)) (fun _ h9 => h9) rfl d_Mt_matchAtom_153 ?_
          refine lv_iload hx hb d_Mt_matchAtom_156 (lv_at hl 0 rfl) ?_
          refine lv_iconst (v := 1) hx hb d_Mt_matchAtom_158 (by decide) ?_
          refine lv_iadd hx hb d_Mt_matchAtom_159 ?_
          obtain ⟨hin, h⟩ := h
          refine xm_iald hx hb hw 0 (k_V f v) rfl hin d_Mt_matchAtom_160 ?_
          refine lv_bipush (v := (-2)) hx hb d_Mt_matchAtom_161 (by decide) ?_
          refine lv_icmp_eq (tgt := 191) hx hb d_Mt_matchAtom_163 (by decide) (fun hc => ?_) (fun hc => ?_)
          · have h := h.1 hc
            refine lv_iconst (v := 0) hx hb d_Mt_matchAtom_191 (by decide) ?_
            refine lv_istore (lv' := [(8, .int 0), (7, .int x_8), (6, .int x_7), (0, .ref (ad iM)), (1, .ref (ad iU)), (2, .int a), (3, .int x_1), (4, .int x_2), (5, .int v_3)]) hx hb d_Mt_matchAtom_192 hl (by decide) rfl (fun ls hl => ?_)
            refine lv_iconst (v := 0) hx hb d_Mt_matchAtom_194 (by decide) ?_
            refine lv_istore (lv' := [(9, .int 0), (8, .int 0), (7, .int x_8), (6, .int x_7), (0, .ref (ad iM)), (1, .ref (ad iU)), (2, .int a), (3, .int x_1), (4, .int x_2), (5, .int v_3)]) hx hb d_Mt_matchAtom_195 hl (by decide) rfl (fun ls hl => ?_)
            refine xL_use h (fun (v_9 : Int32 × Int32 × (Nat → Int32) × (Nat → Int32)) => ∀ (H : Heap) (locs : List Loc) (ls : Array Slot), xm_W D xcl (xT cI cZ cJ cO) (xm_A ad (CE f v) s.heap.size) ad (CE v_9.2.2.1 v_9.2.2.2) s s.heap H locs → lv_has ls 10 [(9, .int v_9.1), (8, .int v_9.2.1), (7, .int x_8), (6, .int x_7), (0, .ref (ad iM)), (1, .ref (ad iU)), (2, .int a)] → W p l e rm_Mt_matchAtom_1 s m args below meth c H locs 0 0 QQ (F0 m 197 ls [])) (fun K_10 hK_10 v_9 h H locs ls hw hl => ?_) _ _ _ hw (lv_sub hl [0, 1, 2, 3, 4, 5, 6] rfl)
            refine lv_iload hx hb d_Mt_matchAtom_197 (lv_at hl 0 rfl) ?_
            refine lv_bipush (v := 10) hx hb d_Mt_matchAtom_199 (by decide) ?_
            refine lv_icmp_ge (tgt := 243) hx hb d_Mt_matchAtom_201 (by decide) (fun hc => ?_) (fun hc => ?_)
            · have h := h.1 hc
              refine lv_aload_n hx hb d_Mt_matchAtom_243 rfl (lv_at hl 4 rfl) ?_
              refine xm_get (D := D) (v := .ref (ad iV)) (C := R_Mt) (T := F_Mt) (N := 2) hx hb hts (fun w h => List.mem_cons_of_mem _ (i_Mt w h)) hown hw (k_M v_9.2.2.1 v_9.2.2.2) rfl 1 (by decide) (hts _ (List.mem_cons_of_mem _ xw_74)) (fun _ h9 => h9) rfl d_Mt_matchAtom_244 ?_
              refine lv_iload hx hb d_Mt_matchAtom_247 (lv_at hl 2 rfl) ?_
              refine lv_iconst (v := 1) hx hb d_Mt_matchAtom_249 (by decide) ?_
              refine lv_iadd hx hb d_Mt_matchAtom_250 ?_
              refine lv_bipush (v := (-2)) hx hb d_Mt_matchAtom_251 (by decide) ?_
              obtain ⟨hin, h⟩ := h
              refine xm_iast hx hb hw 0 (k_V v_9.2.2.1 v_9.2.2.2) rfl hin d_Mt_matchAtom_253 (fun H locs hw => ?_)
              have hw : xm_W D xcl (xT cI cZ cJ cO) (xm_A ad (CE f v) s.heap.size) ad (CE v_9.2.2.1 (upd v_9.2.2.2 (Int32.toNatClampNeg (x_8 + 1)) (-2))) s s.heap H locs := xm_W.cast (u_V v_9.2.2.1 v_9.2.2.2 (upd v_9.2.2.2 (Int32.toNatClampNeg (x_8 + 1)) (-2))) hw
              obtain ⟨v_11, ev_11⟩ : ∃ z : Nat → Int32, z = upd v_9.2.2.2 (Int32.toNatClampNeg (x_8 + 1)) (-2) := ⟨_, rfl⟩
              have h := h v_11 ev_11
              rw [← ev_11] at hw
              refine lv_iload hx hb d_Mt_matchAtom_254 (lv_at hl 1 rfl) ?_
              subst hQQ
              exact xm_zret hx hb hr hlk h.1 hw (v_9.2.2.1, v_11) rfl rfl h.2 d_Mt_matchAtom_256
            · have h := h.2 hc
              refine lv_aload_n hx hb d_Mt_matchAtom_204 rfl (lv_at hl 4 rfl) ?_
              refine xm_get (D := D) (v := .ref (ad iV)) (C := R_Mt) (T := F_Mt) (N := 2) hx hb hts (fun w h => List.mem_cons_of_mem _ (i_Mt w h)) hown hw (k_M v_9.2.2.1 v_9.2.2.2) rfl 1 (by decide) (hts _ (List.mem_cons_of_mem _ xw_74)) (fun _ h9 => h9) rfl d_Mt_matchAtom_205 ?_
              refine lv_iload hx hb d_Mt_matchAtom_208 (lv_at hl 2 rfl) ?_
              refine lv_iconst (v := 1) hx hb d_Mt_matchAtom_210 (by decide) ?_
              refine lv_iadd hx hb d_Mt_matchAtom_211 ?_
              refine lv_iload hx hb d_Mt_matchAtom_212 (lv_at hl 0 rfl) ?_
              obtain ⟨hin, h⟩ := h
              refine xm_iast hx hb hw 0 (k_V v_9.2.2.1 v_9.2.2.2) rfl hin d_Mt_matchAtom_214 (fun H locs hw => ?_)
              have hw : xm_W D xcl (xT cI cZ cJ cO) (xm_A ad (CE f v) s.heap.size) ad (CE v_9.2.2.1 (upd v_9.2.2.2 (Int32.toNatClampNeg (x_8 + 1)) v_9.1)) s s.heap H locs := xm_W.cast (u_V v_9.2.2.1 v_9.2.2.2 (upd v_9.2.2.2 (Int32.toNatClampNeg (x_8 + 1)) v_9.1)) hw
              obtain ⟨v_12, ev_12⟩ : ∃ z : Nat → Int32, z = upd v_9.2.2.2 (Int32.toNatClampNeg (x_8 + 1)) v_9.1 := ⟨_, rfl⟩
              have h := h v_12 ev_12
              rw [← ev_12] at hw
              refine lv_iload hx hb d_Mt_matchAtom_215 (lv_at hl 1 rfl) ?_
              refine lv_aload_n hx hb d_Mt_matchAtom_217 rfl (lv_at hl 4 rfl) ?_
              refine lv_aload_n hx hb d_Mt_matchAtom_218 rfl (lv_at hl 5 rfl) ?_
              refine lv_iload_n hx hb d_Mt_matchAtom_219 rfl (lv_at hl 6 rfl) ?_
              refine lv_aload_n hx hb d_Mt_matchAtom_220 rfl (lv_at hl 4 rfl) ?_
              refine xm_get (D := D) (v := .ref (ad iP)) (C := R_Mt) (T := F_Mt) (N := 2) hx hb hts (fun w h => List.mem_cons_of_mem _ (i_Mt w h)) hown hw (k_M v_9.2.2.1 v_12) rfl 0 (by decide) (hts _ (List.mem_cons_of_mem _ xw_73)) (fun _ h9 => h9) rfl d_Mt_matchAtom_221 ?_
              refine lv_iload hx hb d_Mt_matchAtom_224 (lv_at hl 3 rfl) ?_
              refine lv_iload hx hb d_Mt_matchAtom_226 (lv_at hl 0 rfl) ?_
              refine xm_calli (ua := fun _ => ad) (va_runV (As := [.int x_7, .int v_9.1]) (rest := [.int a, .ref (ad iU), .ref (ad iM), .int v_9.2.1]) ⟨hx, hb, hml, hown, hts⟩ (c_Pr_row (D := D) (ad := ad) (CE := ((CE v_9.2.2.1 v_12)))  (k_P v_9.2.2.1 v_12) (k_R v_9.2.2.1 v_12) h _) (xg_cwV 2 hts xw_180 xw_501 xw_178 xw_179 xw_5 rfl rfl (by decide +kernel) ⟨Nat.le_of_ble_eq_true rfl, Nat.le_of_ble_eq_true rfl⟩) (xm_preV hw (k_P v_9.2.2.1 v_12) rfl _) rfl rfl hl.1 rfl (lv_room (Nat.le_of_ble_eq_true rfl)) d_Mt_matchAtom_228 ⟨Nat.le_of_ble_eq_true rfl, Nat.le_of_ble_eq_true rfl⟩) hw (fun r_13 _ H locs h hw => ?_)
              refine xm_calli (ua := fun _ => ad) (va_runV (As := [.ref (ad iU), .int a, .int r_13]) (rest := [.int v_9.2.1]) ⟨hx, hb, hml, hown, hts⟩ (c_Mt_matchSecond_0 (D := D) (ad := ad) (CE := (fun f v => (CE f v)))  (fun f v => k_M f v) (fun f v => k_V f v) (fun f v => k_P f v) (fun f v => k_R f v) (fun f v => k_U f v) (fun f v => k_A f v) (fun f v => k_B f v) (fun f v => k_C f v) (fun f v v' => u_V f v v') (fun f v f' => u_R f v f') h _) (xg_cwV 3 hts xw_499 xw_496 xw_498 xw_p16 xw_6 rfl rfl (by decide +kernel) ⟨Nat.le_of_ble_eq_true rfl, Nat.le_of_ble_eq_true rfl⟩) (xm_preV hw (k_M v_9.2.2.1 v_12) rfl _) rfl rfl hl.1 rfl (lv_room (Nat.le_of_ble_eq_true rfl)) d_Mt_matchAtom_231 ⟨Nat.le_of_ble_eq_true rfl, Nat.le_of_ble_eq_true rfl⟩) hw (fun r_15 u_16 H locs h hw => ?_)
              obtain ⟨f_17, ef_17⟩ : ∃ z, z = u_16.1 := ⟨_, rfl⟩
              obtain ⟨v_18, ev_18⟩ : ∃ z, z = u_16.2 := ⟨_, rfl⟩
              try dsimp only at h hw
              rw [← ef_17, ← ev_18] at h hw
              refine lv_ior hx hb d_Mt_matchAtom_234 ?_
              refine lv_topi (fun x_19 ex_19 => ?_)
              have h := h x_19 ex_19
              refine lv_istore (lv' := [(8, .int x_19), (9, .int v_9.1), (7, .int x_8), (6, .int x_7), (0, .ref (ad iM)), (1, .ref (ad iU)), (2, .int a)]) hx hb d_Mt_matchAtom_235 hl (by decide) rfl (fun ls hl => ?_)
              obtain ⟨x_20, ex_20⟩ : ∃ y : Int32, y = v_9.1 + 1 := ⟨_, rfl⟩
              have h := h x_20 ex_20
              refine lv_iinc (v := x_20) (lv' := [(9, .int x_20), (8, .int x_19), (7, .int x_8), (6, .int x_7), (0, .ref (ad iM)), (1, .ref (ad iU)), (2, .int a)]) hx hb d_Mt_matchAtom_237 hl (k := 1) rfl (by rw [ex_20]; rfl) (by decide) rfl (fun ls hl => ?_)
              refine lv_goto (tgt := 197) hx hb d_Mt_matchAtom_240 (by decide) ?_
              exact hK_10 (x_20, x_19, f_17, v_18) h _ _ _ hw (lv_sub hl [0, 1, 2, 3, 4, 5, 6] rfl)
          · have h := h.2 hc
            refine lv_aload_n hx hb d_Mt_matchAtom_166 rfl (lv_at hl 2 rfl) ?_
            refine lv_aload_n hx hb d_Mt_matchAtom_167 rfl (lv_at hl 3 rfl) ?_
            refine lv_iload_n hx hb d_Mt_matchAtom_168 rfl (lv_at hl 4 rfl) ?_
            refine lv_aload_n hx hb d_Mt_matchAtom_169 rfl (lv_at hl 2 rfl) ?_
            refine xm_get (D := D) (v := .ref (ad iP)) (C := R_Mt) (T := F_Mt) (N := 2) hx hb hts (fun w h => List.mem_cons_of_mem _ (i_Mt w h)) hown hw (k_M f v) rfl 0 (by decide) (hts _ (List.mem_cons_of_mem _ xw_73)) (fun _ h9 => h9) rfl d_Mt_matchAtom_170 ?_
            refine lv_iload hx hb d_Mt_matchAtom_173 (lv_at hl 1 rfl) ?_
            refine lv_aload_n hx hb d_Mt_matchAtom_175 rfl (lv_at hl 2 rfl) ?_
            refine xm_get (D := D) (v := .ref (ad iV)) (C := R_Mt) (T := F_Mt) (N := 2) hx hb hts (fun w h => List.mem_cons_of_mem _ (i_Mt w h)) hown hw (k_M f v) rfl 1 (by decide) (hts _ (List.mem_cons_of_mem _ xw_74)) (fun _ h9 => h9) rfl d_Mt_matchAtom_176 ?_
            refine lv_iload hx hb d_Mt_matchAtom_179 (lv_at hl 0 rfl) ?_
            refine lv_iconst (v := 1) hx hb d_Mt_matchAtom_181 (by decide) ?_
            refine lv_iadd hx hb d_Mt_matchAtom_182 ?_
            obtain ⟨hin, h⟩ := h
            refine xm_iald hx hb hw 0 (k_V f v) rfl hin d_Mt_matchAtom_183 ?_
            refine xm_calli (ua := fun _ => ad) (va_runV (As := [.int x_7, .int (v (Int32.toNatClampNeg (x_8 + 1)))]) (rest := [.int a, .ref (ad iU), .ref (ad iM)]) ⟨hx, hb, hml, hown, hts⟩ (c_Pr_row (D := D) (ad := ad) (CE := ((CE f v)))  (k_P f v) (k_R f v) h _) (xg_cwV 2 hts xw_180 xw_501 xw_178 xw_179 xw_5 rfl rfl (by decide +kernel) ⟨Nat.le_of_ble_eq_true rfl, Nat.le_of_ble_eq_true rfl⟩) (xm_preV hw (k_P f v) rfl _) rfl rfl hl.1 rfl (lv_room (Nat.le_of_ble_eq_true rfl)) d_Mt_matchAtom_184 ⟨Nat.le_of_ble_eq_true rfl, Nat.le_of_ble_eq_true rfl⟩) hw (fun r_21 _ H locs h hw => ?_)
            refine xm_calli (ua := fun _ => ad) (va_runV (As := [.ref (ad iU), .int a, .int r_21]) (rest := []) ⟨hx, hb, hml, hown, hts⟩ (c_Mt_matchSecond_0 (D := D) (ad := ad) (CE := (fun f v => (CE f v)))  (fun f v => k_M f v) (fun f v => k_V f v) (fun f v => k_P f v) (fun f v => k_R f v) (fun f v => k_U f v) (fun f v => k_A f v) (fun f v => k_B f v) (fun f v => k_C f v) (fun f v v' => u_V f v v') (fun f v f' => u_R f v f') h _) (xg_cwV 3 hts xw_499 xw_496 xw_498 xw_p16 xw_6 rfl rfl (by decide +kernel) ⟨Nat.le_of_ble_eq_true rfl, Nat.le_of_ble_eq_true rfl⟩) (xm_preV hw (k_M f v) rfl _) rfl rfl hl.1 rfl (lv_room (Nat.le_of_ble_eq_true rfl)) d_Mt_matchAtom_187 ⟨Nat.le_of_ble_eq_true rfl, Nat.le_of_ble_eq_true rfl⟩) hw (fun r_23 u_24 H locs h hw => ?_)
            obtain ⟨f_25, ef_25⟩ : ∃ z, z = u_24.1 := ⟨_, rfl⟩
            obtain ⟨v_26, ev_26⟩ : ∃ z, z = u_24.2 := ⟨_, rfl⟩
            try dsimp only at h hw
            rw [← ef_25, ← ev_26] at h hw
            subst hQQ
            exact xm_zret hx hb hr hlk h.1 hw (f_25, v_26) rfl rfl h.2 d_Mt_matchAtom_190
        · have h := h.2 hc
          refine lv_aload_n hx hb d_Mt_matchAtom_136 rfl (lv_at hl 2 rfl) ?_
          refine lv_aload_n hx hb d_Mt_matchAtom_137 rfl (lv_at hl 3 rfl) ?_
          refine lv_iload_n hx hb d_Mt_matchAtom_138 rfl (lv_at hl 4 rfl) ?_
          refine lv_aload_n hx hb d_Mt_matchAtom_139 rfl (lv_at hl 2 rfl) ?_
          refine xm_get (D := D) (v := .ref (ad iP)) (C := R_Mt) (T := F_Mt) (N := 2) hx hb hts (fun w h => List.mem_cons_of_mem _ (i_Mt w h)) hown hw (k_M f v) rfl 0 (by decide) (hts _ (List.mem_cons_of_mem _ xw_73)) (fun _ h9 => h9) rfl d_Mt_matchAtom_140 ?_
          refine lv_iload hx hb d_Mt_matchAtom_143 (lv_at hl 1 rfl) ?_
          refine xm_calli (ua := fun _ => ad) (va_runV (As := [.int x_7]) (rest := [.int a, .ref (ad iU), .ref (ad iM)]) ⟨hx, hb, hml, hown, hts⟩ (c_Pr_rowOfAny (D := D) (ad := ad) (CE := ((CE f v)))  (k_P f v) (k_R f v) h _) (xg_cwV 1 hts xw_495 xw_492 xw_493 xw_494 xw_5 rfl rfl (by decide +kernel) ⟨Nat.le_of_ble_eq_true rfl, Nat.le_of_ble_eq_true rfl⟩) (xm_preV hw (k_P f v) rfl _) rfl rfl hl.1 rfl (lv_room (Nat.le_of_ble_eq_true rfl)) d_Mt_matchAtom_145 ⟨Nat.le_of_ble_eq_true rfl, Nat.le_of_ble_eq_true rfl⟩) hw (fun r_27 _ H locs h hw => ?_)
          refine xm_calli (ua := fun _ => ad) (va_runV (As := [.ref (ad iU), .int a, .int r_27]) (rest := []) ⟨hx, hb, hml, hown, hts⟩ (c_Mt_matchSecond_0 (D := D) (ad := ad) (CE := (fun f v => (CE f v)))  (fun f v => k_M f v) (fun f v => k_V f v) (fun f v => k_P f v) (fun f v => k_R f v) (fun f v => k_U f v) (fun f v => k_A f v) (fun f v => k_B f v) (fun f v => k_C f v) (fun f v v' => u_V f v v') (fun f v f' => u_R f v f') h _) (xg_cwV 3 hts xw_499 xw_496 xw_498 xw_p16 xw_6 rfl rfl (by decide +kernel) ⟨Nat.le_of_ble_eq_true rfl, Nat.le_of_ble_eq_true rfl⟩) (xm_preV hw (k_M f v) rfl _) rfl rfl hl.1 rfl (lv_room (Nat.le_of_ble_eq_true rfl)) d_Mt_matchAtom_148 ⟨Nat.le_of_ble_eq_true rfl, Nat.le_of_ble_eq_true rfl⟩) hw (fun r_29 u_30 H locs h hw => ?_)
          obtain ⟨f_31, ef_31⟩ : ∃ z, z = u_30.1 := ⟨_, rfl⟩
          obtain ⟨v_32, ev_32⟩ : ∃ z, z = u_30.2 := ⟨_, rfl⟩
          try dsimp only at h hw
          rw [← ef_31, ← ev_32] at h hw
          subst hQQ
          exact xm_zret hx hb hr hlk h.1 hw (f_31, v_32) rfl rfl h.2 d_Mt_matchAtom_151
      · have h := h.2 hc
        refine lv_iload hx hb d_Mt_matchAtom_83 (lv_at hl 5 rfl) ?_
        refine xj_use h (fun (v_33 : Int32 × (Nat → Int32) × (Nat → Int32)) => ∀ (H : Heap) (locs : List Loc) (ls : Array Slot), xm_W D xcl (xT cI cZ cJ cO) (xm_A ad (CE f v) s.heap.size) ad (CE v_33.2.1 v_33.2.2) s s.heap H locs → lv_has ls 10 [] → W p l e rm_Mt_matchAtom_1 s m args below meth c H locs 0 0 QQ (F0 m 112 ls [.int v_33.1])) (fun v_33 h H locs ls hw hl => ?_) (fun J_34 hJ_34 h => ?_)
        · subst hQQ
          exact xm_zret hx hb hr hlk h.1 hw (v_33.2.1, v_33.2.2) rfl rfl h.2 d_Mt_matchAtom_112
        · refine xj_use h (fun (v_35 : (Nat → Int32) × (Nat → Int32)) => ∀ (H : Heap) (locs : List Loc) (ls : Array Slot), xm_W D xcl (xT cI cZ cJ cO) (xm_A ad (CE f v) s.heap.size) ad (CE v_35.1 v_35.2) s s.heap H locs → lv_has ls 10 [] → W p l e rm_Mt_matchAtom_1 s m args below meth c H locs 0 0 QQ (F0 m 111 ls [])) (fun v_35 h H locs ls hw hl => ?_) (fun J_36 hJ_36 h => ?_)
          · refine lv_iconst (v := 0) hx hb d_Mt_matchAtom_111 (by decide) ?_
            exact hJ_34 (0, v_35.1, v_35.2) h _ _ _ hw (lv_sub hl [] rfl)
          · refine lv_if_eq (tgt := 111) hx hb d_Mt_matchAtom_85 (by decide) (fun hc => ?_) (fun hc => ?_)
            · have h := h.1 hc
              exact hJ_36 (f, v) h _ _ _ hw (lv_sub hl [] rfl)
            · have h := h.2 hc
              refine lv_aload_n hx hb d_Mt_matchAtom_88 rfl (lv_at hl 0 rfl) ?_
              refine xm_get (D := D) (v := .ref (ad iP)) (C := R_Mt) (T := F_Mt) (N := 2) hx hb hts (fun w h => List.mem_cons_of_mem _ (i_Mt w h)) hown hw (k_M f v) rfl 0 (by decide) (hts _ (List.mem_cons_of_mem _ xw_73)) (fun _ h9 => h9) rfl d_Mt_matchAtom_89 ?_
              refine lv_aload_n hx hb d_Mt_matchAtom_92 rfl (lv_at hl 1 rfl) ?_
              refine xm_get (D := D) (v := .ref (ad iA)) (C := R_Ru) (T := F_Ru) (N := 4) hx hb hts (fun w h => List.mem_cons_of_mem _ (i_Ru w h)) hown hw (k_U f v) rfl 0 (by decide) (hts _ (List.mem_cons_of_mem _ xw_87)) (fun _ h9 => h9) rfl d_Mt_matchAtom_93 ?_
              refine lv_iconst (v := 0) hx hb d_Mt_matchAtom_96 (by decide) ?_
              obtain ⟨hin, h⟩ := h
              refine xm_iald hx hb hw 0 (k_A f v) rfl hin d_Mt_matchAtom_97 ?_
              refine lv_iload_n hx hb d_Mt_matchAtom_98 rfl (lv_at hl 3 rfl) ?_
              refine lv_iload hx hb d_Mt_matchAtom_99 (lv_at hl 4 rfl) ?_
              refine xm_calli (ua := fun _ => ad) (va_runV (As := [.int (rs (Int32.toNatClampNeg 0)), .int x_1, .int x_2]) (rest := []) ⟨hx, hb, hml, hown, hts⟩ (c_Pr_put (D := D) (ad := ad) (CE := (fun f => (CE f v)))  (fun f => k_P f v) (fun f => k_R f v) (fun f f' => u_R f v f') h _) (xg_cwV 3 hts xw_321 xw_491 xw_319 xw_320 xw_5 rfl rfl (by decide +kernel) ⟨Nat.le_of_ble_eq_true rfl, Nat.le_of_ble_eq_true rfl⟩) (xm_preV hw (k_P f v) rfl _) rfl rfl hl.1 rfl (lv_room (Nat.le_of_ble_eq_true rfl)) d_Mt_matchAtom_101 ⟨Nat.le_of_ble_eq_true rfl, Nat.le_of_ble_eq_true rfl⟩) hw (fun r_37 u_38 H locs h hw => ?_)
              obtain ⟨f_39, ef_39⟩ : ∃ z, z = u_38 := ⟨_, rfl⟩
              try dsimp only at h hw
              rw [← ef_39] at h hw
              refine lv_if_eq (tgt := 111) hx hb d_Mt_matchAtom_104 (by decide) (fun hc => ?_) (fun hc => ?_)
              · have h := h.1 hc
                exact hJ_36 (f_39, v) h _ _ _ hw (lv_sub hl [] rfl)
              · have h := h.2 hc
                refine lv_iconst (v := 1) hx hb d_Mt_matchAtom_107 (by decide) ?_
                refine lv_goto (tgt := 112) hx hb d_Mt_matchAtom_108 (by decide) ?_
                exact hJ_34 (1, f_39, v) h _ _ _ hw (lv_sub hl [] rfl)
    · refine lv_if_eq (tgt := 75) hx hb d_Mt_matchAtom_51 (by decide) (fun hc => ?_) (fun hc => ?_)
      · have h := h.1 hc
        exact hJ_6 () h _ _ _ hw (lv_sub hl [1, 2, 3, 4, 5, 0] rfl)
      · have h := h.2 hc
        refine lv_aload_n hx hb d_Mt_matchAtom_54 rfl (lv_at hl 1 rfl) ?_
        refine xm_get (D := D) (v := .ref (ad iP)) (C := R_Mt) (T := F_Mt) (N := 2) hx hb hts (fun w h => List.mem_cons_of_mem _ (i_Mt w h)) hown hw (k_M f v) rfl 0 (by decide) (hts _ (List.mem_cons_of_mem _ xw_73)) (fun _ h9 => h9) rfl d_Mt_matchAtom_55 ?_
        refine lv_aload_n hx hb d_Mt_matchAtom_58 rfl (lv_at hl 2 rfl) ?_
        refine xm_get (D := D) (v := .ref (ad iA)) (C := R_Ru) (T := F_Ru) (N := 4) hx hb hts (fun w h => List.mem_cons_of_mem _ (i_Ru w h)) hown hw (k_U f v) rfl 0 (by decide) (hts _ (List.mem_cons_of_mem _ xw_87)) (fun _ h9 => h9) rfl d_Mt_matchAtom_59 ?_
        refine lv_iconst (v := 0) hx hb d_Mt_matchAtom_62 (by decide) ?_
        obtain ⟨hin, h⟩ := h
        refine xm_iald hx hb hw 0 (k_A f v) rfl hin d_Mt_matchAtom_63 ?_
        refine lv_iload_n hx hb d_Mt_matchAtom_64 rfl (lv_at hl 4 rfl) ?_
        refine lv_iload hx hb d_Mt_matchAtom_65 (lv_at hl 5 rfl) ?_
        refine xm_calli (ua := fun _ => ad) (va_runV (As := [.int (rs (Int32.toNatClampNeg 0)), .int x_1, .int x_2]) (rest := []) ⟨hx, hb, hml, hown, hts⟩ (c_Pr_has (D := D) (ad := ad) (CE := ((CE f v)))  (k_P f v) (k_R f v) h _) (xg_cwV 3 hts xw_176 xw_490 xw_174 xw_175 xw_5 rfl rfl (by decide +kernel) ⟨Nat.le_of_ble_eq_true rfl, Nat.le_of_ble_eq_true rfl⟩) (xm_preV hw (k_P f v) rfl _) rfl rfl hl.1 rfl (lv_room (Nat.le_of_ble_eq_true rfl)) d_Mt_matchAtom_67 ⟨Nat.le_of_ble_eq_true rfl, Nat.le_of_ble_eq_true rfl⟩) hw (fun r_40 _ H locs h hw => ?_)
        refine lv_if_eq (tgt := 75) hx hb d_Mt_matchAtom_70 (by decide) (fun hc => ?_) (fun hc => ?_)
        · have h := h.1 hc
          exact hJ_6 () h _ _ _ hw (lv_sub hl [1, 2, 3, 4, 5, 0] rfl)
        · have h := h.2 hc
          refine lv_iconst (v := 0) hx hb d_Mt_matchAtom_73 (by decide) ?_
          subst hQQ
          exact xm_zret hx hb hr hlk rfl hw (f, v) rfl rfl h d_Mt_matchAtom_74
  · refine xj_use h (fun (v_42 : Unit) => ∀ (H : Heap) (locs : List Loc) (ls : Array Slot), xm_W D xcl (xT cI cZ cJ cO) (xm_A ad (CE f v) s.heap.size) ad (CE f v) s s.heap H locs → lv_has ls 10 [(0, .ref (ad iM)), (1, .ref (ad iU)), (2, .int a), (3, .int x_1), (4, .int x_2)] → W p l e rm_Mt_matchAtom_1 s m args below meth c H locs 0 0 QQ (F0 m 46 ls [])) (fun v_42 h H locs ls hw hl => ?_) (fun J_43 hJ_43 h => ?_)
    · refine lv_iconst (v := 0) hx hb d_Mt_matchAtom_46 (by decide) ?_
      exact hJ_4 0 h _ _ _ hw (lv_sub hl [0, 1, 2, 3, 4] rfl)
    · refine lv_icmp_eq (tgt := 46) hx hb d_Mt_matchAtom_32 (by decide) (fun hc => ?_) (fun hc => ?_)
      · have h := h.1 hc
        exact hJ_43 () h _ _ _ hw (lv_sub hl [2, 3, 4, 1, 0] rfl)
      · have h := h.2 hc
        refine lv_iload hx hb d_Mt_matchAtom_35 (lv_at hl 0 rfl) ?_
        refine lv_bipush (v := (-2)) hx hb d_Mt_matchAtom_37 (by decide) ?_
        refine lv_icmp_eq (tgt := 46) hx hb d_Mt_matchAtom_39 (by decide) (fun hc => ?_) (fun hc => ?_)
        · have h := h.1 hc
          exact hJ_43 () h _ _ _ hw (lv_sub hl [2, 3, 4, 1, 0] rfl)
        · have h := h.2 hc
          refine lv_iconst (v := 1) hx hb d_Mt_matchAtom_42 (by decide) ?_
          refine lv_goto (tgt := 47) hx hb d_Mt_matchAtom_43 (by decide) ?_
          exact hJ_4 1 h _ _ _ hw (lv_sub hl [2, 3, 4, 1, 0] rfl)
def wp_Mt_matchSecond_1 (post : Int32 → (Nat → Int32) → (Nat → Int32) → Prop)  (rs : Nat → Int32) (rf : Nat → Int32) (rc : Nat → Int32) (na : Int32) (f : Nat → Int32) (v : Nat → Int32) (a : Int32) (row : Int32) : Prop := wp_Mt_matchSecond wp_Mt_matchAtom_1 post rs rf rc na f v a row
abbrev rm_Mt_matchSecond_1 : Room := { frames := 5, cells := 0, slots := 0, locals := 129 }
set_option maxHeartbeats 4000000 in
set_option maxRecDepth 100000 in
theorem c_Mt_matchSecond_1 {l : Launch} {D : va_G} {ad : Nat → Nat} (CE : (Nat → Int32) → (Nat → Int32) → Nat → Option va_E) {cI cZ cJ cO : ClassId} {iM : Nat} {iV : Nat} {iP : Nat} {iR : Nat} {iU : Nat} {iA : Nat} {iB : Nat} {iC : Nat} {rs : Nat → Int32} {rf : Nat → Int32} {rc : Nat → Int32} {na : Int32} (k_M : ∀ (f : Nat → Int32) (v : Nat → Int32), (CE f v) iM = some (.inr (2, [.ref (ad iP), .ref (ad iV)]))) (k_V : ∀ (f : Nat → Int32) (v : Nat → Int32), (CE f v) iV = some (.inl (cI, 20, .inl v))) (k_P : ∀ (f : Nat → Int32) (v : Nat → Int32), (CE f v) iP = some (.inr (1, [.ref (ad iR)]))) (k_R : ∀ (f : Nat → Int32) (v : Nat → Int32), (CE f v) iR = some (.inl (cI, 341, .inl f))) (k_U : ∀ (f : Nat → Int32) (v : Nat → Int32), (CE f v) iU = some (.inr (3, [.ref (ad iA), .ref (ad iB), .ref (ad iC), .int na]))) (k_A : ∀ (f : Nat → Int32) (v : Nat → Int32), (CE f v) iA = some (.inl (cI, 4, .inl rs))) (k_B : ∀ (f : Nat → Int32) (v : Nat → Int32), (CE f v) iB = some (.inl (cI, 4, .inl rf))) (k_C : ∀ (f : Nat → Int32) (v : Nat → Int32), (CE f v) iC = some (.inl (cI, 4, .inl rc))) (u_V : ∀ (f : Nat → Int32) (v : Nat → Int32) (v' : Nat → Int32), va_up (CE f v) iV (some (.inl (cI, 20, .inl v'))) = (CE f v')) (u_R : ∀ (f : Nat → Int32) (v : Nat → Int32) (f' : Nat → Int32), va_up (CE f v) iR (some (.inl (cI, 341, .inl f'))) = (CE f' v)) {post : Int32 → (Nat → Int32) → (Nat → Int32) → Prop} {f : Nat → Int32} {v : Nat → Int32} {a : Int32} {row : Int32} (h : wp_Mt_matchSecond_1 post rs rf rc na f v a row) : ∀ sz, Met l y_Mt_matchSecond (Cond.code y_Mt_matchSecond b_Mt_matchSecond 7 (some .boolean) :: xg) rm_Mt_matchSecond_1 (xm_Pc D xcl (xT cI cZ cJ cO) ad (CE f v) sz [.ref (ad iM), .ref (ad iU), .int a, .int row]) (va_Qi (fun (r : Int32) (u : (Nat → Int32) × (Nat → Int32)) => post r u.1 u.2) (xm_B D xcl (xT cI cZ cJ cO) (xm_A ad (CE f v) sz) (fun _ => ad) (fun u : (Nat → Int32) × (Nat → Int32) => CE u.1 u.2)) (xm_A ad (CE f v) sz)) 0 0 (xm_A ad (CE f v) sz) := by
  refine xm_ofW (cc := b_Mt_matchSecond) (maxL := 7) (ret := (some .boolean)) (by decide) rfl (Nat.le_of_ble_eq_true rfl) ?_
  intro p e s m args below meth c ls QQ hQQ hx hb hml hr hown hlk hnm hts hl hw
  have hl : lv_has ls 7 [(0, .ref (ad iM)), (1, .ref (ad iU)), (2, .int a), (3, .int row)] := hl
  unfold wp_Mt_matchSecond_1 wp_Mt_matchSecond at h
  refine lv_aload_n hx hb d_Mt_matchSecond_0 rfl (lv_at hl 1 rfl) ?_
  refine xm_get (D := D) (v := .ref (ad iC)) (C := R_Ru) (T := F_Ru) (N := 4) hx hb hts (fun w h => List.mem_cons_of_mem _ (i_Ru w h)) hown hw (k_U f v) rfl 2 (by decide) (hts _ (List.mem_cons_of_mem _ xw_93)) (fun _ h9 => h9) rfl d_Mt_matchSecond_1 ?_
  refine lv_iload_n hx hb d_Mt_matchSecond_4 rfl (lv_at hl 2 rfl) ?_
  obtain ⟨hin, h⟩ := h
  refine xm_iald hx hb hw 0 (k_C f v) rfl hin d_Mt_matchSecond_5 ?_
  refine lv_topi (fun x_1 ex_1 => ?_)
  have h := h x_1 ex_1
  refine lv_istore (lv' := [(4, .int x_1), (0, .ref (ad iM)), (1, .ref (ad iU)), (2, .int a), (3, .int row)]) hx hb d_Mt_matchSecond_6 hl (by decide) rfl (fun ls hl => ?_)
  refine lv_iload hx hb d_Mt_matchSecond_8 (lv_at hl 0 rfl) ?_
  refine lv_bipush (v := 18) hx hb d_Mt_matchSecond_10 (by decide) ?_
  refine lv_icmp_ne (tgt := 38) hx hb d_Mt_matchSecond_12 (by decide) (fun hc => ?_) (fun hc => ?_)
  · have h := h.1 hc
    refine lv_aload_n hx hb d_Mt_matchSecond_38 rfl (lv_at hl 1 rfl) ?_
    refine xm_get (D := D) (v := .ref (ad iV)) (C := R_Mt) (T := F_Mt) (N := 2) hx hb hts (fun w h => List.mem_cons_of_mem _ (i_Mt w h)) hown hw (k_M f v) rfl 1 (by decide) (hts _ (List.mem_cons_of_mem _ xw_74)) (fun _ h9 => h9) rfl d_Mt_matchSecond_39 ?_
    refine lv_iload hx hb d_Mt_matchSecond_42 (lv_at hl 0 rfl) ?_
    refine lv_iconst (v := 1) hx hb d_Mt_matchSecond_44 (by decide) ?_
    refine lv_iadd hx hb d_Mt_matchSecond_45 ?_
    obtain ⟨hin, h⟩ := h
    refine xm_iald hx hb hw 0 (k_V f v) rfl hin d_Mt_matchSecond_46 ?_
    refine lv_bipush (v := (-2)) hx hb d_Mt_matchSecond_47 (by decide) ?_
    refine lv_icmp_eq (tgt := 85) hx hb d_Mt_matchSecond_49 (by decide) (fun hc => ?_) (fun hc => ?_)
    · have h := h.1 hc
      refine lv_iconst (v := 0) hx hb d_Mt_matchSecond_85 (by decide) ?_
      refine lv_istore (lv' := [(5, .int 0), (4, .int x_1), (0, .ref (ad iM)), (1, .ref (ad iU)), (2, .int a), (3, .int row)]) hx hb d_Mt_matchSecond_86 hl (by decide) rfl (fun ls hl => ?_)
      refine lv_iconst (v := 0) hx hb d_Mt_matchSecond_88 (by decide) ?_
      refine lv_istore (lv' := [(6, .int 0), (5, .int 0), (4, .int x_1), (0, .ref (ad iM)), (1, .ref (ad iU)), (2, .int a), (3, .int row)]) hx hb d_Mt_matchSecond_89 hl (by decide) rfl (fun ls hl => ?_)
      refine xL_use h (fun (v_2 : Int32 × Int32 × (Nat → Int32) × (Nat → Int32)) => ∀ (H : Heap) (locs : List Loc) (ls : Array Slot), xm_W D xcl (xT cI cZ cJ cO) (xm_A ad (CE f v) s.heap.size) ad (CE v_2.2.2.1 v_2.2.2.2) s s.heap H locs → lv_has ls 7 [(6, .int v_2.1), (5, .int v_2.2.1), (4, .int x_1), (0, .ref (ad iM)), (1, .ref (ad iU)), (2, .int a), (3, .int row)] → W p l e rm_Mt_matchSecond_1 s m args below meth c H locs 0 0 QQ (F0 m 91 ls [])) (fun K_3 hK_3 v_2 h H locs ls hw hl => ?_) _ _ _ hw (lv_sub hl [0, 1, 2, 3, 4, 5, 6] rfl)
      refine lv_iload hx hb d_Mt_matchSecond_91 (lv_at hl 0 rfl) ?_
      refine lv_bipush (v := 10) hx hb d_Mt_matchSecond_93 (by decide) ?_
      refine xj_use h (fun (v_4 : Unit) => ∀ (H : Heap) (locs : List Loc) (ls : Array Slot), xm_W D xcl (xT cI cZ cJ cO) (xm_A ad (CE f v) s.heap.size) ad (CE v_2.2.2.1 v_2.2.2.2) s s.heap H locs → lv_has ls 7 [(0, .ref (ad iM)), (4, .int x_1), (5, .int v_2.2.1)] → W p l e rm_Mt_matchSecond_1 s m args below meth c H locs 0 0 QQ (F0 m 146 ls [])) (fun v_4 h H locs ls hw hl => ?_) (fun J_5 hJ_5 h => ?_)
      · refine lv_aload_n hx hb d_Mt_matchSecond_146 rfl (lv_at hl 0 rfl) ?_
        refine xm_get (D := D) (v := .ref (ad iV)) (C := R_Mt) (T := F_Mt) (N := 2) hx hb hts (fun w h => List.mem_cons_of_mem _ (i_Mt w h)) hown hw (k_M v_2.2.2.1 v_2.2.2.2) rfl 1 (by decide) (hts _ (List.mem_cons_of_mem _ xw_74)) (fun _ h9 => h9) rfl d_Mt_matchSecond_147 ?_
        refine lv_iload hx hb d_Mt_matchSecond_150 (lv_at hl 1 rfl) ?_
        refine lv_iconst (v := 1) hx hb d_Mt_matchSecond_152 (by decide) ?_
        refine lv_iadd hx hb d_Mt_matchSecond_153 ?_
        refine lv_bipush (v := (-2)) hx hb d_Mt_matchSecond_154 (by decide) ?_
        obtain ⟨hin, h⟩ := h
        refine xm_iast hx hb hw 0 (k_V v_2.2.2.1 v_2.2.2.2) rfl hin d_Mt_matchSecond_156 (fun H locs hw => ?_)
        have hw : xm_W D xcl (xT cI cZ cJ cO) (xm_A ad (CE f v) s.heap.size) ad (CE v_2.2.2.1 (upd v_2.2.2.2 (Int32.toNatClampNeg (x_1 + 1)) (-2))) s s.heap H locs := xm_W.cast (u_V v_2.2.2.1 v_2.2.2.2 (upd v_2.2.2.2 (Int32.toNatClampNeg (x_1 + 1)) (-2))) hw
        obtain ⟨v_6, ev_6⟩ : ∃ z : Nat → Int32, z = upd v_2.2.2.2 (Int32.toNatClampNeg (x_1 + 1)) (-2) := ⟨_, rfl⟩
        have h := h v_6 ev_6
        rw [← ev_6] at hw
        refine lv_iload hx hb d_Mt_matchSecond_157 (lv_at hl 2 rfl) ?_
        subst hQQ
        exact xm_zret hx hb hr hlk h.1 hw (v_2.2.2.1, v_6) rfl rfl h.2 d_Mt_matchSecond_159
      · refine lv_icmp_ge (tgt := 146) hx hb d_Mt_matchSecond_95 (by decide) (fun hc => ?_) (fun hc => ?_)
        · have h := h.1 hc
          exact hJ_5 () h _ _ _ hw (lv_sub hl [3, 2, 1] rfl)
        · have h := h.2 hc
          refine lv_iload_n hx hb d_Mt_matchSecond_98 rfl (lv_at hl 6 rfl) ?_
          refine lv_iload hx hb d_Mt_matchSecond_99 (lv_at hl 0 rfl) ?_
          refine lv_iconst (v := 1) hx hb d_Mt_matchSecond_101 (by decide) ?_
          refine lv_iadd hx hb d_Mt_matchSecond_102 ?_
          refine lv_ishr hx hb d_Mt_matchSecond_103 ?_
          refine lv_if_eq (tgt := 146) hx hb d_Mt_matchSecond_104 (by decide) (fun hc => ?_) (fun hc => ?_)
          · have h := h.1 hc
            exact hJ_5 () h _ _ _ hw (lv_sub hl [3, 2, 1] rfl)
          · have h := h.2 hc
            refine lv_iload_n hx hb d_Mt_matchSecond_107 rfl (lv_at hl 6 rfl) ?_
            refine lv_iload hx hb d_Mt_matchSecond_108 (lv_at hl 0 rfl) ?_
            refine xm_calli (ua := fun _ => ad) (va_runS (As := [.int row, .int v_2.1]) (rest := []) ⟨hx, hb, hml, hown, hts⟩ (c_Pr_isIn (D := D) (ad := ad) (CE := ((CE v_2.2.2.1 v_2.2.2.2)))   h _) (xg_cwS 2 hts xw_183 xw_500 xw_182 xw_5 rfl rfl (by decide +kernel) ⟨Nat.le_of_ble_eq_true rfl, Nat.le_of_ble_eq_true rfl⟩) (xm_pre hw _) rfl rfl hl.1 rfl (lv_room (Nat.le_of_ble_eq_true rfl)) d_Mt_matchSecond_110 ⟨Nat.le_of_ble_eq_true rfl, Nat.le_of_ble_eq_true rfl⟩) hw (fun r_7 _ H locs h hw => ?_)
            refine xj_use h (fun (v_9 : Int32 × (Nat → Int32) × (Nat → Int32)) => ∀ (H : Heap) (locs : List Loc) (ls : Array Slot), xm_W D xcl (xT cI cZ cJ cO) (xm_A ad (CE f v) s.heap.size) ad (CE v_9.2.1 v_9.2.2) s s.heap H locs → lv_has ls 7 [(0, .ref (ad iM)), (1, .ref (ad iU)), (2, .int a), (3, .int row), (4, .int x_1), (5, .int v_9.1), (6, .int v_2.1)] → W p l e rm_Mt_matchSecond_1 s m args below meth c H locs 0 0 QQ (F0 m 140 ls [])) (fun v_9 h H locs ls hw hl => ?_) (fun J_10 hJ_10 h => ?_)
            · obtain ⟨x_11, ex_11⟩ : ∃ y : Int32, y = v_2.1 + 1 := ⟨_, rfl⟩
              have h := h x_11 ex_11
              refine lv_iinc (v := x_11) (lv' := [(6, .int x_11), (0, .ref (ad iM)), (1, .ref (ad iU)), (2, .int a), (3, .int row), (4, .int x_1), (5, .int v_9.1)]) hx hb d_Mt_matchSecond_140 hl (k := 6) rfl (by rw [ex_11]; rfl) (by decide) rfl (fun ls hl => ?_)
              refine lv_goto (tgt := 91) hx hb d_Mt_matchSecond_143 (by decide) ?_
              exact hK_3 (x_11, v_9.1, v_9.2.1, v_9.2.2) h _ _ _ hw (lv_sub hl [0, 6, 5, 1, 2, 3, 4] rfl)
            · refine lv_if_eq (tgt := 140) hx hb d_Mt_matchSecond_113 (by decide) (fun hc => ?_) (fun hc => ?_)
              · have h := h.1 hc
                exact hJ_10 (v_2.2.1, v_2.2.2.1, v_2.2.2.2) h _ _ _ hw (lv_sub hl [3, 4, 5, 6, 2, 1, 0] rfl)
              · have h := h.2 hc
                refine lv_aload_n hx hb d_Mt_matchSecond_116 rfl (lv_at hl 3 rfl) ?_
                refine xm_get (D := D) (v := .ref (ad iV)) (C := R_Mt) (T := F_Mt) (N := 2) hx hb hts (fun w h => List.mem_cons_of_mem _ (i_Mt w h)) hown hw (k_M v_2.2.2.1 v_2.2.2.2) rfl 1 (by decide) (hts _ (List.mem_cons_of_mem _ xw_74)) (fun _ h9 => h9) rfl d_Mt_matchSecond_117 ?_
                refine lv_iload hx hb d_Mt_matchSecond_120 (lv_at hl 2 rfl) ?_
                refine lv_iconst (v := 1) hx hb d_Mt_matchSecond_122 (by decide) ?_
                refine lv_iadd hx hb d_Mt_matchSecond_123 ?_
                refine lv_iload hx hb d_Mt_matchSecond_124 (lv_at hl 0 rfl) ?_
                obtain ⟨hin, h⟩ := h
                refine xm_iast hx hb hw 0 (k_V v_2.2.2.1 v_2.2.2.2) rfl hin d_Mt_matchSecond_126 (fun H locs hw => ?_)
                have hw : xm_W D xcl (xT cI cZ cJ cO) (xm_A ad (CE f v) s.heap.size) ad (CE v_2.2.2.1 (upd v_2.2.2.2 (Int32.toNatClampNeg (x_1 + 1)) v_2.1)) s s.heap H locs := xm_W.cast (u_V v_2.2.2.1 v_2.2.2.2 (upd v_2.2.2.2 (Int32.toNatClampNeg (x_1 + 1)) v_2.1)) hw
                obtain ⟨v_12, ev_12⟩ : ∃ z : Nat → Int32, z = upd v_2.2.2.2 (Int32.toNatClampNeg (x_1 + 1)) v_2.1 := ⟨_, rfl⟩
                have h := h v_12 ev_12
                rw [← ev_12] at hw
                refine lv_iload hx hb d_Mt_matchSecond_127 (lv_at hl 1 rfl) ?_
                refine lv_aload_n hx hb d_Mt_matchSecond_129 rfl (lv_at hl 3 rfl) ?_
                refine lv_aload_n hx hb d_Mt_matchSecond_130 rfl (lv_at hl 4 rfl) ?_
                refine lv_iload_n hx hb d_Mt_matchSecond_131 rfl (lv_at hl 5 rfl) ?_
                refine lv_iconst (v := 1) hx hb d_Mt_matchSecond_132 (by decide) ?_
                refine lv_iadd hx hb d_Mt_matchSecond_133 ?_
                refine xm_calli (ua := fun _ => ad) (va_runV (As := [.ref (ad iU), .int (a + 1)]) (rest := [.int v_2.2.1]) ⟨hx, hb, hml, hown, hts⟩ (c_Mt_matchAtom_1 (D := D) (ad := ad) (CE := (fun f v => (CE f v)))  (fun f v => k_M f v) (fun f v => k_V f v) (fun f v => k_P f v) (fun f v => k_R f v) (fun f v => k_U f v) (fun f v => k_A f v) (fun f v => k_B f v) (fun f v => k_C f v) (fun f v v' => u_V f v v') (fun f v f' => u_R f v f') h _) (xg_cwV 2 hts xw_489 xw_486 xw_488 xw_p15 xw_6 rfl rfl (by decide +kernel) ⟨Nat.le_of_ble_eq_true rfl, Nat.le_of_ble_eq_true rfl⟩) (xm_preV hw (k_M v_2.2.2.1 v_12) rfl _) rfl rfl hl.1 rfl (lv_room (Nat.le_of_ble_eq_true rfl)) d_Mt_matchSecond_134 ⟨Nat.le_of_ble_eq_true rfl, Nat.le_of_ble_eq_true rfl⟩) hw (fun r_13 u_14 H locs h hw => ?_)
                obtain ⟨f_15, ef_15⟩ : ∃ z, z = u_14.1 := ⟨_, rfl⟩
                obtain ⟨v_16, ev_16⟩ : ∃ z, z = u_14.2 := ⟨_, rfl⟩
                try dsimp only at h hw
                rw [← ef_15, ← ev_16] at h hw
                refine lv_ior hx hb d_Mt_matchSecond_137 ?_
                refine lv_topi (fun x_17 ex_17 => ?_)
                have h := h x_17 ex_17
                refine lv_istore (lv' := [(5, .int x_17), (6, .int v_2.1), (4, .int x_1), (0, .ref (ad iM)), (1, .ref (ad iU)), (2, .int a), (3, .int row)]) hx hb d_Mt_matchSecond_138 hl (by decide) rfl (fun ls hl => ?_)
                exact hJ_10 (x_17, f_15, v_16) h _ _ _ hw (lv_sub hl [3, 4, 5, 6, 2, 0, 1] rfl)
    · have h := h.2 hc
      refine lv_iload_n hx hb d_Mt_matchSecond_52 rfl (lv_at hl 4 rfl) ?_
      refine lv_aload_n hx hb d_Mt_matchSecond_53 rfl (lv_at hl 1 rfl) ?_
      refine xm_get (D := D) (v := .ref (ad iV)) (C := R_Mt) (T := F_Mt) (N := 2) hx hb hts (fun w h => List.mem_cons_of_mem _ (i_Mt w h)) hown hw (k_M f v) rfl 1 (by decide) (hts _ (List.mem_cons_of_mem _ xw_74)) (fun _ h9 => h9) rfl d_Mt_matchSecond_54 ?_
      refine lv_iload hx hb d_Mt_matchSecond_57 (lv_at hl 0 rfl) ?_
      refine lv_iconst (v := 1) hx hb d_Mt_matchSecond_59 (by decide) ?_
      refine lv_iadd hx hb d_Mt_matchSecond_60 ?_
      obtain ⟨hin, h⟩ := h
      refine xm_iald hx hb hw 0 (k_V f v) rfl hin d_Mt_matchSecond_61 ?_
      refine xm_calli (ua := fun _ => ad) (va_runS (As := [.int row, .int (v (Int32.toNatClampNeg (x_1 + 1)))]) (rest := []) ⟨hx, hb, hml, hown, hts⟩ (c_Pr_isIn (D := D) (ad := ad) (CE := ((CE f v)))   h _) (xg_cwS 2 hts xw_183 xw_500 xw_182 xw_5 rfl rfl (by decide +kernel) ⟨Nat.le_of_ble_eq_true rfl, Nat.le_of_ble_eq_true rfl⟩) (xm_pre hw _) rfl rfl hl.1 rfl (lv_room (Nat.le_of_ble_eq_true rfl)) d_Mt_matchSecond_62 ⟨Nat.le_of_ble_eq_true rfl, Nat.le_of_ble_eq_true rfl⟩) hw (fun r_18 _ H locs h hw => ?_)
      refine xj_use h (fun (v_20 : Int32 × (Nat → Int32) × (Nat → Int32)) => ∀ (H : Heap) (locs : List Loc) (ls : Array Slot), xm_W D xcl (xT cI cZ cJ cO) (xm_A ad (CE f v) s.heap.size) ad (CE v_20.2.1 v_20.2.2) s s.heap H locs → lv_has ls 7 [] → W p l e rm_Mt_matchSecond_1 s m args below meth c H locs 0 0 QQ (F0 m 84 ls [.int v_20.1])) (fun v_20 h H locs ls hw hl => ?_) (fun J_21 hJ_21 h => ?_)
      · subst hQQ
        exact xm_zret hx hb hr hlk h.1 hw (v_20.2.1, v_20.2.2) rfl rfl h.2 d_Mt_matchSecond_84
      · refine xj_use h (fun (v_22 : (Nat → Int32) × (Nat → Int32)) => ∀ (H : Heap) (locs : List Loc) (ls : Array Slot), xm_W D xcl (xT cI cZ cJ cO) (xm_A ad (CE f v) s.heap.size) ad (CE v_22.1 v_22.2) s s.heap H locs → lv_has ls 7 [] → W p l e rm_Mt_matchSecond_1 s m args below meth c H locs 0 0 QQ (F0 m 83 ls [])) (fun v_22 h H locs ls hw hl => ?_) (fun J_23 hJ_23 h => ?_)
        · refine lv_iconst (v := 0) hx hb d_Mt_matchSecond_83 (by decide) ?_
          exact hJ_21 (0, v_22.1, v_22.2) h _ _ _ hw (lv_sub hl [] rfl)
        · refine lv_if_eq (tgt := 83) hx hb d_Mt_matchSecond_65 (by decide) (fun hc => ?_) (fun hc => ?_)
          · have h := h.1 hc
            exact hJ_23 (f, v) h _ _ _ hw (lv_sub hl [] rfl)
          · have h := h.2 hc
            refine lv_aload_n hx hb d_Mt_matchSecond_68 rfl (lv_at hl 1 rfl) ?_
            refine lv_aload_n hx hb d_Mt_matchSecond_69 rfl (lv_at hl 2 rfl) ?_
            refine lv_iload_n hx hb d_Mt_matchSecond_70 rfl (lv_at hl 3 rfl) ?_
            refine lv_iconst (v := 1) hx hb d_Mt_matchSecond_71 (by decide) ?_
            refine lv_iadd hx hb d_Mt_matchSecond_72 ?_
            refine xm_calli (ua := fun _ => ad) (va_runV (As := [.ref (ad iU), .int (a + 1)]) (rest := []) ⟨hx, hb, hml, hown, hts⟩ (c_Mt_matchAtom_1 (D := D) (ad := ad) (CE := (fun f v => (CE f v)))  (fun f v => k_M f v) (fun f v => k_V f v) (fun f v => k_P f v) (fun f v => k_R f v) (fun f v => k_U f v) (fun f v => k_A f v) (fun f v => k_B f v) (fun f v => k_C f v) (fun f v v' => u_V f v v') (fun f v f' => u_R f v f') h _) (xg_cwV 2 hts xw_489 xw_486 xw_488 xw_p15 xw_6 rfl rfl (by decide +kernel) ⟨Nat.le_of_ble_eq_true rfl, Nat.le_of_ble_eq_true rfl⟩) (xm_preV hw (k_M f v) rfl _) rfl rfl hl.1 rfl (lv_room (Nat.le_of_ble_eq_true rfl)) d_Mt_matchSecond_73 ⟨Nat.le_of_ble_eq_true rfl, Nat.le_of_ble_eq_true rfl⟩) hw (fun r_24 u_25 H locs h hw => ?_)
            obtain ⟨f_26, ef_26⟩ : ∃ z, z = u_25.1 := ⟨_, rfl⟩
            obtain ⟨v_27, ev_27⟩ : ∃ z, z = u_25.2 := ⟨_, rfl⟩
            try dsimp only at h hw
            rw [← ef_26, ← ev_27] at h hw
            refine lv_if_eq (tgt := 83) hx hb d_Mt_matchSecond_76 (by decide) (fun hc => ?_) (fun hc => ?_)
            · have h := h.1 hc
              exact hJ_23 (f_26, v_27) h _ _ _ hw (lv_sub hl [] rfl)
            · have h := h.2 hc
              refine lv_iconst (v := 1) hx hb d_Mt_matchSecond_79 (by decide) ?_
              refine lv_goto (tgt := 84) hx hb d_Mt_matchSecond_80 (by decide) ?_
              exact hJ_21 (1, f_26, v_27) h _ _ _ hw (lv_sub hl [] rfl)
  · have h := h.2 hc
    refine lv_iload_n hx hb d_Mt_matchSecond_15 rfl (lv_at hl 4 rfl) ?_
    refine lv_iconst (v := 1) hx hb d_Mt_matchSecond_16 (by decide) ?_
    refine lv_ishr hx hb d_Mt_matchSecond_17 ?_
    refine xj_use h (fun (v_28 : Int32 × (Nat → Int32) × (Nat → Int32)) => ∀ (H : Heap) (locs : List Loc) (ls : Array Slot), xm_W D xcl (xT cI cZ cJ cO) (xm_A ad (CE f v) s.heap.size) ad (CE v_28.2.1 v_28.2.2) s s.heap H locs → lv_has ls 7 [] → W p l e rm_Mt_matchSecond_1 s m args below meth c H locs 0 0 QQ (F0 m 37 ls [.int v_28.1])) (fun v_28 h H locs ls hw hl => ?_) (fun J_29 hJ_29 h => ?_)
    · subst hQQ
      exact xm_zret hx hb hr hlk h.1 hw (v_28.2.1, v_28.2.2) rfl rfl h.2 d_Mt_matchSecond_37
    · refine xj_use h (fun (v_30 : (Nat → Int32) × (Nat → Int32)) => ∀ (H : Heap) (locs : List Loc) (ls : Array Slot), xm_W D xcl (xT cI cZ cJ cO) (xm_A ad (CE f v) s.heap.size) ad (CE v_30.1 v_30.2) s s.heap H locs → lv_has ls 7 [] → W p l e rm_Mt_matchSecond_1 s m args below meth c H locs 0 0 QQ (F0 m 36 ls [])) (fun v_30 h H locs ls hw hl => ?_) (fun J_31 hJ_31 h => ?_)
      · refine lv_iconst (v := 0) hx hb d_Mt_matchSecond_36 (by decide) ?_
        exact hJ_29 (0, v_30.1, v_30.2) h _ _ _ hw (lv_sub hl [] rfl)
      · refine lv_if_eq (tgt := 36) hx hb d_Mt_matchSecond_18 (by decide) (fun hc => ?_) (fun hc => ?_)
        · have h := h.1 hc
          exact hJ_31 (f, v) h _ _ _ hw (lv_sub hl [] rfl)
        · have h := h.2 hc
          refine lv_aload_n hx hb d_Mt_matchSecond_21 rfl (lv_at hl 1 rfl) ?_
          refine lv_aload_n hx hb d_Mt_matchSecond_22 rfl (lv_at hl 2 rfl) ?_
          refine lv_iload_n hx hb d_Mt_matchSecond_23 rfl (lv_at hl 3 rfl) ?_
          refine lv_iconst (v := 1) hx hb d_Mt_matchSecond_24 (by decide) ?_
          refine lv_iadd hx hb d_Mt_matchSecond_25 ?_
          refine xm_calli (ua := fun _ => ad) (va_runV (As := [.ref (ad iU), .int (a + 1)]) (rest := []) ⟨hx, hb, hml, hown, hts⟩ (c_Mt_matchAtom_1 (D := D) (ad := ad) (CE := (fun f v => (CE f v)))  (fun f v => k_M f v) (fun f v => k_V f v) (fun f v => k_P f v) (fun f v => k_R f v) (fun f v => k_U f v) (fun f v => k_A f v) (fun f v => k_B f v) (fun f v => k_C f v) (fun f v v' => u_V f v v') (fun f v f' => u_R f v f') h _) (xg_cwV 2 hts xw_489 xw_486 xw_488 xw_p15 xw_6 rfl rfl (by decide +kernel) ⟨Nat.le_of_ble_eq_true rfl, Nat.le_of_ble_eq_true rfl⟩) (xm_preV hw (k_M f v) rfl _) rfl rfl hl.1 rfl (lv_room (Nat.le_of_ble_eq_true rfl)) d_Mt_matchSecond_26 ⟨Nat.le_of_ble_eq_true rfl, Nat.le_of_ble_eq_true rfl⟩) hw (fun r_32 u_33 H locs h hw => ?_)
          obtain ⟨f_34, ef_34⟩ : ∃ z, z = u_33.1 := ⟨_, rfl⟩
          obtain ⟨v_35, ev_35⟩ : ∃ z, z = u_33.2 := ⟨_, rfl⟩
          try dsimp only at h hw
          rw [← ef_34, ← ev_35] at h hw
          refine lv_if_eq (tgt := 36) hx hb d_Mt_matchSecond_29 (by decide) (fun hc => ?_) (fun hc => ?_)
          · have h := h.1 hc
            exact hJ_31 (f_34, v_35) h _ _ _ hw (lv_sub hl [] rfl)
          · have h := h.2 hc
            refine lv_iconst (v := 1) hx hb d_Mt_matchSecond_32 (by decide) ?_
            refine lv_goto (tgt := 37) hx hb d_Mt_matchSecond_33 (by decide) ?_
            exact hJ_29 (1, f_34, v_35) h _ _ _ hw (lv_sub hl [] rfl)
def wp_Mt_matchAtom_2 (post : Int32 → (Nat → Int32) → (Nat → Int32) → Prop)  (rs : Nat → Int32) (rf : Nat → Int32) (rc : Nat → Int32) (na : Int32) (f : Nat → Int32) (v : Nat → Int32) (a : Int32) : Prop := wp_Mt_matchAtom wp_Mt_matchSecond_1 post rs rf rc na f v a
abbrev rm_Mt_matchAtom_2 : Room := { frames := 6, cells := 0, slots := 0, locals := 155 }
set_option maxHeartbeats 4000000 in
set_option maxRecDepth 100000 in
theorem c_Mt_matchAtom_2 {l : Launch} {D : va_G} {ad : Nat → Nat} (CE : (Nat → Int32) → (Nat → Int32) → Nat → Option va_E) {cI cZ cJ cO : ClassId} {iM : Nat} {iV : Nat} {iP : Nat} {iR : Nat} {iU : Nat} {iA : Nat} {iB : Nat} {iC : Nat} {rs : Nat → Int32} {rf : Nat → Int32} {rc : Nat → Int32} {na : Int32} (k_M : ∀ (f : Nat → Int32) (v : Nat → Int32), (CE f v) iM = some (.inr (2, [.ref (ad iP), .ref (ad iV)]))) (k_V : ∀ (f : Nat → Int32) (v : Nat → Int32), (CE f v) iV = some (.inl (cI, 20, .inl v))) (k_P : ∀ (f : Nat → Int32) (v : Nat → Int32), (CE f v) iP = some (.inr (1, [.ref (ad iR)]))) (k_R : ∀ (f : Nat → Int32) (v : Nat → Int32), (CE f v) iR = some (.inl (cI, 341, .inl f))) (k_U : ∀ (f : Nat → Int32) (v : Nat → Int32), (CE f v) iU = some (.inr (3, [.ref (ad iA), .ref (ad iB), .ref (ad iC), .int na]))) (k_A : ∀ (f : Nat → Int32) (v : Nat → Int32), (CE f v) iA = some (.inl (cI, 4, .inl rs))) (k_B : ∀ (f : Nat → Int32) (v : Nat → Int32), (CE f v) iB = some (.inl (cI, 4, .inl rf))) (k_C : ∀ (f : Nat → Int32) (v : Nat → Int32), (CE f v) iC = some (.inl (cI, 4, .inl rc))) (u_V : ∀ (f : Nat → Int32) (v : Nat → Int32) (v' : Nat → Int32), va_up (CE f v) iV (some (.inl (cI, 20, .inl v'))) = (CE f v')) (u_R : ∀ (f : Nat → Int32) (v : Nat → Int32) (f' : Nat → Int32), va_up (CE f v) iR (some (.inl (cI, 341, .inl f'))) = (CE f' v)) {post : Int32 → (Nat → Int32) → (Nat → Int32) → Prop} {f : Nat → Int32} {v : Nat → Int32} {a : Int32} (h : wp_Mt_matchAtom_2 post rs rf rc na f v a) : ∀ sz, Met l y_Mt_matchAtom (Cond.code y_Mt_matchAtom b_Mt_matchAtom 10 (some .boolean) :: xg) rm_Mt_matchAtom_2 (xm_Pc D xcl (xT cI cZ cJ cO) ad (CE f v) sz [.ref (ad iM), .ref (ad iU), .int a]) (va_Qi (fun (r : Int32) (u : (Nat → Int32) × (Nat → Int32)) => post r u.1 u.2) (xm_B D xcl (xT cI cZ cJ cO) (xm_A ad (CE f v) sz) (fun _ => ad) (fun u : (Nat → Int32) × (Nat → Int32) => CE u.1 u.2)) (xm_A ad (CE f v) sz)) 0 0 (xm_A ad (CE f v) sz) := by
  refine xm_ofW (cc := b_Mt_matchAtom) (maxL := 10) (ret := (some .boolean)) (by decide) rfl (Nat.le_of_ble_eq_true rfl) ?_
  intro p e s m args below meth c ls QQ hQQ hx hb hml hr hown hlk hnm hts hl hw
  have hl : lv_has ls 10 [(0, .ref (ad iM)), (1, .ref (ad iU)), (2, .int a)] := hl
  unfold wp_Mt_matchAtom_2 wp_Mt_matchAtom at h
  refine lv_aload_n hx hb d_Mt_matchAtom_0 rfl (lv_at hl 0 rfl) ?_
  refine xm_get (D := D) (v := .ref (ad iV)) (C := R_Mt) (T := F_Mt) (N := 2) hx hb hts (fun w h => List.mem_cons_of_mem _ (i_Mt w h)) hown hw (k_M f v) rfl 1 (by decide) (hts _ (List.mem_cons_of_mem _ xw_74)) (fun _ h9 => h9) rfl d_Mt_matchAtom_1 ?_
  refine lv_aload_n hx hb d_Mt_matchAtom_4 rfl (lv_at hl 1 rfl) ?_
  refine xm_get (D := D) (v := .ref (ad iB)) (C := R_Ru) (T := F_Ru) (N := 4) hx hb hts (fun w h => List.mem_cons_of_mem _ (i_Ru w h)) hown hw (k_U f v) rfl 1 (by decide) (hts _ (List.mem_cons_of_mem _ xw_90)) (fun _ h9 => h9) rfl d_Mt_matchAtom_5 ?_
  refine lv_iconst (v := 0) hx hb d_Mt_matchAtom_8 (by decide) ?_
  obtain ⟨hin, h⟩ := h
  refine xm_iald hx hb hw 0 (k_B f v) rfl hin d_Mt_matchAtom_9 ?_
  refine lv_iconst (v := 1) hx hb d_Mt_matchAtom_10 (by decide) ?_
  refine lv_iadd hx hb d_Mt_matchAtom_11 ?_
  obtain ⟨hin, h⟩ := h
  refine xm_iald hx hb hw 0 (k_V f v) rfl hin d_Mt_matchAtom_12 ?_
  refine lv_topi (fun x_1 ex_1 => ?_)
  have h := h x_1 ex_1
  refine lv_istore_n (lv' := [(3, .int x_1), (0, .ref (ad iM)), (1, .ref (ad iU)), (2, .int a)]) hx hb d_Mt_matchAtom_13 rfl hl (by decide) rfl (fun ls hl => ?_)
  refine lv_aload_n hx hb d_Mt_matchAtom_14 rfl (lv_at hl 1 rfl) ?_
  refine xm_get (D := D) (v := .ref (ad iV)) (C := R_Mt) (T := F_Mt) (N := 2) hx hb hts (fun w h => List.mem_cons_of_mem _ (i_Mt w h)) hown hw (k_M f v) rfl 1 (by decide) (hts _ (List.mem_cons_of_mem _ xw_74)) (fun _ h9 => h9) rfl d_Mt_matchAtom_15 ?_
  refine lv_aload_n hx hb d_Mt_matchAtom_18 rfl (lv_at hl 2 rfl) ?_
  refine xm_get (D := D) (v := .ref (ad iC)) (C := R_Ru) (T := F_Ru) (N := 4) hx hb hts (fun w h => List.mem_cons_of_mem _ (i_Ru w h)) hown hw (k_U f v) rfl 2 (by decide) (hts _ (List.mem_cons_of_mem _ xw_93)) (fun _ h9 => h9) rfl d_Mt_matchAtom_19 ?_
  refine lv_iconst (v := 0) hx hb d_Mt_matchAtom_22 (by decide) ?_
  obtain ⟨hin, h⟩ := h
  refine xm_iald hx hb hw 0 (k_C f v) rfl hin d_Mt_matchAtom_23 ?_
  refine lv_iconst (v := 1) hx hb d_Mt_matchAtom_24 (by decide) ?_
  refine lv_iadd hx hb d_Mt_matchAtom_25 ?_
  obtain ⟨hin, h⟩ := h
  refine xm_iald hx hb hw 0 (k_V f v) rfl hin d_Mt_matchAtom_26 ?_
  refine lv_topi (fun x_2 ex_2 => ?_)
  have h := h x_2 ex_2
  refine lv_istore (lv' := [(4, .int x_2), (3, .int x_1), (0, .ref (ad iM)), (1, .ref (ad iU)), (2, .int a)]) hx hb d_Mt_matchAtom_27 hl (by decide) rfl (fun ls hl => ?_)
  refine lv_iload_n hx hb d_Mt_matchAtom_29 rfl (lv_at hl 1 rfl) ?_
  refine lv_bipush (v := (-2)) hx hb d_Mt_matchAtom_30 (by decide) ?_
  refine xj_use h (fun (v_3 : Int32) => ∀ (H : Heap) (locs : List Loc) (ls : Array Slot), xm_W D xcl (xT cI cZ cJ cO) (xm_A ad (CE f v) s.heap.size) ad (CE f v) s s.heap H locs → lv_has ls 10 [(0, .ref (ad iM)), (1, .ref (ad iU)), (2, .int a), (3, .int x_1), (4, .int x_2)] → W p l e rm_Mt_matchAtom_2 s m args below meth c H locs 0 0 QQ (F0 m 47 ls [.int v_3])) (fun v_3 h H locs ls hw hl => ?_) (fun J_4 hJ_4 h => ?_)
  · refine lv_istore (lv' := [(5, .int v_3), (0, .ref (ad iM)), (1, .ref (ad iU)), (2, .int a), (3, .int x_1), (4, .int x_2)]) hx hb d_Mt_matchAtom_47 hl (by decide) rfl (fun ls hl => ?_)
    refine lv_iload hx hb d_Mt_matchAtom_49 (lv_at hl 0 rfl) ?_
    refine xj_use h (fun (v_5 : Unit) => ∀ (H : Heap) (locs : List Loc) (ls : Array Slot), xm_W D xcl (xT cI cZ cJ cO) (xm_A ad (CE f v) s.heap.size) ad (CE f v) s s.heap H locs → lv_has ls 10 [(0, .ref (ad iM)), (1, .ref (ad iU)), (2, .int a), (3, .int x_1), (4, .int x_2), (5, .int v_3)] → W p l e rm_Mt_matchAtom_2 s m args below meth c H locs 0 0 QQ (F0 m 75 ls [])) (fun v_5 h H locs ls hw hl => ?_) (fun J_6 hJ_6 h => ?_)
    · refine lv_iload_n hx hb d_Mt_matchAtom_75 rfl (lv_at hl 2 rfl) ?_
      refine lv_aload_n hx hb d_Mt_matchAtom_76 rfl (lv_at hl 1 rfl) ?_
      refine xm_get (D := D) (v := .int na) (C := R_Ru) (T := F_Ru) (N := 4) hx hb hts (fun w h => List.mem_cons_of_mem _ (i_Ru w h)) hown hw (k_U f v) rfl 3 (by decide) (hts _ (List.mem_cons_of_mem _ xw_96)) (fun _ h9 => h9) rfl d_Mt_matchAtom_77 ?_
      refine lv_icmp_le (tgt := 113) hx hb d_Mt_matchAtom_80 (by decide) (fun hc => ?_) (fun hc => ?_)
      · have h := h.1 hc
        refine lv_aload_n hx hb d_Mt_matchAtom_113 rfl (lv_at hl 1 rfl) ?_
        refine xm_get (D := D) (v := .ref (ad iA)) (C := R_Ru) (T := F_Ru) (N := 4) hx hb hts (fun w h => List.mem_cons_of_mem _ (i_Ru w h)) hown hw (k_U f v) rfl 0 (by decide) (hts _ (List.mem_cons_of_mem _ xw_87)) (fun _ h9 => h9) rfl d_Mt_matchAtom_114 ?_
        refine lv_iload_n hx hb d_Mt_matchAtom_117 rfl (lv_at hl 2 rfl) ?_
        obtain ⟨hin, h⟩ := h
        refine xm_iald hx hb hw 0 (k_A f v) rfl hin d_Mt_matchAtom_118 ?_
        refine lv_topi (fun x_7 ex_7 => ?_)
        have h := h x_7 ex_7
        refine lv_istore (lv' := [(6, .int x_7), (0, .ref (ad iM)), (1, .ref (ad iU)), (2, .int a), (3, .int x_1), (4, .int x_2), (5, .int v_3)]) hx hb d_Mt_matchAtom_119 hl (by decide) rfl (fun ls hl => ?_)
        refine lv_aload_n hx hb d_Mt_matchAtom_121 rfl (lv_at hl 2 rfl) ?_
        refine xm_get (D := D) (v := .ref (ad iB)) (C := R_Ru) (T := F_Ru) (N := 4) hx hb hts (fun w h => List.mem_cons_of_mem _ (i_Ru w h)) hown hw (k_U f v) rfl 1 (by decide) (hts _ (List.mem_cons_of_mem _ xw_90)) (fun _ h9 => h9) rfl d_Mt_matchAtom_122 ?_
        refine lv_iload_n hx hb d_Mt_matchAtom_125 rfl (lv_at hl 3 rfl) ?_
        obtain ⟨hin, h⟩ := h
        refine xm_iald hx hb hw 0 (k_B f v) rfl hin d_Mt_matchAtom_126 ?_
        refine lv_topi (fun x_8 ex_8 => ?_)
        have h := h x_8 ex_8
        refine lv_istore (lv' := [(7, .int x_8), (6, .int x_7), (0, .ref (ad iM)), (1, .ref (ad iU)), (2, .int a), (3, .int x_1), (4, .int x_2), (5, .int v_3)]) hx hb d_Mt_matchAtom_127 hl (by decide) rfl (fun ls hl => ?_)
        refine lv_iload hx hb d_Mt_matchAtom_129 (lv_at hl 0 rfl) ?_
        refine lv_bipush (v := 18) hx hb d_Mt_matchAtom_131 (by decide) ?_
        refine lv_icmp_ne (tgt := 152) hx hb d_Mt_matchAtom_133 (by decide) (fun hc => ?_) (fun hc => ?_)
        · have h := h.1 hc
          refine lv_aload_n hx hb d_Mt_matchAtom_152 rfl (lv_at hl 2 rfl) ?_
          refine xm_get (D := D) (v := .ref (ad iV)) (C := R_Mt) (T := F_Mt) (N := 2) hx hb hts (fun w h => List.mem_cons_of_mem _ (i_Mt w h)) hown hw (k_M f v) rfl 1 (by decide) (hts _ (List.mem_cons_of_mem _ xw_74)) (fun _ h9 => h9) rfl d_Mt_matchAtom_153 ?_
          refine lv_iload hx hb d_Mt_matchAtom_156 (lv_at hl 0 rfl) ?_
          refine lv_iconst (v := 1) hx hb d_Mt_matchAtom_158 (by decide) ?_
          refine lv_iadd hx hb d_Mt_matchAtom_159 ?_
          obtain ⟨hin, h⟩ := h
          refine xm_iald hx hb hw 0 (k_V f v) rfl hin d_Mt_matchAtom_160 ?_
          refine lv_bipush (v := (-2)) hx hb d_Mt_matchAtom_161 (by decide) ?_
          refine lv_icmp_eq (tgt := 191) hx hb d_Mt_matchAtom_163 (by decide) (fun hc => ?_) (fun hc => ?_)
          · have h := h.1 hc
            refine lv_iconst (v := 0) hx hb d_Mt_matchAtom_191 (by decide) ?_
            refine lv_istore (lv' := [(8, .int 0), (7, .int x_8), (6, .int x_7), (0, .ref (ad iM)), (1, .ref (ad iU)), (2, .int a), (3, .int x_1), (4, .int x_2), (5, .int v_3)]) hx hb d_Mt_matchAtom_192 hl (by decide) rfl (fun ls hl => ?_)
            refine lv_iconst (v := 0) hx hb d_Mt_matchAtom_194 (by decide) ?_
            refine lv_istore (lv' := [(9, .int 0), (8, .int 0), (7, .int x_8), (6, .int x_7), (0, .ref (ad iM)), (1, .ref (ad iU)), (2, .int a), (3, .int x_1), (4, .int x_2), (5, .int v_3)]) hx hb d_Mt_matchAtom_195 hl (by decide) rfl (fun ls hl => ?_)
            refine xL_use h (fun (v_9 : Int32 × Int32 × (Nat → Int32) × (Nat → Int32)) => ∀ (H : Heap) (locs : List Loc) (ls : Array Slot), xm_W D xcl (xT cI cZ cJ cO) (xm_A ad (CE f v) s.heap.size) ad (CE v_9.2.2.1 v_9.2.2.2) s s.heap H locs → lv_has ls 10 [(9, .int v_9.1), (8, .int v_9.2.1), (7, .int x_8), (6, .int x_7), (0, .ref (ad iM)), (1, .ref (ad iU)), (2, .int a)] → W p l e rm_Mt_matchAtom_2 s m args below meth c H locs 0 0 QQ (F0 m 197 ls [])) (fun K_10 hK_10 v_9 h H locs ls hw hl => ?_) _ _ _ hw (lv_sub hl [0, 1, 2, 3, 4, 5, 6] rfl)
            refine lv_iload hx hb d_Mt_matchAtom_197 (lv_at hl 0 rfl) ?_
            refine lv_bipush (v := 10) hx hb d_Mt_matchAtom_199 (by decide) ?_
            refine lv_icmp_ge (tgt := 243) hx hb d_Mt_matchAtom_201 (by decide) (fun hc => ?_) (fun hc => ?_)
            · have h := h.1 hc
              refine lv_aload_n hx hb d_Mt_matchAtom_243 rfl (lv_at hl 4 rfl) ?_
              refine xm_get (D := D) (v := .ref (ad iV)) (C := R_Mt) (T := F_Mt) (N := 2) hx hb hts (fun w h => List.mem_cons_of_mem _ (i_Mt w h)) hown hw (k_M v_9.2.2.1 v_9.2.2.2) rfl 1 (by decide) (hts _ (List.mem_cons_of_mem _ xw_74)) (fun _ h9 => h9) rfl d_Mt_matchAtom_244 ?_
              refine lv_iload hx hb d_Mt_matchAtom_247 (lv_at hl 2 rfl) ?_
              refine lv_iconst (v := 1) hx hb d_Mt_matchAtom_249 (by decide) ?_
              refine lv_iadd hx hb d_Mt_matchAtom_250 ?_
              refine lv_bipush (v := (-2)) hx hb d_Mt_matchAtom_251 (by decide) ?_
              obtain ⟨hin, h⟩ := h
              refine xm_iast hx hb hw 0 (k_V v_9.2.2.1 v_9.2.2.2) rfl hin d_Mt_matchAtom_253 (fun H locs hw => ?_)
              have hw : xm_W D xcl (xT cI cZ cJ cO) (xm_A ad (CE f v) s.heap.size) ad (CE v_9.2.2.1 (upd v_9.2.2.2 (Int32.toNatClampNeg (x_8 + 1)) (-2))) s s.heap H locs := xm_W.cast (u_V v_9.2.2.1 v_9.2.2.2 (upd v_9.2.2.2 (Int32.toNatClampNeg (x_8 + 1)) (-2))) hw
              obtain ⟨v_11, ev_11⟩ : ∃ z : Nat → Int32, z = upd v_9.2.2.2 (Int32.toNatClampNeg (x_8 + 1)) (-2) := ⟨_, rfl⟩
              have h := h v_11 ev_11
              rw [← ev_11] at hw
              refine lv_iload hx hb d_Mt_matchAtom_254 (lv_at hl 1 rfl) ?_
              subst hQQ
              exact xm_zret hx hb hr hlk h.1 hw (v_9.2.2.1, v_11) rfl rfl h.2 d_Mt_matchAtom_256
            · have h := h.2 hc
              refine lv_aload_n hx hb d_Mt_matchAtom_204 rfl (lv_at hl 4 rfl) ?_
              refine xm_get (D := D) (v := .ref (ad iV)) (C := R_Mt) (T := F_Mt) (N := 2) hx hb hts (fun w h => List.mem_cons_of_mem _ (i_Mt w h)) hown hw (k_M v_9.2.2.1 v_9.2.2.2) rfl 1 (by decide) (hts _ (List.mem_cons_of_mem _ xw_74)) (fun _ h9 => h9) rfl d_Mt_matchAtom_205 ?_
              refine lv_iload hx hb d_Mt_matchAtom_208 (lv_at hl 2 rfl) ?_
              refine lv_iconst (v := 1) hx hb d_Mt_matchAtom_210 (by decide) ?_
              refine lv_iadd hx hb d_Mt_matchAtom_211 ?_
              refine lv_iload hx hb d_Mt_matchAtom_212 (lv_at hl 0 rfl) ?_
              obtain ⟨hin, h⟩ := h
              refine xm_iast hx hb hw 0 (k_V v_9.2.2.1 v_9.2.2.2) rfl hin d_Mt_matchAtom_214 (fun H locs hw => ?_)
              have hw : xm_W D xcl (xT cI cZ cJ cO) (xm_A ad (CE f v) s.heap.size) ad (CE v_9.2.2.1 (upd v_9.2.2.2 (Int32.toNatClampNeg (x_8 + 1)) v_9.1)) s s.heap H locs := xm_W.cast (u_V v_9.2.2.1 v_9.2.2.2 (upd v_9.2.2.2 (Int32.toNatClampNeg (x_8 + 1)) v_9.1)) hw
              obtain ⟨v_12, ev_12⟩ : ∃ z : Nat → Int32, z = upd v_9.2.2.2 (Int32.toNatClampNeg (x_8 + 1)) v_9.1 := ⟨_, rfl⟩
              have h := h v_12 ev_12
              rw [← ev_12] at hw
              refine lv_iload hx hb d_Mt_matchAtom_215 (lv_at hl 1 rfl) ?_
              refine lv_aload_n hx hb d_Mt_matchAtom_217 rfl (lv_at hl 4 rfl) ?_
              refine lv_aload_n hx hb d_Mt_matchAtom_218 rfl (lv_at hl 5 rfl) ?_
              refine lv_iload_n hx hb d_Mt_matchAtom_219 rfl (lv_at hl 6 rfl) ?_
              refine lv_aload_n hx hb d_Mt_matchAtom_220 rfl (lv_at hl 4 rfl) ?_
              refine xm_get (D := D) (v := .ref (ad iP)) (C := R_Mt) (T := F_Mt) (N := 2) hx hb hts (fun w h => List.mem_cons_of_mem _ (i_Mt w h)) hown hw (k_M v_9.2.2.1 v_12) rfl 0 (by decide) (hts _ (List.mem_cons_of_mem _ xw_73)) (fun _ h9 => h9) rfl d_Mt_matchAtom_221 ?_
              refine lv_iload hx hb d_Mt_matchAtom_224 (lv_at hl 3 rfl) ?_
              refine lv_iload hx hb d_Mt_matchAtom_226 (lv_at hl 0 rfl) ?_
              refine xm_calli (ua := fun _ => ad) (va_runV (As := [.int x_7, .int v_9.1]) (rest := [.int a, .ref (ad iU), .ref (ad iM), .int v_9.2.1]) ⟨hx, hb, hml, hown, hts⟩ (c_Pr_row (D := D) (ad := ad) (CE := ((CE v_9.2.2.1 v_12)))  (k_P v_9.2.2.1 v_12) (k_R v_9.2.2.1 v_12) h _) (xg_cwV 2 hts xw_180 xw_501 xw_178 xw_179 xw_5 rfl rfl (by decide +kernel) ⟨Nat.le_of_ble_eq_true rfl, Nat.le_of_ble_eq_true rfl⟩) (xm_preV hw (k_P v_9.2.2.1 v_12) rfl _) rfl rfl hl.1 rfl (lv_room (Nat.le_of_ble_eq_true rfl)) d_Mt_matchAtom_228 ⟨Nat.le_of_ble_eq_true rfl, Nat.le_of_ble_eq_true rfl⟩) hw (fun r_13 _ H locs h hw => ?_)
              refine xm_calli (ua := fun _ => ad) (va_runV (As := [.ref (ad iU), .int a, .int r_13]) (rest := [.int v_9.2.1]) ⟨hx, hb, hml, hown, hts⟩ (c_Mt_matchSecond_1 (D := D) (ad := ad) (CE := (fun f v => (CE f v)))  (fun f v => k_M f v) (fun f v => k_V f v) (fun f v => k_P f v) (fun f v => k_R f v) (fun f v => k_U f v) (fun f v => k_A f v) (fun f v => k_B f v) (fun f v => k_C f v) (fun f v v' => u_V f v v') (fun f v f' => u_R f v f') h _) (xg_cwV 3 hts xw_499 xw_496 xw_498 xw_p16 xw_6 rfl rfl (by decide +kernel) ⟨Nat.le_of_ble_eq_true rfl, Nat.le_of_ble_eq_true rfl⟩) (xm_preV hw (k_M v_9.2.2.1 v_12) rfl _) rfl rfl hl.1 rfl (lv_room (Nat.le_of_ble_eq_true rfl)) d_Mt_matchAtom_231 ⟨Nat.le_of_ble_eq_true rfl, Nat.le_of_ble_eq_true rfl⟩) hw (fun r_15 u_16 H locs h hw => ?_)
              obtain ⟨f_17, ef_17⟩ : ∃ z, z = u_16.1 := ⟨_, rfl⟩
              obtain ⟨v_18, ev_18⟩ : ∃ z, z = u_16.2 := ⟨_, rfl⟩
              try dsimp only at h hw
              rw [← ef_17, ← ev_18] at h hw
              refine lv_ior hx hb d_Mt_matchAtom_234 ?_
              refine lv_topi (fun x_19 ex_19 => ?_)
              have h := h x_19 ex_19
              refine lv_istore (lv' := [(8, .int x_19), (9, .int v_9.1), (7, .int x_8), (6, .int x_7), (0, .ref (ad iM)), (1, .ref (ad iU)), (2, .int a)]) hx hb d_Mt_matchAtom_235 hl (by decide) rfl (fun ls hl => ?_)
              obtain ⟨x_20, ex_20⟩ : ∃ y : Int32, y = v_9.1 + 1 := ⟨_, rfl⟩
              have h := h x_20 ex_20
              refine lv_iinc (v := x_20) (lv' := [(9, .int x_20), (8, .int x_19), (7, .int x_8), (6, .int x_7), (0, .ref (ad iM)), (1, .ref (ad iU)), (2, .int a)]) hx hb d_Mt_matchAtom_237 hl (k := 1) rfl (by rw [ex_20]; rfl) (by decide) rfl (fun ls hl => ?_)
              refine lv_goto (tgt := 197) hx hb d_Mt_matchAtom_240 (by decide) ?_
              exact hK_10 (x_20, x_19, f_17, v_18) h _ _ _ hw (lv_sub hl [0, 1, 2, 3, 4, 5, 6] rfl)
          · have h := h.2 hc
            refine lv_aload_n hx hb d_Mt_matchAtom_166 rfl (lv_at hl 2 rfl) ?_
            refine lv_aload_n hx hb d_Mt_matchAtom_167 rfl (lv_at hl 3 rfl) ?_
            refine lv_iload_n hx hb d_Mt_matchAtom_168 rfl (lv_at hl 4 rfl) ?_
            refine lv_aload_n hx hb d_Mt_matchAtom_169 rfl (lv_at hl 2 rfl) ?_
            refine xm_get (D := D) (v := .ref (ad iP)) (C := R_Mt) (T := F_Mt) (N := 2) hx hb hts (fun w h => List.mem_cons_of_mem _ (i_Mt w h)) hown hw (k_M f v) rfl 0 (by decide) (hts _ (List.mem_cons_of_mem _ xw_73)) (fun _ h9 => h9) rfl d_Mt_matchAtom_170 ?_
            refine lv_iload hx hb d_Mt_matchAtom_173 (lv_at hl 1 rfl) ?_
            refine lv_aload_n hx hb d_Mt_matchAtom_175 rfl (lv_at hl 2 rfl) ?_
            refine xm_get (D := D) (v := .ref (ad iV)) (C := R_Mt) (T := F_Mt) (N := 2) hx hb hts (fun w h => List.mem_cons_of_mem _ (i_Mt w h)) hown hw (k_M f v) rfl 1 (by decide) (hts _ (List.mem_cons_of_mem _ xw_74)) (fun _ h9 => h9) rfl d_Mt_matchAtom_176 ?_
            refine lv_iload hx hb d_Mt_matchAtom_179 (lv_at hl 0 rfl) ?_
            refine lv_iconst (v := 1) hx hb d_Mt_matchAtom_181 (by decide) ?_
            refine lv_iadd hx hb d_Mt_matchAtom_182 ?_
            obtain ⟨hin, h⟩ := h
            refine xm_iald hx hb hw 0 (k_V f v) rfl hin d_Mt_matchAtom_183 ?_
            refine xm_calli (ua := fun _ => ad) (va_runV (As := [.int x_7, .int (v (Int32.toNatClampNeg (x_8 + 1)))]) (rest := [.int a, .ref (ad iU), .ref (ad iM)]) ⟨hx, hb, hml, hown, hts⟩ (c_Pr_row (D := D) (ad := ad) (CE := ((CE f v)))  (k_P f v) (k_R f v) h _) (xg_cwV 2 hts xw_180 xw_501 xw_178 xw_179 xw_5 rfl rfl (by decide +kernel) ⟨Nat.le_of_ble_eq_true rfl, Nat.le_of_ble_eq_true rfl⟩) (xm_preV hw (k_P f v) rfl _) rfl rfl hl.1 rfl (lv_room (Nat.le_of_ble_eq_true rfl)) d_Mt_matchAtom_184 ⟨Nat.le_of_ble_eq_true rfl, Nat.le_of_ble_eq_true rfl⟩) hw (fun r_21 _ H locs h hw => ?_)
            refine xm_calli (ua := fun _ => ad) (va_runV (As := [.ref (ad iU), .int a, .int r_21]) (rest := []) ⟨hx, hb, hml, hown, hts⟩ (c_Mt_matchSecond_1 (D := D) (ad := ad) (CE := (fun f v => (CE f v)))  (fun f v => k_M f v) (fun f v => k_V f v) (fun f v => k_P f v) (fun f v => k_R f v) (fun f v => k_U f v) (fun f v => k_A f v) (fun f v => k_B f v) (fun f v => k_C f v) (fun f v v' => u_V f v v') (fun f v f' => u_R f v f') h _) (xg_cwV 3 hts xw_499 xw_496 xw_498 xw_p16 xw_6 rfl rfl (by decide +kernel) ⟨Nat.le_of_ble_eq_true rfl, Nat.le_of_ble_eq_true rfl⟩) (xm_preV hw (k_M f v) rfl _) rfl rfl hl.1 rfl (lv_room (Nat.le_of_ble_eq_true rfl)) d_Mt_matchAtom_187 ⟨Nat.le_of_ble_eq_true rfl, Nat.le_of_ble_eq_true rfl⟩) hw (fun r_23 u_24 H locs h hw => ?_)
            obtain ⟨f_25, ef_25⟩ : ∃ z, z = u_24.1 := ⟨_, rfl⟩
            obtain ⟨v_26, ev_26⟩ : ∃ z, z = u_24.2 := ⟨_, rfl⟩
            try dsimp only at h hw
            rw [← ef_25, ← ev_26] at h hw
            subst hQQ
            exact xm_zret hx hb hr hlk h.1 hw (f_25, v_26) rfl rfl h.2 d_Mt_matchAtom_190
        · have h := h.2 hc
          refine lv_aload_n hx hb d_Mt_matchAtom_136 rfl (lv_at hl 2 rfl) ?_
          refine lv_aload_n hx hb d_Mt_matchAtom_137 rfl (lv_at hl 3 rfl) ?_
          refine lv_iload_n hx hb d_Mt_matchAtom_138 rfl (lv_at hl 4 rfl) ?_
          refine lv_aload_n hx hb d_Mt_matchAtom_139 rfl (lv_at hl 2 rfl) ?_
          refine xm_get (D := D) (v := .ref (ad iP)) (C := R_Mt) (T := F_Mt) (N := 2) hx hb hts (fun w h => List.mem_cons_of_mem _ (i_Mt w h)) hown hw (k_M f v) rfl 0 (by decide) (hts _ (List.mem_cons_of_mem _ xw_73)) (fun _ h9 => h9) rfl d_Mt_matchAtom_140 ?_
          refine lv_iload hx hb d_Mt_matchAtom_143 (lv_at hl 1 rfl) ?_
          refine xm_calli (ua := fun _ => ad) (va_runV (As := [.int x_7]) (rest := [.int a, .ref (ad iU), .ref (ad iM)]) ⟨hx, hb, hml, hown, hts⟩ (c_Pr_rowOfAny (D := D) (ad := ad) (CE := ((CE f v)))  (k_P f v) (k_R f v) h _) (xg_cwV 1 hts xw_495 xw_492 xw_493 xw_494 xw_5 rfl rfl (by decide +kernel) ⟨Nat.le_of_ble_eq_true rfl, Nat.le_of_ble_eq_true rfl⟩) (xm_preV hw (k_P f v) rfl _) rfl rfl hl.1 rfl (lv_room (Nat.le_of_ble_eq_true rfl)) d_Mt_matchAtom_145 ⟨Nat.le_of_ble_eq_true rfl, Nat.le_of_ble_eq_true rfl⟩) hw (fun r_27 _ H locs h hw => ?_)
          refine xm_calli (ua := fun _ => ad) (va_runV (As := [.ref (ad iU), .int a, .int r_27]) (rest := []) ⟨hx, hb, hml, hown, hts⟩ (c_Mt_matchSecond_1 (D := D) (ad := ad) (CE := (fun f v => (CE f v)))  (fun f v => k_M f v) (fun f v => k_V f v) (fun f v => k_P f v) (fun f v => k_R f v) (fun f v => k_U f v) (fun f v => k_A f v) (fun f v => k_B f v) (fun f v => k_C f v) (fun f v v' => u_V f v v') (fun f v f' => u_R f v f') h _) (xg_cwV 3 hts xw_499 xw_496 xw_498 xw_p16 xw_6 rfl rfl (by decide +kernel) ⟨Nat.le_of_ble_eq_true rfl, Nat.le_of_ble_eq_true rfl⟩) (xm_preV hw (k_M f v) rfl _) rfl rfl hl.1 rfl (lv_room (Nat.le_of_ble_eq_true rfl)) d_Mt_matchAtom_148 ⟨Nat.le_of_ble_eq_true rfl, Nat.le_of_ble_eq_true rfl⟩) hw (fun r_29 u_30 H locs h hw => ?_)
          obtain ⟨f_31, ef_31⟩ : ∃ z, z = u_30.1 := ⟨_, rfl⟩
          obtain ⟨v_32, ev_32⟩ : ∃ z, z = u_30.2 := ⟨_, rfl⟩
          try dsimp only at h hw
          rw [← ef_31, ← ev_32] at h hw
          subst hQQ
          exact xm_zret hx hb hr hlk h.1 hw (f_31, v_32) rfl rfl h.2 d_Mt_matchAtom_151
      · have h := h.2 hc
        refine lv_iload hx hb d_Mt_matchAtom_83 (lv_at hl 5 rfl) ?_
        refine xj_use h (fun (v_33 : Int32 × (Nat → Int32) × (Nat → Int32)) => ∀ (H : Heap) (locs : List Loc) (ls : Array Slot), xm_W D xcl (xT cI cZ cJ cO) (xm_A ad (CE f v) s.heap.size) ad (CE v_33.2.1 v_33.2.2) s s.heap H locs → lv_has ls 10 [] → W p l e rm_Mt_matchAtom_2 s m args below meth c H locs 0 0 QQ (F0 m 112 ls [.int v_33.1])) (fun v_33 h H locs ls hw hl => ?_) (fun J_34 hJ_34 h => ?_)
        · subst hQQ
          exact xm_zret hx hb hr hlk h.1 hw (v_33.2.1, v_33.2.2) rfl rfl h.2 d_Mt_matchAtom_112
        · refine xj_use h (fun (v_35 : (Nat → Int32) × (Nat → Int32)) => ∀ (H : Heap) (locs : List Loc) (ls : Array Slot), xm_W D xcl (xT cI cZ cJ cO) (xm_A ad (CE f v) s.heap.size) ad (CE v_35.1 v_35.2) s s.heap H locs → lv_has ls 10 [] → W p l e rm_Mt_matchAtom_2 s m args below meth c H locs 0 0 QQ (F0 m 111 ls [])) (fun v_35 h H locs ls hw hl => ?_) (fun J_36 hJ_36 h => ?_)
          · refine lv_iconst (v := 0) hx hb d_Mt_matchAtom_111 (by decide) ?_
            exact hJ_34 (0, v_35.1, v_35.2) h _ _ _ hw (lv_sub hl [] rfl)
          · refine lv_if_eq (tgt := 111) hx hb d_Mt_matchAtom_85 (by decide) (fun hc => ?_) (fun hc => ?_)
            · have h := h.1 hc
              exact hJ_36 (f, v) h _ _ _ hw (lv_sub hl [] rfl)
            · have h := h.2 hc
              refine lv_aload_n hx hb d_Mt_matchAtom_88 rfl (lv_at hl 0 rfl) ?_
              refine xm_get (D := D) (v := .ref (ad iP)) (C := R_Mt) (T := F_Mt) (N := 2) hx hb hts (fun w h => List.mem_cons_of_mem _ (i_Mt w h)) hown hw (k_M f v) rfl 0 (by decide) (hts _ (List.mem_cons_of_mem _ xw_73)) (fun _ h9 => h9) rfl d_Mt_matchAtom_89 ?_
              refine lv_aload_n hx hb d_Mt_matchAtom_92 rfl (lv_at hl 1 rfl) ?_
              refine xm_get (D := D) (v := .ref (ad iA)) (C := R_Ru) (T := F_Ru) (N := 4) hx hb hts (fun w h => List.mem_cons_of_mem _ (i_Ru w h)) hown hw (k_U f v) rfl 0 (by decide) (hts _ (List.mem_cons_of_mem _ xw_87)) (fun _ h9 => h9) rfl d_Mt_matchAtom_93 ?_
              refine lv_iconst (v := 0) hx hb d_Mt_matchAtom_96 (by decide) ?_
              obtain ⟨hin, h⟩ := h
              refine xm_iald hx hb hw 0 (k_A f v) rfl hin d_Mt_matchAtom_97 ?_
              refine lv_iload_n hx hb d_Mt_matchAtom_98 rfl (lv_at hl 3 rfl) ?_
              refine lv_iload hx hb d_Mt_matchAtom_99 (lv_at hl 4 rfl) ?_
              refine xm_calli (ua := fun _ => ad) (va_runV (As := [.int (rs (Int32.toNatClampNeg 0)), .int x_1, .int x_2]) (rest := []) ⟨hx, hb, hml, hown, hts⟩ (c_Pr_put (D := D) (ad := ad) (CE := (fun f => (CE f v)))  (fun f => k_P f v) (fun f => k_R f v) (fun f f' => u_R f v f') h _) (xg_cwV 3 hts xw_321 xw_491 xw_319 xw_320 xw_5 rfl rfl (by decide +kernel) ⟨Nat.le_of_ble_eq_true rfl, Nat.le_of_ble_eq_true rfl⟩) (xm_preV hw (k_P f v) rfl _) rfl rfl hl.1 rfl (lv_room (Nat.le_of_ble_eq_true rfl)) d_Mt_matchAtom_101 ⟨Nat.le_of_ble_eq_true rfl, Nat.le_of_ble_eq_true rfl⟩) hw (fun r_37 u_38 H locs h hw => ?_)
              obtain ⟨f_39, ef_39⟩ : ∃ z, z = u_38 := ⟨_, rfl⟩
              try dsimp only at h hw
              rw [← ef_39] at h hw
              refine lv_if_eq (tgt := 111) hx hb d_Mt_matchAtom_104 (by decide) (fun hc => ?_) (fun hc => ?_)
              · have h := h.1 hc
                exact hJ_36 (f_39, v) h _ _ _ hw (lv_sub hl [] rfl)
              · have h := h.2 hc
                refine lv_iconst (v := 1) hx hb d_Mt_matchAtom_107 (by decide) ?_
                refine lv_goto (tgt := 112) hx hb d_Mt_matchAtom_108 (by decide) ?_
                exact hJ_34 (1, f_39, v) h _ _ _ hw (lv_sub hl [] rfl)
    · refine lv_if_eq (tgt := 75) hx hb d_Mt_matchAtom_51 (by decide) (fun hc => ?_) (fun hc => ?_)
      · have h := h.1 hc
        exact hJ_6 () h _ _ _ hw (lv_sub hl [1, 2, 3, 4, 5, 0] rfl)
      · have h := h.2 hc
        refine lv_aload_n hx hb d_Mt_matchAtom_54 rfl (lv_at hl 1 rfl) ?_
        refine xm_get (D := D) (v := .ref (ad iP)) (C := R_Mt) (T := F_Mt) (N := 2) hx hb hts (fun w h => List.mem_cons_of_mem _ (i_Mt w h)) hown hw (k_M f v) rfl 0 (by decide) (hts _ (List.mem_cons_of_mem _ xw_73)) (fun _ h9 => h9) rfl d_Mt_matchAtom_55 ?_
        refine lv_aload_n hx hb d_Mt_matchAtom_58 rfl (lv_at hl 2 rfl) ?_
        refine xm_get (D := D) (v := .ref (ad iA)) (C := R_Ru) (T := F_Ru) (N := 4) hx hb hts (fun w h => List.mem_cons_of_mem _ (i_Ru w h)) hown hw (k_U f v) rfl 0 (by decide) (hts _ (List.mem_cons_of_mem _ xw_87)) (fun _ h9 => h9) rfl d_Mt_matchAtom_59 ?_
        refine lv_iconst (v := 0) hx hb d_Mt_matchAtom_62 (by decide) ?_
        obtain ⟨hin, h⟩ := h
        refine xm_iald hx hb hw 0 (k_A f v) rfl hin d_Mt_matchAtom_63 ?_
        refine lv_iload_n hx hb d_Mt_matchAtom_64 rfl (lv_at hl 4 rfl) ?_
        refine lv_iload hx hb d_Mt_matchAtom_65 (lv_at hl 5 rfl) ?_
        refine xm_calli (ua := fun _ => ad) (va_runV (As := [.int (rs (Int32.toNatClampNeg 0)), .int x_1, .int x_2]) (rest := []) ⟨hx, hb, hml, hown, hts⟩ (c_Pr_has (D := D) (ad := ad) (CE := ((CE f v)))  (k_P f v) (k_R f v) h _) (xg_cwV 3 hts xw_176 xw_490 xw_174 xw_175 xw_5 rfl rfl (by decide +kernel) ⟨Nat.le_of_ble_eq_true rfl, Nat.le_of_ble_eq_true rfl⟩) (xm_preV hw (k_P f v) rfl _) rfl rfl hl.1 rfl (lv_room (Nat.le_of_ble_eq_true rfl)) d_Mt_matchAtom_67 ⟨Nat.le_of_ble_eq_true rfl, Nat.le_of_ble_eq_true rfl⟩) hw (fun r_40 _ H locs h hw => ?_)
        refine lv_if_eq (tgt := 75) hx hb d_Mt_matchAtom_70 (by decide) (fun hc => ?_) (fun hc => ?_)
        · have h := h.1 hc
          exact hJ_6 () h _ _ _ hw (lv_sub hl [1, 2, 3, 4, 5, 0] rfl)
        · have h := h.2 hc
          refine lv_iconst (v := 0) hx hb d_Mt_matchAtom_73 (by decide) ?_
          subst hQQ
          exact xm_zret hx hb hr hlk rfl hw (f, v) rfl rfl h d_Mt_matchAtom_74
  · refine xj_use h (fun (v_42 : Unit) => ∀ (H : Heap) (locs : List Loc) (ls : Array Slot), xm_W D xcl (xT cI cZ cJ cO) (xm_A ad (CE f v) s.heap.size) ad (CE f v) s s.heap H locs → lv_has ls 10 [(0, .ref (ad iM)), (1, .ref (ad iU)), (2, .int a), (3, .int x_1), (4, .int x_2)] → W p l e rm_Mt_matchAtom_2 s m args below meth c H locs 0 0 QQ (F0 m 46 ls [])) (fun v_42 h H locs ls hw hl => ?_) (fun J_43 hJ_43 h => ?_)
    · refine lv_iconst (v := 0) hx hb d_Mt_matchAtom_46 (by decide) ?_
      exact hJ_4 0 h _ _ _ hw (lv_sub hl [0, 1, 2, 3, 4] rfl)
    · refine lv_icmp_eq (tgt := 46) hx hb d_Mt_matchAtom_32 (by decide) (fun hc => ?_) (fun hc => ?_)
      · have h := h.1 hc
        exact hJ_43 () h _ _ _ hw (lv_sub hl [2, 3, 4, 1, 0] rfl)
      · have h := h.2 hc
        refine lv_iload hx hb d_Mt_matchAtom_35 (lv_at hl 0 rfl) ?_
        refine lv_bipush (v := (-2)) hx hb d_Mt_matchAtom_37 (by decide) ?_
        refine lv_icmp_eq (tgt := 46) hx hb d_Mt_matchAtom_39 (by decide) (fun hc => ?_) (fun hc => ?_)
        · have h := h.1 hc
          exact hJ_43 () h _ _ _ hw (lv_sub hl [2, 3, 4, 1, 0] rfl)
        · have h := h.2 hc
          refine lv_iconst (v := 1) hx hb d_Mt_matchAtom_42 (by decide) ?_
          refine lv_goto (tgt := 47) hx hb d_Mt_matchAtom_43 (by decide) ?_
          exact hJ_4 1 h _ _ _ hw (lv_sub hl [2, 3, 4, 1, 0] rfl)
def wp_Mt_matchSecond_2 (post : Int32 → (Nat → Int32) → (Nat → Int32) → Prop)  (rs : Nat → Int32) (rf : Nat → Int32) (rc : Nat → Int32) (na : Int32) (f : Nat → Int32) (v : Nat → Int32) (a : Int32) (row : Int32) : Prop := wp_Mt_matchSecond wp_Mt_matchAtom_2 post rs rf rc na f v a row
abbrev rm_Mt_matchSecond_2 : Room := { frames := 7, cells := 0, slots := 0, locals := 184 }
set_option maxHeartbeats 4000000 in
set_option maxRecDepth 100000 in
theorem c_Mt_matchSecond_2 {l : Launch} {D : va_G} {ad : Nat → Nat} (CE : (Nat → Int32) → (Nat → Int32) → Nat → Option va_E) {cI cZ cJ cO : ClassId} {iM : Nat} {iV : Nat} {iP : Nat} {iR : Nat} {iU : Nat} {iA : Nat} {iB : Nat} {iC : Nat} {rs : Nat → Int32} {rf : Nat → Int32} {rc : Nat → Int32} {na : Int32} (k_M : ∀ (f : Nat → Int32) (v : Nat → Int32), (CE f v) iM = some (.inr (2, [.ref (ad iP), .ref (ad iV)]))) (k_V : ∀ (f : Nat → Int32) (v : Nat → Int32), (CE f v) iV = some (.inl (cI, 20, .inl v))) (k_P : ∀ (f : Nat → Int32) (v : Nat → Int32), (CE f v) iP = some (.inr (1, [.ref (ad iR)]))) (k_R : ∀ (f : Nat → Int32) (v : Nat → Int32), (CE f v) iR = some (.inl (cI, 341, .inl f))) (k_U : ∀ (f : Nat → Int32) (v : Nat → Int32), (CE f v) iU = some (.inr (3, [.ref (ad iA), .ref (ad iB), .ref (ad iC), .int na]))) (k_A : ∀ (f : Nat → Int32) (v : Nat → Int32), (CE f v) iA = some (.inl (cI, 4, .inl rs))) (k_B : ∀ (f : Nat → Int32) (v : Nat → Int32), (CE f v) iB = some (.inl (cI, 4, .inl rf))) (k_C : ∀ (f : Nat → Int32) (v : Nat → Int32), (CE f v) iC = some (.inl (cI, 4, .inl rc))) (u_V : ∀ (f : Nat → Int32) (v : Nat → Int32) (v' : Nat → Int32), va_up (CE f v) iV (some (.inl (cI, 20, .inl v'))) = (CE f v')) (u_R : ∀ (f : Nat → Int32) (v : Nat → Int32) (f' : Nat → Int32), va_up (CE f v) iR (some (.inl (cI, 341, .inl f'))) = (CE f' v)) {post : Int32 → (Nat → Int32) → (Nat → Int32) → Prop} {f : Nat → Int32} {v : Nat → Int32} {a : Int32} {row : Int32} (h : wp_Mt_matchSecond_2 post rs rf rc na f v a row) : ∀ sz, Met l y_Mt_matchSecond (Cond.code y_Mt_matchSecond b_Mt_matchSecond 7 (some .boolean) :: xg) rm_Mt_matchSecond_2 (xm_Pc D xcl (xT cI cZ cJ cO) ad (CE f v) sz [.ref (ad iM), .ref (ad iU), .int a, .int row]) (va_Qi (fun (r : Int32) (u : (Nat → Int32) × (Nat → Int32)) => post r u.1 u.2) (xm_B D xcl (xT cI cZ cJ cO) (xm_A ad (CE f v) sz) (fun _ => ad) (fun u : (Nat → Int32) × (Nat → Int32) => CE u.1 u.2)) (xm_A ad (CE f v) sz)) 0 0 (xm_A ad (CE f v) sz) := by
  refine xm_ofW (cc := b_Mt_matchSecond) (maxL := 7) (ret := (some .boolean)) (by decide) rfl (Nat.le_of_ble_eq_true rfl) ?_
  intro p e s m args below meth c ls QQ hQQ hx hb hml hr hown hlk hnm hts hl hw
  have hl : lv_has ls 7 [(0, .ref (ad iM)), (1, .ref (ad iU)), (2, .int a), (3, .int row)] := hl
  unfold wp_Mt_matchSecond_2 wp_Mt_matchSecond at h
  refine lv_aload_n hx hb d_Mt_matchSecond_0 rfl (lv_at hl 1 rfl) ?_
  refine xm_get (D := D) (v := .ref (ad iC)) (C := R_Ru) (T := F_Ru) (N := 4) hx hb hts (fun w h => List.mem_cons_of_mem _ (i_Ru w h)) hown hw (k_U f v) rfl 2 (by decide) (hts _ (List.mem_cons_of_mem _ xw_93)) (fun _ h9 => h9) rfl d_Mt_matchSecond_1 ?_
  refine lv_iload_n hx hb d_Mt_matchSecond_4 rfl (lv_at hl 2 rfl) ?_
  obtain ⟨hin, h⟩ := h
  refine xm_iald hx hb hw 0 (k_C f v) rfl hin d_Mt_matchSecond_5 ?_
  refine lv_topi (fun x_1 ex_1 => ?_)
  have h := h x_1 ex_1
  refine lv_istore (lv' := [(4, .int x_1), (0, .ref (ad iM)), (1, .ref (ad iU)), (2, .int a), (3, .int row)]) hx hb d_Mt_matchSecond_6 hl (by decide) rfl (fun ls hl => ?_)
  refine lv_iload hx hb d_Mt_matchSecond_8 (lv_at hl 0 rfl) ?_
  refine lv_bipush (v := 18) hx hb d_Mt_matchSecond_10 (by decide) ?_
  refine lv_icmp_ne (tgt := 38) hx hb d_Mt_matchSecond_12 (by decide) (fun hc => ?_) (fun hc => ?_)
  · have h := h.1 hc
    refine lv_aload_n hx hb d_Mt_matchSecond_38 rfl (lv_at hl 1 rfl) ?_
    refine xm_get (D := D) (v := .ref (ad iV)) (C := R_Mt) (T := F_Mt) (N := 2) hx hb hts (fun w h => List.mem_cons_of_mem _ (i_Mt w h)) hown hw (k_M f v) rfl 1 (by decide) (hts _ (List.mem_cons_of_mem _ xw_74)) (fun _ h9 => h9) rfl d_Mt_matchSecond_39 ?_
    refine lv_iload hx hb d_Mt_matchSecond_42 (lv_at hl 0 rfl) ?_
    refine lv_iconst (v := 1) hx hb d_Mt_matchSecond_44 (by decide) ?_
    refine lv_iadd hx hb d_Mt_matchSecond_45 ?_
    obtain ⟨hin, h⟩ := h
    refine xm_iald hx hb hw 0 (k_V f v) rfl hin d_Mt_matchSecond_46 ?_
    refine lv_bipush (v := (-2)) hx hb d_Mt_matchSecond_47 (by decide) ?_
    refine lv_icmp_eq (tgt := 85) hx hb d_Mt_matchSecond_49 (by decide) (fun hc => ?_) (fun hc => ?_)
    · have h := h.1 hc
      refine lv_iconst (v := 0) hx hb d_Mt_matchSecond_85 (by decide) ?_
      refine lv_istore (lv' := [(5, .int 0), (4, .int x_1), (0, .ref (ad iM)), (1, .ref (ad iU)), (2, .int a), (3, .int row)]) hx hb d_Mt_matchSecond_86 hl (by decide) rfl (fun ls hl => ?_)
      refine lv_iconst (v := 0) hx hb d_Mt_matchSecond_88 (by decide) ?_
      refine lv_istore (lv' := [(6, .int 0), (5, .int 0), (4, .int x_1), (0, .ref (ad iM)), (1, .ref (ad iU)), (2, .int a), (3, .int row)]) hx hb d_Mt_matchSecond_89 hl (by decide) rfl (fun ls hl => ?_)
      refine xL_use h (fun (v_2 : Int32 × Int32 × (Nat → Int32) × (Nat → Int32)) => ∀ (H : Heap) (locs : List Loc) (ls : Array Slot), xm_W D xcl (xT cI cZ cJ cO) (xm_A ad (CE f v) s.heap.size) ad (CE v_2.2.2.1 v_2.2.2.2) s s.heap H locs → lv_has ls 7 [(6, .int v_2.1), (5, .int v_2.2.1), (4, .int x_1), (0, .ref (ad iM)), (1, .ref (ad iU)), (2, .int a), (3, .int row)] → W p l e rm_Mt_matchSecond_2 s m args below meth c H locs 0 0 QQ (F0 m 91 ls [])) (fun K_3 hK_3 v_2 h H locs ls hw hl => ?_) _ _ _ hw (lv_sub hl [0, 1, 2, 3, 4, 5, 6] rfl)
      refine lv_iload hx hb d_Mt_matchSecond_91 (lv_at hl 0 rfl) ?_
      refine lv_bipush (v := 10) hx hb d_Mt_matchSecond_93 (by decide) ?_
      refine xj_use h (fun (v_4 : Unit) => ∀ (H : Heap) (locs : List Loc) (ls : Array Slot), xm_W D xcl (xT cI cZ cJ cO) (xm_A ad (CE f v) s.heap.size) ad (CE v_2.2.2.1 v_2.2.2.2) s s.heap H locs → lv_has ls 7 [(0, .ref (ad iM)), (4, .int x_1), (5, .int v_2.2.1)] → W p l e rm_Mt_matchSecond_2 s m args below meth c H locs 0 0 QQ (F0 m 146 ls [])) (fun v_4 h H locs ls hw hl => ?_) (fun J_5 hJ_5 h => ?_)
      · refine lv_aload_n hx hb d_Mt_matchSecond_146 rfl (lv_at hl 0 rfl) ?_
        refine xm_get (D := D) (v := .ref (ad iV)) (C := R_Mt) (T := F_Mt) (N := 2) hx hb hts (fun w h => List.mem_cons_of_mem _ (i_Mt w h)) hown hw (k_M v_2.2.2.1 v_2.2.2.2) rfl 1 (by decide) (hts _ (List.mem_cons_of_mem _ xw_74)) (fun _ h9 => h9) rfl d_Mt_matchSecond_147 ?_
        refine lv_iload hx hb d_Mt_matchSecond_150 (lv_at hl 1 rfl) ?_
        refine lv_iconst (v := 1) hx hb d_Mt_matchSecond_152 (by decide) ?_
        refine lv_iadd hx hb d_Mt_matchSecond_153 ?_
        refine lv_bipush (v := (-2)) hx hb d_Mt_matchSecond_154 (by decide) ?_
        obtain ⟨hin, h⟩ := h
        refine xm_iast hx hb hw 0 (k_V v_2.2.2.1 v_2.2.2.2) rfl hin d_Mt_matchSecond_156 (fun H locs hw => ?_)
        have hw : xm_W D xcl (xT cI cZ cJ cO) (xm_A ad (CE f v) s.heap.size) ad (CE v_2.2.2.1 (upd v_2.2.2.2 (Int32.toNatClampNeg (x_1 + 1)) (-2))) s s.heap H locs := xm_W.cast (u_V v_2.2.2.1 v_2.2.2.2 (upd v_2.2.2.2 (Int32.toNatClampNeg (x_1 + 1)) (-2))) hw
        obtain ⟨v_6, ev_6⟩ : ∃ z : Nat → Int32, z = upd v_2.2.2.2 (Int32.toNatClampNeg (x_1 + 1)) (-2) := ⟨_, rfl⟩
        have h := h v_6 ev_6
        rw [← ev_6] at hw
        refine lv_iload hx hb d_Mt_matchSecond_157 (lv_at hl 2 rfl) ?_
        subst hQQ
        exact xm_zret hx hb hr hlk h.1 hw (v_2.2.2.1, v_6) rfl rfl h.2 d_Mt_matchSecond_159
      · refine lv_icmp_ge (tgt := 146) hx hb d_Mt_matchSecond_95 (by decide) (fun hc => ?_) (fun hc => ?_)
        · have h := h.1 hc
          exact hJ_5 () h _ _ _ hw (lv_sub hl [3, 2, 1] rfl)
        · have h := h.2 hc
          refine lv_iload_n hx hb d_Mt_matchSecond_98 rfl (lv_at hl 6 rfl) ?_
          refine lv_iload hx hb d_Mt_matchSecond_99 (lv_at hl 0 rfl) ?_
          refine lv_iconst (v := 1) hx hb d_Mt_matchSecond_101 (by decide) ?_
          refine lv_iadd hx hb d_Mt_matchSecond_102 ?_
          refine lv_ishr hx hb d_Mt_matchSecond_103 ?_
          refine lv_if_eq (tgt := 146) hx hb d_Mt_matchSecond_104 (by decide) (fun hc => ?_) (fun hc => ?_)
          · have h := h.1 hc
            exact hJ_5 () h _ _ _ hw (lv_sub hl [3, 2, 1] rfl)
          · have h := h.2 hc
            refine lv_iload_n hx hb d_Mt_matchSecond_107 rfl (lv_at hl 6 rfl) ?_
            refine lv_iload hx hb d_Mt_matchSecond_108 (lv_at hl 0 rfl) ?_
            refine xm_calli (ua := fun _ => ad) (va_runS (As := [.int row, .int v_2.1]) (rest := []) ⟨hx, hb, hml, hown, hts⟩ (c_Pr_isIn (D := D) (ad := ad) (CE := ((CE v_2.2.2.1 v_2.2.2.2)))   h _) (xg_cwS 2 hts xw_183 xw_500 xw_182 xw_5 rfl rfl (by decide +kernel) ⟨Nat.le_of_ble_eq_true rfl, Nat.le_of_ble_eq_true rfl⟩) (xm_pre hw _) rfl rfl hl.1 rfl (lv_room (Nat.le_of_ble_eq_true rfl)) d_Mt_matchSecond_110 ⟨Nat.le_of_ble_eq_true rfl, Nat.le_of_ble_eq_true rfl⟩) hw (fun r_7 _ H locs h hw => ?_)
            refine xj_use h (fun (v_9 : Int32 × (Nat → Int32) × (Nat → Int32)) => ∀ (H : Heap) (locs : List Loc) (ls : Array Slot), xm_W D xcl (xT cI cZ cJ cO) (xm_A ad (CE f v) s.heap.size) ad (CE v_9.2.1 v_9.2.2) s s.heap H locs → lv_has ls 7 [(0, .ref (ad iM)), (1, .ref (ad iU)), (2, .int a), (3, .int row), (4, .int x_1), (5, .int v_9.1), (6, .int v_2.1)] → W p l e rm_Mt_matchSecond_2 s m args below meth c H locs 0 0 QQ (F0 m 140 ls [])) (fun v_9 h H locs ls hw hl => ?_) (fun J_10 hJ_10 h => ?_)
            · obtain ⟨x_11, ex_11⟩ : ∃ y : Int32, y = v_2.1 + 1 := ⟨_, rfl⟩
              have h := h x_11 ex_11
              refine lv_iinc (v := x_11) (lv' := [(6, .int x_11), (0, .ref (ad iM)), (1, .ref (ad iU)), (2, .int a), (3, .int row), (4, .int x_1), (5, .int v_9.1)]) hx hb d_Mt_matchSecond_140 hl (k := 6) rfl (by rw [ex_11]; rfl) (by decide) rfl (fun ls hl => ?_)
              refine lv_goto (tgt := 91) hx hb d_Mt_matchSecond_143 (by decide) ?_
              exact hK_3 (x_11, v_9.1, v_9.2.1, v_9.2.2) h _ _ _ hw (lv_sub hl [0, 6, 5, 1, 2, 3, 4] rfl)
            · refine lv_if_eq (tgt := 140) hx hb d_Mt_matchSecond_113 (by decide) (fun hc => ?_) (fun hc => ?_)
              · have h := h.1 hc
                exact hJ_10 (v_2.2.1, v_2.2.2.1, v_2.2.2.2) h _ _ _ hw (lv_sub hl [3, 4, 5, 6, 2, 1, 0] rfl)
              · have h := h.2 hc
                refine lv_aload_n hx hb d_Mt_matchSecond_116 rfl (lv_at hl 3 rfl) ?_
                refine xm_get (D := D) (v := .ref (ad iV)) (C := R_Mt) (T := F_Mt) (N := 2) hx hb hts (fun w h => List.mem_cons_of_mem _ (i_Mt w h)) hown hw (k_M v_2.2.2.1 v_2.2.2.2) rfl 1 (by decide) (hts _ (List.mem_cons_of_mem _ xw_74)) (fun _ h9 => h9) rfl d_Mt_matchSecond_117 ?_
                refine lv_iload hx hb d_Mt_matchSecond_120 (lv_at hl 2 rfl) ?_
                refine lv_iconst (v := 1) hx hb d_Mt_matchSecond_122 (by decide) ?_
                refine lv_iadd hx hb d_Mt_matchSecond_123 ?_
                refine lv_iload hx hb d_Mt_matchSecond_124 (lv_at hl 0 rfl) ?_
                obtain ⟨hin, h⟩ := h
                refine xm_iast hx hb hw 0 (k_V v_2.2.2.1 v_2.2.2.2) rfl hin d_Mt_matchSecond_126 (fun H locs hw => ?_)
                have hw : xm_W D xcl (xT cI cZ cJ cO) (xm_A ad (CE f v) s.heap.size) ad (CE v_2.2.2.1 (upd v_2.2.2.2 (Int32.toNatClampNeg (x_1 + 1)) v_2.1)) s s.heap H locs := xm_W.cast (u_V v_2.2.2.1 v_2.2.2.2 (upd v_2.2.2.2 (Int32.toNatClampNeg (x_1 + 1)) v_2.1)) hw
                obtain ⟨v_12, ev_12⟩ : ∃ z : Nat → Int32, z = upd v_2.2.2.2 (Int32.toNatClampNeg (x_1 + 1)) v_2.1 := ⟨_, rfl⟩
                have h := h v_12 ev_12
                rw [← ev_12] at hw
                refine lv_iload hx hb d_Mt_matchSecond_127 (lv_at hl 1 rfl) ?_
                refine lv_aload_n hx hb d_Mt_matchSecond_129 rfl (lv_at hl 3 rfl) ?_
                refine lv_aload_n hx hb d_Mt_matchSecond_130 rfl (lv_at hl 4 rfl) ?_
                refine lv_iload_n hx hb d_Mt_matchSecond_131 rfl (lv_at hl 5 rfl) ?_
                refine lv_iconst (v := 1) hx hb d_Mt_matchSecond_132 (by decide) ?_
                refine lv_iadd hx hb d_Mt_matchSecond_133 ?_
                refine xm_calli (ua := fun _ => ad) (va_runV (As := [.ref (ad iU), .int (a + 1)]) (rest := [.int v_2.2.1]) ⟨hx, hb, hml, hown, hts⟩ (c_Mt_matchAtom_2 (D := D) (ad := ad) (CE := (fun f v => (CE f v)))  (fun f v => k_M f v) (fun f v => k_V f v) (fun f v => k_P f v) (fun f v => k_R f v) (fun f v => k_U f v) (fun f v => k_A f v) (fun f v => k_B f v) (fun f v => k_C f v) (fun f v v' => u_V f v v') (fun f v f' => u_R f v f') h _) (xg_cwV 2 hts xw_489 xw_486 xw_488 xw_p15 xw_6 rfl rfl (by decide +kernel) ⟨Nat.le_of_ble_eq_true rfl, Nat.le_of_ble_eq_true rfl⟩) (xm_preV hw (k_M v_2.2.2.1 v_12) rfl _) rfl rfl hl.1 rfl (lv_room (Nat.le_of_ble_eq_true rfl)) d_Mt_matchSecond_134 ⟨Nat.le_of_ble_eq_true rfl, Nat.le_of_ble_eq_true rfl⟩) hw (fun r_13 u_14 H locs h hw => ?_)
                obtain ⟨f_15, ef_15⟩ : ∃ z, z = u_14.1 := ⟨_, rfl⟩
                obtain ⟨v_16, ev_16⟩ : ∃ z, z = u_14.2 := ⟨_, rfl⟩
                try dsimp only at h hw
                rw [← ef_15, ← ev_16] at h hw
                refine lv_ior hx hb d_Mt_matchSecond_137 ?_
                refine lv_topi (fun x_17 ex_17 => ?_)
                have h := h x_17 ex_17
                refine lv_istore (lv' := [(5, .int x_17), (6, .int v_2.1), (4, .int x_1), (0, .ref (ad iM)), (1, .ref (ad iU)), (2, .int a), (3, .int row)]) hx hb d_Mt_matchSecond_138 hl (by decide) rfl (fun ls hl => ?_)
                exact hJ_10 (x_17, f_15, v_16) h _ _ _ hw (lv_sub hl [3, 4, 5, 6, 2, 0, 1] rfl)
    · have h := h.2 hc
      refine lv_iload_n hx hb d_Mt_matchSecond_52 rfl (lv_at hl 4 rfl) ?_
      refine lv_aload_n hx hb d_Mt_matchSecond_53 rfl (lv_at hl 1 rfl) ?_
      refine xm_get (D := D) (v := .ref (ad iV)) (C := R_Mt) (T := F_Mt) (N := 2) hx hb hts (fun w h => List.mem_cons_of_mem _ (i_Mt w h)) hown hw (k_M f v) rfl 1 (by decide) (hts _ (List.mem_cons_of_mem _ xw_74)) (fun _ h9 => h9) rfl d_Mt_matchSecond_54 ?_
      refine lv_iload hx hb d_Mt_matchSecond_57 (lv_at hl 0 rfl) ?_
      refine lv_iconst (v := 1) hx hb d_Mt_matchSecond_59 (by decide) ?_
      refine lv_iadd hx hb d_Mt_matchSecond_60 ?_
      obtain ⟨hin, h⟩ := h
      refine xm_iald hx hb hw 0 (k_V f v) rfl hin d_Mt_matchSecond_61 ?_
      refine xm_calli (ua := fun _ => ad) (va_runS (As := [.int row, .int (v (Int32.toNatClampNeg (x_1 + 1)))]) (rest := []) ⟨hx, hb, hml, hown, hts⟩ (c_Pr_isIn (D := D) (ad := ad) (CE := ((CE f v)))   h _) (xg_cwS 2 hts xw_183 xw_500 xw_182 xw_5 rfl rfl (by decide +kernel) ⟨Nat.le_of_ble_eq_true rfl, Nat.le_of_ble_eq_true rfl⟩) (xm_pre hw _) rfl rfl hl.1 rfl (lv_room (Nat.le_of_ble_eq_true rfl)) d_Mt_matchSecond_62 ⟨Nat.le_of_ble_eq_true rfl, Nat.le_of_ble_eq_true rfl⟩) hw (fun r_18 _ H locs h hw => ?_)
      refine xj_use h (fun (v_20 : Int32 × (Nat → Int32) × (Nat → Int32)) => ∀ (H : Heap) (locs : List Loc) (ls : Array Slot), xm_W D xcl (xT cI cZ cJ cO) (xm_A ad (CE f v) s.heap.size) ad (CE v_20.2.1 v_20.2.2) s s.heap H locs → lv_has ls 7 [] → W p l e rm_Mt_matchSecond_2 s m args below meth c H locs 0 0 QQ (F0 m 84 ls [.int v_20.1])) (fun v_20 h H locs ls hw hl => ?_) (fun J_21 hJ_21 h => ?_)
      · subst hQQ
        exact xm_zret hx hb hr hlk h.1 hw (v_20.2.1, v_20.2.2) rfl rfl h.2 d_Mt_matchSecond_84
      · refine xj_use h (fun (v_22 : (Nat → Int32) × (Nat → Int32)) => ∀ (H : Heap) (locs : List Loc) (ls : Array Slot), xm_W D xcl (xT cI cZ cJ cO) (xm_A ad (CE f v) s.heap.size) ad (CE v_22.1 v_22.2) s s.heap H locs → lv_has ls 7 [] → W p l e rm_Mt_matchSecond_2 s m args below meth c H locs 0 0 QQ (F0 m 83 ls [])) (fun v_22 h H locs ls hw hl => ?_) (fun J_23 hJ_23 h => ?_)
        · refine lv_iconst (v := 0) hx hb d_Mt_matchSecond_83 (by decide) ?_
          exact hJ_21 (0, v_22.1, v_22.2) h _ _ _ hw (lv_sub hl [] rfl)
        · refine lv_if_eq (tgt := 83) hx hb d_Mt_matchSecond_65 (by decide) (fun hc => ?_) (fun hc => ?_)
          · have h := h.1 hc
            exact hJ_23 (f, v) h _ _ _ hw (lv_sub hl [] rfl)
          · have h := h.2 hc
            refine lv_aload_n hx hb d_Mt_matchSecond_68 rfl (lv_at hl 1 rfl) ?_
            refine lv_aload_n hx hb d_Mt_matchSecond_69 rfl (lv_at hl 2 rfl) ?_
            refine lv_iload_n hx hb d_Mt_matchSecond_70 rfl (lv_at hl 3 rfl) ?_
            refine lv_iconst (v := 1) hx hb d_Mt_matchSecond_71 (by decide) ?_
            refine lv_iadd hx hb d_Mt_matchSecond_72 ?_
            refine xm_calli (ua := fun _ => ad) (va_runV (As := [.ref (ad iU), .int (a + 1)]) (rest := []) ⟨hx, hb, hml, hown, hts⟩ (c_Mt_matchAtom_2 (D := D) (ad := ad) (CE := (fun f v => (CE f v)))  (fun f v => k_M f v) (fun f v => k_V f v) (fun f v => k_P f v) (fun f v => k_R f v) (fun f v => k_U f v) (fun f v => k_A f v) (fun f v => k_B f v) (fun f v => k_C f v) (fun f v v' => u_V f v v') (fun f v f' => u_R f v f') h _) (xg_cwV 2 hts xw_489 xw_486 xw_488 xw_p15 xw_6 rfl rfl (by decide +kernel) ⟨Nat.le_of_ble_eq_true rfl, Nat.le_of_ble_eq_true rfl⟩) (xm_preV hw (k_M f v) rfl _) rfl rfl hl.1 rfl (lv_room (Nat.le_of_ble_eq_true rfl)) d_Mt_matchSecond_73 ⟨Nat.le_of_ble_eq_true rfl, Nat.le_of_ble_eq_true rfl⟩) hw (fun r_24 u_25 H locs h hw => ?_)
            obtain ⟨f_26, ef_26⟩ : ∃ z, z = u_25.1 := ⟨_, rfl⟩
            obtain ⟨v_27, ev_27⟩ : ∃ z, z = u_25.2 := ⟨_, rfl⟩
            try dsimp only at h hw
            rw [← ef_26, ← ev_27] at h hw
            refine lv_if_eq (tgt := 83) hx hb d_Mt_matchSecond_76 (by decide) (fun hc => ?_) (fun hc => ?_)
            · have h := h.1 hc
              exact hJ_23 (f_26, v_27) h _ _ _ hw (lv_sub hl [] rfl)
            · have h := h.2 hc
              refine lv_iconst (v := 1) hx hb d_Mt_matchSecond_79 (by decide) ?_
              refine lv_goto (tgt := 84) hx hb d_Mt_matchSecond_80 (by decide) ?_
              exact hJ_21 (1, f_26, v_27) h _ _ _ hw (lv_sub hl [] rfl)
  · have h := h.2 hc
    refine lv_iload_n hx hb d_Mt_matchSecond_15 rfl (lv_at hl 4 rfl) ?_
    refine lv_iconst (v := 1) hx hb d_Mt_matchSecond_16 (by decide) ?_
    refine lv_ishr hx hb d_Mt_matchSecond_17 ?_
    refine xj_use h (fun (v_28 : Int32 × (Nat → Int32) × (Nat → Int32)) => ∀ (H : Heap) (locs : List Loc) (ls : Array Slot), xm_W D xcl (xT cI cZ cJ cO) (xm_A ad (CE f v) s.heap.size) ad (CE v_28.2.1 v_28.2.2) s s.heap H locs → lv_has ls 7 [] → W p l e rm_Mt_matchSecond_2 s m args below meth c H locs 0 0 QQ (F0 m 37 ls [.int v_28.1])) (fun v_28 h H locs ls hw hl => ?_) (fun J_29 hJ_29 h => ?_)
    · subst hQQ
      exact xm_zret hx hb hr hlk h.1 hw (v_28.2.1, v_28.2.2) rfl rfl h.2 d_Mt_matchSecond_37
    · refine xj_use h (fun (v_30 : (Nat → Int32) × (Nat → Int32)) => ∀ (H : Heap) (locs : List Loc) (ls : Array Slot), xm_W D xcl (xT cI cZ cJ cO) (xm_A ad (CE f v) s.heap.size) ad (CE v_30.1 v_30.2) s s.heap H locs → lv_has ls 7 [] → W p l e rm_Mt_matchSecond_2 s m args below meth c H locs 0 0 QQ (F0 m 36 ls [])) (fun v_30 h H locs ls hw hl => ?_) (fun J_31 hJ_31 h => ?_)
      · refine lv_iconst (v := 0) hx hb d_Mt_matchSecond_36 (by decide) ?_
        exact hJ_29 (0, v_30.1, v_30.2) h _ _ _ hw (lv_sub hl [] rfl)
      · refine lv_if_eq (tgt := 36) hx hb d_Mt_matchSecond_18 (by decide) (fun hc => ?_) (fun hc => ?_)
        · have h := h.1 hc
          exact hJ_31 (f, v) h _ _ _ hw (lv_sub hl [] rfl)
        · have h := h.2 hc
          refine lv_aload_n hx hb d_Mt_matchSecond_21 rfl (lv_at hl 1 rfl) ?_
          refine lv_aload_n hx hb d_Mt_matchSecond_22 rfl (lv_at hl 2 rfl) ?_
          refine lv_iload_n hx hb d_Mt_matchSecond_23 rfl (lv_at hl 3 rfl) ?_
          refine lv_iconst (v := 1) hx hb d_Mt_matchSecond_24 (by decide) ?_
          refine lv_iadd hx hb d_Mt_matchSecond_25 ?_
          refine xm_calli (ua := fun _ => ad) (va_runV (As := [.ref (ad iU), .int (a + 1)]) (rest := []) ⟨hx, hb, hml, hown, hts⟩ (c_Mt_matchAtom_2 (D := D) (ad := ad) (CE := (fun f v => (CE f v)))  (fun f v => k_M f v) (fun f v => k_V f v) (fun f v => k_P f v) (fun f v => k_R f v) (fun f v => k_U f v) (fun f v => k_A f v) (fun f v => k_B f v) (fun f v => k_C f v) (fun f v v' => u_V f v v') (fun f v f' => u_R f v f') h _) (xg_cwV 2 hts xw_489 xw_486 xw_488 xw_p15 xw_6 rfl rfl (by decide +kernel) ⟨Nat.le_of_ble_eq_true rfl, Nat.le_of_ble_eq_true rfl⟩) (xm_preV hw (k_M f v) rfl _) rfl rfl hl.1 rfl (lv_room (Nat.le_of_ble_eq_true rfl)) d_Mt_matchSecond_26 ⟨Nat.le_of_ble_eq_true rfl, Nat.le_of_ble_eq_true rfl⟩) hw (fun r_32 u_33 H locs h hw => ?_)
          obtain ⟨f_34, ef_34⟩ : ∃ z, z = u_33.1 := ⟨_, rfl⟩
          obtain ⟨v_35, ev_35⟩ : ∃ z, z = u_33.2 := ⟨_, rfl⟩
          try dsimp only at h hw
          rw [← ef_34, ← ev_35] at h hw
          refine lv_if_eq (tgt := 36) hx hb d_Mt_matchSecond_29 (by decide) (fun hc => ?_) (fun hc => ?_)
          · have h := h.1 hc
            exact hJ_31 (f_34, v_35) h _ _ _ hw (lv_sub hl [] rfl)
          · have h := h.2 hc
            refine lv_iconst (v := 1) hx hb d_Mt_matchSecond_32 (by decide) ?_
            refine lv_goto (tgt := 37) hx hb d_Mt_matchSecond_33 (by decide) ?_
            exact hJ_29 (1, f_34, v_35) h _ _ _ hw (lv_sub hl [] rfl)
def wp_Mt_matchAtom_3 (post : Int32 → (Nat → Int32) → (Nat → Int32) → Prop)  (rs : Nat → Int32) (rf : Nat → Int32) (rc : Nat → Int32) (na : Int32) (f : Nat → Int32) (v : Nat → Int32) (a : Int32) : Prop := wp_Mt_matchAtom wp_Mt_matchSecond_2 post rs rf rc na f v a
abbrev rm_Mt_matchAtom_3 : Room := { frames := 8, cells := 0, slots := 0, locals := 210 }
set_option maxHeartbeats 4000000 in
set_option maxRecDepth 100000 in
theorem c_Mt_matchAtom_3 {l : Launch} {D : va_G} {ad : Nat → Nat} (CE : (Nat → Int32) → (Nat → Int32) → Nat → Option va_E) {cI cZ cJ cO : ClassId} {iM : Nat} {iV : Nat} {iP : Nat} {iR : Nat} {iU : Nat} {iA : Nat} {iB : Nat} {iC : Nat} {rs : Nat → Int32} {rf : Nat → Int32} {rc : Nat → Int32} {na : Int32} (k_M : ∀ (f : Nat → Int32) (v : Nat → Int32), (CE f v) iM = some (.inr (2, [.ref (ad iP), .ref (ad iV)]))) (k_V : ∀ (f : Nat → Int32) (v : Nat → Int32), (CE f v) iV = some (.inl (cI, 20, .inl v))) (k_P : ∀ (f : Nat → Int32) (v : Nat → Int32), (CE f v) iP = some (.inr (1, [.ref (ad iR)]))) (k_R : ∀ (f : Nat → Int32) (v : Nat → Int32), (CE f v) iR = some (.inl (cI, 341, .inl f))) (k_U : ∀ (f : Nat → Int32) (v : Nat → Int32), (CE f v) iU = some (.inr (3, [.ref (ad iA), .ref (ad iB), .ref (ad iC), .int na]))) (k_A : ∀ (f : Nat → Int32) (v : Nat → Int32), (CE f v) iA = some (.inl (cI, 4, .inl rs))) (k_B : ∀ (f : Nat → Int32) (v : Nat → Int32), (CE f v) iB = some (.inl (cI, 4, .inl rf))) (k_C : ∀ (f : Nat → Int32) (v : Nat → Int32), (CE f v) iC = some (.inl (cI, 4, .inl rc))) (u_V : ∀ (f : Nat → Int32) (v : Nat → Int32) (v' : Nat → Int32), va_up (CE f v) iV (some (.inl (cI, 20, .inl v'))) = (CE f v')) (u_R : ∀ (f : Nat → Int32) (v : Nat → Int32) (f' : Nat → Int32), va_up (CE f v) iR (some (.inl (cI, 341, .inl f'))) = (CE f' v)) {post : Int32 → (Nat → Int32) → (Nat → Int32) → Prop} {f : Nat → Int32} {v : Nat → Int32} {a : Int32} (h : wp_Mt_matchAtom_3 post rs rf rc na f v a) : ∀ sz, Met l y_Mt_matchAtom (Cond.code y_Mt_matchAtom b_Mt_matchAtom 10 (some .boolean) :: xg) rm_Mt_matchAtom_3 (xm_Pc D xcl (xT cI cZ cJ cO) ad (CE f v) sz [.ref (ad iM), .ref (ad iU), .int a]) (va_Qi (fun (r : Int32) (u : (Nat → Int32) × (Nat → Int32)) => post r u.1 u.2) (xm_B D xcl (xT cI cZ cJ cO) (xm_A ad (CE f v) sz) (fun _ => ad) (fun u : (Nat → Int32) × (Nat → Int32) => CE u.1 u.2)) (xm_A ad (CE f v) sz)) 0 0 (xm_A ad (CE f v) sz) := by
  refine xm_ofW (cc := b_Mt_matchAtom) (maxL := 10) (ret := (some .boolean)) (by decide) rfl (Nat.le_of_ble_eq_true rfl) ?_
  intro p e s m args below meth c ls QQ hQQ hx hb hml hr hown hlk hnm hts hl hw
  have hl : lv_has ls 10 [(0, .ref (ad iM)), (1, .ref (ad iU)), (2, .int a)] := hl
  unfold wp_Mt_matchAtom_3 wp_Mt_matchAtom at h
  refine lv_aload_n hx hb d_Mt_matchAtom_0 rfl (lv_at hl 0 rfl) ?_
  refine xm_get (D := D) (v := .ref (ad iV)) (C := R_Mt) (T := F_Mt) (N := 2) hx hb hts (fun w h => List.mem_cons_of_mem _ (i_Mt w h)) hown hw (k_M f v) rfl 1 (by decide) (hts _ (List.mem_cons_of_mem _ xw_74)) (fun _ h9 => h9) rfl d_Mt_matchAtom_1 ?_
  refine lv_aload_n hx hb d_Mt_matchAtom_4 rfl (lv_at hl 1 rfl) ?_
  refine xm_get (D := D) (v := .ref (ad iB)) (C := R_Ru) (T := F_Ru) (N := 4) hx hb hts (fun w h => List.mem_cons_of_mem _ (i_Ru w h)) hown hw (k_U f v) rfl 1 (by decide) (hts _ (List.mem_cons_of_mem _ xw_90)) (fun _ h9 => h9) rfl d_Mt_matchAtom_5 ?_
  refine lv_iconst (v := 0) hx hb d_Mt_matchAtom_8 (by decide) ?_
  obtain ⟨hin, h⟩ := h
  refine xm_iald hx hb hw 0 (k_B f v) rfl hin d_Mt_matchAtom_9 ?_
  refine lv_iconst (v := 1) hx hb d_Mt_matchAtom_10 (by decide) ?_
  refine lv_iadd hx hb d_Mt_matchAtom_11 ?_
  obtain ⟨hin, h⟩ := h
  refine xm_iald hx hb hw 0 (k_V f v) rfl hin d_Mt_matchAtom_12 ?_
  refine lv_topi (fun x_1 ex_1 => ?_)
  have h := h x_1 ex_1
  refine lv_istore_n (lv' := [(3, .int x_1), (0, .ref (ad iM)), (1, .ref (ad iU)), (2, .int a)]) hx hb d_Mt_matchAtom_13 rfl hl (by decide) rfl (fun ls hl => ?_)
  refine lv_aload_n hx hb d_Mt_matchAtom_14 rfl (lv_at hl 1 rfl) ?_
  refine xm_get (D := D) (v := .ref (ad iV)) (C := R_Mt) (T := F_Mt) (N := 2) hx hb hts (fun w h => List.mem_cons_of_mem _ (i_Mt w h)) hown hw (k_M f v) rfl 1 (by decide) (hts _ (List.mem_cons_of_mem _ xw_74)) (fun _ h9 => h9) rfl d_Mt_matchAtom_15 ?_
  refine lv_aload_n hx hb d_Mt_matchAtom_18 rfl (lv_at hl 2 rfl) ?_
  refine xm_get (D := D) (v := .ref (ad iC)) (C := R_Ru) (T := F_Ru) (N := 4) hx hb hts (fun w h => List.mem_cons_of_mem _ (i_Ru w h)) hown hw (k_U f v) rfl 2 (by decide) (hts _ (List.mem_cons_of_mem _ xw_93)) (fun _ h9 => h9) rfl d_Mt_matchAtom_19 ?_
  refine lv_iconst (v := 0) hx hb d_Mt_matchAtom_22 (by decide) ?_
  obtain ⟨hin, h⟩ := h
  refine xm_iald hx hb hw 0 (k_C f v) rfl hin d_Mt_matchAtom_23 ?_
  refine lv_iconst (v := 1) hx hb d_Mt_matchAtom_24 (by decide) ?_
  refine lv_iadd hx hb d_Mt_matchAtom_25 ?_
  obtain ⟨hin, h⟩ := h
  refine xm_iald hx hb hw 0 (k_V f v) rfl hin d_Mt_matchAtom_26 ?_
  refine lv_topi (fun x_2 ex_2 => ?_)
  have h := h x_2 ex_2
  refine lv_istore (lv' := [(4, .int x_2), (3, .int x_1), (0, .ref (ad iM)), (1, .ref (ad iU)), (2, .int a)]) hx hb d_Mt_matchAtom_27 hl (by decide) rfl (fun ls hl => ?_)
  refine lv_iload_n hx hb d_Mt_matchAtom_29 rfl (lv_at hl 1 rfl) ?_
  refine lv_bipush (v := (-2)) hx hb d_Mt_matchAtom_30 (by decide) ?_
  refine xj_use h (fun (v_3 : Int32) => ∀ (H : Heap) (locs : List Loc) (ls : Array Slot), xm_W D xcl (xT cI cZ cJ cO) (xm_A ad (CE f v) s.heap.size) ad (CE f v) s s.heap H locs → lv_has ls 10 [(0, .ref (ad iM)), (1, .ref (ad iU)), (2, .int a), (3, .int x_1), (4, .int x_2)] → W p l e rm_Mt_matchAtom_3 s m args below meth c H locs 0 0 QQ (F0 m 47 ls [.int v_3])) (fun v_3 h H locs ls hw hl => ?_) (fun J_4 hJ_4 h => ?_)
  · refine lv_istore (lv' := [(5, .int v_3), (0, .ref (ad iM)), (1, .ref (ad iU)), (2, .int a), (3, .int x_1), (4, .int x_2)]) hx hb d_Mt_matchAtom_47 hl (by decide) rfl (fun ls hl => ?_)
    refine lv_iload hx hb d_Mt_matchAtom_49 (lv_at hl 0 rfl) ?_
    refine xj_use h (fun (v_5 : Unit) => ∀ (H : Heap) (locs : List Loc) (ls : Array Slot), xm_W D xcl (xT cI cZ cJ cO) (xm_A ad (CE f v) s.heap.size) ad (CE f v) s s.heap H locs → lv_has ls 10 [(0, .ref (ad iM)), (1, .ref (ad iU)), (2, .int a), (3, .int x_1), (4, .int x_2), (5, .int v_3)] → W p l e rm_Mt_matchAtom_3 s m args below meth c H locs 0 0 QQ (F0 m 75 ls [])) (fun v_5 h H locs ls hw hl => ?_) (fun J_6 hJ_6 h => ?_)
    · refine lv_iload_n hx hb d_Mt_matchAtom_75 rfl (lv_at hl 2 rfl) ?_
      refine lv_aload_n hx hb d_Mt_matchAtom_76 rfl (lv_at hl 1 rfl) ?_
      refine xm_get (D := D) (v := .int na) (C := R_Ru) (T := F_Ru) (N := 4) hx hb hts (fun w h => List.mem_cons_of_mem _ (i_Ru w h)) hown hw (k_U f v) rfl 3 (by decide) (hts _ (List.mem_cons_of_mem _ xw_96)) (fun _ h9 => h9) rfl d_Mt_matchAtom_77 ?_
      refine lv_icmp_le (tgt := 113) hx hb d_Mt_matchAtom_80 (by decide) (fun hc => ?_) (fun hc => ?_)
      · have h := h.1 hc
        refine lv_aload_n hx hb d_Mt_matchAtom_113 rfl (lv_at hl 1 rfl) ?_
        refine xm_get (D := D) (v := .ref (ad iA)) (C := R_Ru) (T := F_Ru) (N := 4) hx hb hts (fun w h => List.mem_cons_of_mem _ (i_Ru w h)) hown hw (k_U f v) rfl 0 (by decide) (hts _ (List.mem_cons_of_mem _ xw_87)) (fun _ h9 => h9) rfl d_Mt_matchAtom_114 ?_
        refine lv_iload_n hx hb d_Mt_matchAtom_117 rfl (lv_at hl 2 rfl) ?_
        obtain ⟨hin, h⟩ := h
        refine xm_iald hx hb hw 0 (k_A f v) rfl hin d_Mt_matchAtom_118 ?_
        refine lv_topi (fun x_7 ex_7 => ?_)
        have h := h x_7 ex_7
        refine lv_istore (lv' := [(6, .int x_7), (0, .ref (ad iM)), (1, .ref (ad iU)), (2, .int a), (3, .int x_1), (4, .int x_2), (5, .int v_3)]) hx hb d_Mt_matchAtom_119 hl (by decide) rfl (fun ls hl => ?_)
        refine lv_aload_n hx hb d_Mt_matchAtom_121 rfl (lv_at hl 2 rfl) ?_
        refine xm_get (D := D) (v := .ref (ad iB)) (C := R_Ru) (T := F_Ru) (N := 4) hx hb hts (fun w h => List.mem_cons_of_mem _ (i_Ru w h)) hown hw (k_U f v) rfl 1 (by decide) (hts _ (List.mem_cons_of_mem _ xw_90)) (fun _ h9 => h9) rfl d_Mt_matchAtom_122 ?_
        refine lv_iload_n hx hb d_Mt_matchAtom_125 rfl (lv_at hl 3 rfl) ?_
        obtain ⟨hin, h⟩ := h
        refine xm_iald hx hb hw 0 (k_B f v) rfl hin d_Mt_matchAtom_126 ?_
        refine lv_topi (fun x_8 ex_8 => ?_)
        have h := h x_8 ex_8
        refine lv_istore (lv' := [(7, .int x_8), (6, .int x_7), (0, .ref (ad iM)), (1, .ref (ad iU)), (2, .int a), (3, .int x_1), (4, .int x_2), (5, .int v_3)]) hx hb d_Mt_matchAtom_127 hl (by decide) rfl (fun ls hl => ?_)
        refine lv_iload hx hb d_Mt_matchAtom_129 (lv_at hl 0 rfl) ?_
        refine lv_bipush (v := 18) hx hb d_Mt_matchAtom_131 (by decide) ?_
        refine lv_icmp_ne (tgt := 152) hx hb d_Mt_matchAtom_133 (by decide) (fun hc => ?_) (fun hc => ?_)
        · have h := h.1 hc
          refine lv_aload_n hx hb d_Mt_matchAtom_152 rfl (lv_at hl 2 rfl) ?_
          refine xm_get (D := D) (v := .ref (ad iV)) (C := R_Mt) (T := F_Mt) (N := 2) hx hb hts (fun w h => List.mem_cons_of_mem _ (i_Mt w h)) hown hw (k_M f v) rfl 1 (by decide) (hts _ (List.mem_cons_of_mem _ xw_74)) (fun _ h9 => h9) rfl d_Mt_matchAtom_153 ?_
          refine lv_iload hx hb d_Mt_matchAtom_156 (lv_at hl 0 rfl) ?_
          refine lv_iconst (v := 1) hx hb d_Mt_matchAtom_158 (by decide) ?_
          refine lv_iadd hx hb d_Mt_matchAtom_159 ?_
          obtain ⟨hin, h⟩ := h
          refine xm_iald hx hb hw 0 (k_V f v) rfl hin d_Mt_matchAtom_160 ?_
          refine lv_bipush (v := (-2)) hx hb d_Mt_matchAtom_161 (by decide) ?_
          refine lv_icmp_eq (tgt := 191) hx hb d_Mt_matchAtom_163 (by decide) (fun hc => ?_) (fun hc => ?_)
          · have h := h.1 hc
            refine lv_iconst (v := 0) hx hb d_Mt_matchAtom_191 (by decide) ?_
            refine lv_istore (lv' := [(8, .int 0), (7, .int x_8), (6, .int x_7), (0, .ref (ad iM)), (1, .ref (ad iU)), (2, .int a), (3, .int x_1), (4, .int x_2), (5, .int v_3)]) hx hb d_Mt_matchAtom_192 hl (by decide) rfl (fun ls hl => ?_)
            refine lv_iconst (v := 0) hx hb d_Mt_matchAtom_194 (by decide) ?_
            refine lv_istore (lv' := [(9, .int 0), (8, .int 0), (7, .int x_8), (6, .int x_7), (0, .ref (ad iM)), (1, .ref (ad iU)), (2, .int a), (3, .int x_1), (4, .int x_2), (5, .int v_3)]) hx hb d_Mt_matchAtom_195 hl (by decide) rfl (fun ls hl => ?_)
            refine xL_use h (fun (v_9 : Int32 × Int32 × (Nat → Int32) × (Nat → Int32)) => ∀ (H : Heap) (locs : List Loc) (ls : Array Slot), xm_W D xcl (xT cI cZ cJ cO) (xm_A ad (CE f v) s.heap.size) ad (CE v_9.2.2.1 v_9.2.2.2) s s.heap H locs → lv_has ls 10 [(9, .int v_9.1), (8, .int v_9.2.1), (7, .int x_8), (6, .int x_7), (0, .ref (ad iM)), (1, .ref (ad iU)), (2, .int a)] → W p l e rm_Mt_matchAtom_3 s m args below meth c H locs 0 0 QQ (F0 m 197 ls [])) (fun K_10 hK_10 v_9 h H locs ls hw hl => ?_) _ _ _ hw (lv_sub hl [0, 1, 2, 3, 4, 5, 6] rfl)
            refine lv_iload hx hb d_Mt_matchAtom_197 (lv_at hl 0 rfl) ?_
            refine lv_bipush (v := 10) hx hb d_Mt_matchAtom_199 (by decide) ?_
            refine lv_icmp_ge (tgt := 243) hx hb d_Mt_matchAtom_201 (by decide) (fun hc => ?_) (fun hc => ?_)
            · have h := h.1 hc
              refine lv_aload_n hx hb d_Mt_matchAtom_243 rfl (lv_at hl 4 rfl) ?_
              refine xm_get (D := D) (v := .ref (ad iV)) (C := R_Mt) (T := F_Mt) (N := 2) hx hb hts (fun w h => List.mem_cons_of_mem _ (i_Mt w h)) hown hw (k_M v_9.2.2.1 v_9.2.2.2) rfl 1 (by decide) (hts _ (List.mem_cons_of_mem _ xw_74)) (fun _ h9 => h9) rfl d_Mt_matchAtom_244 ?_
              refine lv_iload hx hb d_Mt_matchAtom_247 (lv_at hl 2 rfl) ?_
              refine lv_iconst (v := 1) hx hb d_Mt_matchAtom_249 (by decide) ?_
              refine lv_iadd hx hb d_Mt_matchAtom_250 ?_
              refine lv_bipush (v := (-2)) hx hb d_Mt_matchAtom_251 (by decide) ?_
              obtain ⟨hin, h⟩ := h
              refine xm_iast hx hb hw 0 (k_V v_9.2.2.1 v_9.2.2.2) rfl hin d_Mt_matchAtom_253 (fun H locs hw => ?_)
              have hw : xm_W D xcl (xT cI cZ cJ cO) (xm_A ad (CE f v) s.heap.size) ad (CE v_9.2.2.1 (upd v_9.2.2.2 (Int32.toNatClampNeg (x_8 + 1)) (-2))) s s.heap H locs := xm_W.cast (u_V v_9.2.2.1 v_9.2.2.2 (upd v_9.2.2.2 (Int32.toNatClampNeg (x_8 + 1)) (-2))) hw
              obtain ⟨v_11, ev_11⟩ : ∃ z : Nat → Int32, z = upd v_9.2.2.2 (Int32.toNatClampNeg (x_8 + 1)) (-2) := ⟨_, rfl⟩
              have h := h v_11 ev_11
              rw [← ev_11] at hw
              refine lv_iload hx hb d_Mt_matchAtom_254 (lv_at hl 1 rfl) ?_
              subst hQQ
              exact xm_zret hx hb hr hlk h.1 hw (v_9.2.2.1, v_11) rfl rfl h.2 d_Mt_matchAtom_256
            · have h := h.2 hc
              refine lv_aload_n hx hb d_Mt_matchAtom_204 rfl (lv_at hl 4 rfl) ?_
              refine xm_get (D := D) (v := .ref (ad iV)) (C := R_Mt) (T := F_Mt) (N := 2) hx hb hts (fun w h => List.mem_cons_of_mem _ (i_Mt w h)) hown hw (k_M v_9.2.2.1 v_9.2.2.2) rfl 1 (by decide) (hts _ (List.mem_cons_of_mem _ xw_74)) (fun _ h9 => h9) rfl d_Mt_matchAtom_205 ?_
              refine lv_iload hx hb d_Mt_matchAtom_208 (lv_at hl 2 rfl) ?_
              refine lv_iconst (v := 1) hx hb d_Mt_matchAtom_210 (by decide) ?_
              refine lv_iadd hx hb d_Mt_matchAtom_211 ?_
              refine lv_iload hx hb d_Mt_matchAtom_212 (lv_at hl 0 rfl) ?_
              obtain ⟨hin, h⟩ := h
              refine xm_iast hx hb hw 0 (k_V v_9.2.2.1 v_9.2.2.2) rfl hin d_Mt_matchAtom_214 (fun H locs hw => ?_)
              have hw : xm_W D xcl (xT cI cZ cJ cO) (xm_A ad (CE f v) s.heap.size) ad (CE v_9.2.2.1 (upd v_9.2.2.2 (Int32.toNatClampNeg (x_8 + 1)) v_9.1)) s s.heap H locs := xm_W.cast (u_V v_9.2.2.1 v_9.2.2.2 (upd v_9.2.2.2 (Int32.toNatClampNeg (x_8 + 1)) v_9.1)) hw
              obtain ⟨v_12, ev_12⟩ : ∃ z : Nat → Int32, z = upd v_9.2.2.2 (Int32.toNatClampNeg (x_8 + 1)) v_9.1 := ⟨_, rfl⟩
              have h := h v_12 ev_12
              rw [← ev_12] at hw
              refine lv_iload hx hb d_Mt_matchAtom_215 (lv_at hl 1 rfl) ?_
              refine lv_aload_n hx hb d_Mt_matchAtom_217 rfl (lv_at hl 4 rfl) ?_
              refine lv_aload_n hx hb d_Mt_matchAtom_218 rfl (lv_at hl 5 rfl) ?_
              refine lv_iload_n hx hb d_Mt_matchAtom_219 rfl (lv_at hl 6 rfl) ?_
              refine lv_aload_n hx hb d_Mt_matchAtom_220 rfl (lv_at hl 4 rfl) ?_
              refine xm_get (D := D) (v := .ref (ad iP)) (C := R_Mt) (T := F_Mt) (N := 2) hx hb hts (fun w h => List.mem_cons_of_mem _ (i_Mt w h)) hown hw (k_M v_9.2.2.1 v_12) rfl 0 (by decide) (hts _ (List.mem_cons_of_mem _ xw_73)) (fun _ h9 => h9) rfl d_Mt_matchAtom_221 ?_
              refine lv_iload hx hb d_Mt_matchAtom_224 (lv_at hl 3 rfl) ?_
              refine lv_iload hx hb d_Mt_matchAtom_226 (lv_at hl 0 rfl) ?_
              refine xm_calli (ua := fun _ => ad) (va_runV (As := [.int x_7, .int v_9.1]) (rest := [.int a, .ref (ad iU), .ref (ad iM), .int v_9.2.1]) ⟨hx, hb, hml, hown, hts⟩ (c_Pr_row (D := D) (ad := ad) (CE := ((CE v_9.2.2.1 v_12)))  (k_P v_9.2.2.1 v_12) (k_R v_9.2.2.1 v_12) h _) (xg_cwV 2 hts xw_180 xw_501 xw_178 xw_179 xw_5 rfl rfl (by decide +kernel) ⟨Nat.le_of_ble_eq_true rfl, Nat.le_of_ble_eq_true rfl⟩) (xm_preV hw (k_P v_9.2.2.1 v_12) rfl _) rfl rfl hl.1 rfl (lv_room (Nat.le_of_ble_eq_true rfl)) d_Mt_matchAtom_228 ⟨Nat.le_of_ble_eq_true rfl, Nat.le_of_ble_eq_true rfl⟩) hw (fun r_13 _ H locs h hw => ?_)
              refine xm_calli (ua := fun _ => ad) (va_runV (As := [.ref (ad iU), .int a, .int r_13]) (rest := [.int v_9.2.1]) ⟨hx, hb, hml, hown, hts⟩ (c_Mt_matchSecond_2 (D := D) (ad := ad) (CE := (fun f v => (CE f v)))  (fun f v => k_M f v) (fun f v => k_V f v) (fun f v => k_P f v) (fun f v => k_R f v) (fun f v => k_U f v) (fun f v => k_A f v) (fun f v => k_B f v) (fun f v => k_C f v) (fun f v v' => u_V f v v') (fun f v f' => u_R f v f') h _) (xg_cwV 3 hts xw_499 xw_496 xw_498 xw_p16 xw_6 rfl rfl (by decide +kernel) ⟨Nat.le_of_ble_eq_true rfl, Nat.le_of_ble_eq_true rfl⟩) (xm_preV hw (k_M v_9.2.2.1 v_12) rfl _) rfl rfl hl.1 rfl (lv_room (Nat.le_of_ble_eq_true rfl)) d_Mt_matchAtom_231 ⟨Nat.le_of_ble_eq_true rfl, Nat.le_of_ble_eq_true rfl⟩) hw (fun r_15 u_16 H locs h hw => ?_)
              obtain ⟨f_17, ef_17⟩ : ∃ z, z = u_16.1 := ⟨_, rfl⟩
              obtain ⟨v_18, ev_18⟩ : ∃ z, z = u_16.2 := ⟨_, rfl⟩
              try dsimp only at h hw
              rw [← ef_17, ← ev_18] at h hw
              refine lv_ior hx hb d_Mt_matchAtom_234 ?_
              refine lv_topi (fun x_19 ex_19 => ?_)
              have h := h x_19 ex_19
              refine lv_istore (lv' := [(8, .int x_19), (9, .int v_9.1), (7, .int x_8), (6, .int x_7), (0, .ref (ad iM)), (1, .ref (ad iU)), (2, .int a)]) hx hb d_Mt_matchAtom_235 hl (by decide) rfl (fun ls hl => ?_)
              obtain ⟨x_20, ex_20⟩ : ∃ y : Int32, y = v_9.1 + 1 := ⟨_, rfl⟩
              have h := h x_20 ex_20
              refine lv_iinc (v := x_20) (lv' := [(9, .int x_20), (8, .int x_19), (7, .int x_8), (6, .int x_7), (0, .ref (ad iM)), (1, .ref (ad iU)), (2, .int a)]) hx hb d_Mt_matchAtom_237 hl (k := 1) rfl (by rw [ex_20]; rfl) (by decide) rfl (fun ls hl => ?_)
              refine lv_goto (tgt := 197) hx hb d_Mt_matchAtom_240 (by decide) ?_
              exact hK_10 (x_20, x_19, f_17, v_18) h _ _ _ hw (lv_sub hl [0, 1, 2, 3, 4, 5, 6] rfl)
          · have h := h.2 hc
            refine lv_aload_n hx hb d_Mt_matchAtom_166 rfl (lv_at hl 2 rfl) ?_
            refine lv_aload_n hx hb d_Mt_matchAtom_167 rfl (lv_at hl 3 rfl) ?_
            refine lv_iload_n hx hb d_Mt_matchAtom_168 rfl (lv_at hl 4 rfl) ?_
            refine lv_aload_n hx hb d_Mt_matchAtom_169 rfl (lv_at hl 2 rfl) ?_
            refine xm_get (D := D) (v := .ref (ad iP)) (C := R_Mt) (T := F_Mt) (N := 2) hx hb hts (fun w h => List.mem_cons_of_mem _ (i_Mt w h)) hown hw (k_M f v) rfl 0 (by decide) (hts _ (List.mem_cons_of_mem _ xw_73)) (fun _ h9 => h9) rfl d_Mt_matchAtom_170 ?_
            refine lv_iload hx hb d_Mt_matchAtom_173 (lv_at hl 1 rfl) ?_
            refine lv_aload_n hx hb d_Mt_matchAtom_175 rfl (lv_at hl 2 rfl) ?_
            refine xm_get (D := D) (v := .ref (ad iV)) (C := R_Mt) (T := F_Mt) (N := 2) hx hb hts (fun w h => List.mem_cons_of_mem _ (i_Mt w h)) hown hw (k_M f v) rfl 1 (by decide) (hts _ (List.mem_cons_of_mem _ xw_74)) (fun _ h9 => h9) rfl d_Mt_matchAtom_176 ?_
            refine lv_iload hx hb d_Mt_matchAtom_179 (lv_at hl 0 rfl) ?_
            refine lv_iconst (v := 1) hx hb d_Mt_matchAtom_181 (by decide) ?_
            refine lv_iadd hx hb d_Mt_matchAtom_182 ?_
            obtain ⟨hin, h⟩ := h
            refine xm_iald hx hb hw 0 (k_V f v) rfl hin d_Mt_matchAtom_183 ?_
            refine xm_calli (ua := fun _ => ad) (va_runV (As := [.int x_7, .int (v (Int32.toNatClampNeg (x_8 + 1)))]) (rest := [.int a, .ref (ad iU), .ref (ad iM)]) ⟨hx, hb, hml, hown, hts⟩ (c_Pr_row (D := D) (ad := ad) (CE := ((CE f v)))  (k_P f v) (k_R f v) h _) (xg_cwV 2 hts xw_180 xw_501 xw_178 xw_179 xw_5 rfl rfl (by decide +kernel) ⟨Nat.le_of_ble_eq_true rfl, Nat.le_of_ble_eq_true rfl⟩) (xm_preV hw (k_P f v) rfl _) rfl rfl hl.1 rfl (lv_room (Nat.le_of_ble_eq_true rfl)) d_Mt_matchAtom_184 ⟨Nat.le_of_ble_eq_true rfl, Nat.le_of_ble_eq_true rfl⟩) hw (fun r_21 _ H locs h hw => ?_)
            refine xm_calli (ua := fun _ => ad) (va_runV (As := [.ref (ad iU), .int a, .int r_21]) (rest := []) ⟨hx, hb, hml, hown, hts⟩ (c_Mt_matchSecond_2 (D := D) (ad := ad) (CE := (fun f v => (CE f v)))  (fun f v => k_M f v) (fun f v => k_V f v) (fun f v => k_P f v) (fun f v => k_R f v) (fun f v => k_U f v) (fun f v => k_A f v) (fun f v => k_B f v) (fun f v => k_C f v) (fun f v v' => u_V f v v') (fun f v f' => u_R f v f') h _) (xg_cwV 3 hts xw_499 xw_496 xw_498 xw_p16 xw_6 rfl rfl (by decide +kernel) ⟨Nat.le_of_ble_eq_true rfl, Nat.le_of_ble_eq_true rfl⟩) (xm_preV hw (k_M f v) rfl _) rfl rfl hl.1 rfl (lv_room (Nat.le_of_ble_eq_true rfl)) d_Mt_matchAtom_187 ⟨Nat.le_of_ble_eq_true rfl, Nat.le_of_ble_eq_true rfl⟩) hw (fun r_23 u_24 H locs h hw => ?_)
            obtain ⟨f_25, ef_25⟩ : ∃ z, z = u_24.1 := ⟨_, rfl⟩
            obtain ⟨v_26, ev_26⟩ : ∃ z, z = u_24.2 := ⟨_, rfl⟩
            try dsimp only at h hw
            rw [← ef_25, ← ev_26] at h hw
            subst hQQ
            exact xm_zret hx hb hr hlk h.1 hw (f_25, v_26) rfl rfl h.2 d_Mt_matchAtom_190
        · have h := h.2 hc
          refine lv_aload_n hx hb d_Mt_matchAtom_136 rfl (lv_at hl 2 rfl) ?_
          refine lv_aload_n hx hb d_Mt_matchAtom_137 rfl (lv_at hl 3 rfl) ?_
          refine lv_iload_n hx hb d_Mt_matchAtom_138 rfl (lv_at hl 4 rfl) ?_
          refine lv_aload_n hx hb d_Mt_matchAtom_139 rfl (lv_at hl 2 rfl) ?_
          refine xm_get (D := D) (v := .ref (ad iP)) (C := R_Mt) (T := F_Mt) (N := 2) hx hb hts (fun w h => List.mem_cons_of_mem _ (i_Mt w h)) hown hw (k_M f v) rfl 0 (by decide) (hts _ (List.mem_cons_of_mem _ xw_73)) (fun _ h9 => h9) rfl d_Mt_matchAtom_140 ?_
          refine lv_iload hx hb d_Mt_matchAtom_143 (lv_at hl 1 rfl) ?_
          refine xm_calli (ua := fun _ => ad) (va_runV (As := [.int x_7]) (rest := [.int a, .ref (ad iU), .ref (ad iM)]) ⟨hx, hb, hml, hown, hts⟩ (c_Pr_rowOfAny (D := D) (ad := ad) (CE := ((CE f v)))  (k_P f v) (k_R f v) h _) (xg_cwV 1 hts xw_495 xw_492 xw_493 xw_494 xw_5 rfl rfl (by decide +kernel) ⟨Nat.le_of_ble_eq_true rfl, Nat.le_of_ble_eq_true rfl⟩) (xm_preV hw (k_P f v) rfl _) rfl rfl hl.1 rfl (lv_room (Nat.le_of_ble_eq_true rfl)) d_Mt_matchAtom_145 ⟨Nat.le_of_ble_eq_true rfl, Nat.le_of_ble_eq_true rfl⟩) hw (fun r_27 _ H locs h hw => ?_)
          refine xm_calli (ua := fun _ => ad) (va_runV (As := [.ref (ad iU), .int a, .int r_27]) (rest := []) ⟨hx, hb, hml, hown, hts⟩ (c_Mt_matchSecond_2 (D := D) (ad := ad) (CE := (fun f v => (CE f v)))  (fun f v => k_M f v) (fun f v => k_V f v) (fun f v => k_P f v) (fun f v => k_R f v) (fun f v => k_U f v) (fun f v => k_A f v) (fun f v => k_B f v) (fun f v => k_C f v) (fun f v v' => u_V f v v') (fun f v f' => u_R f v f') h _) (xg_cwV 3 hts xw_499 xw_496 xw_498 xw_p16 xw_6 rfl rfl (by decide +kernel) ⟨Nat.le_of_ble_eq_true rfl, Nat.le_of_ble_eq_true rfl⟩) (xm_preV hw (k_M f v) rfl _) rfl rfl hl.1 rfl (lv_room (Nat.le_of_ble_eq_true rfl)) d_Mt_matchAtom_148 ⟨Nat.le_of_ble_eq_true rfl, Nat.le_of_ble_eq_true rfl⟩) hw (fun r_29 u_30 H locs h hw => ?_)
          obtain ⟨f_31, ef_31⟩ : ∃ z, z = u_30.1 := ⟨_, rfl⟩
          obtain ⟨v_32, ev_32⟩ : ∃ z, z = u_30.2 := ⟨_, rfl⟩
          try dsimp only at h hw
          rw [← ef_31, ← ev_32] at h hw
          subst hQQ
          exact xm_zret hx hb hr hlk h.1 hw (f_31, v_32) rfl rfl h.2 d_Mt_matchAtom_151
      · have h := h.2 hc
        refine lv_iload hx hb d_Mt_matchAtom_83 (lv_at hl 5 rfl) ?_
        refine xj_use h (fun (v_33 : Int32 × (Nat → Int32) × (Nat → Int32)) => ∀ (H : Heap) (locs : List Loc) (ls : Array Slot), xm_W D xcl (xT cI cZ cJ cO) (xm_A ad (CE f v) s.heap.size) ad (CE v_33.2.1 v_33.2.2) s s.heap H locs → lv_has ls 10 [] → W p l e rm_Mt_matchAtom_3 s m args below meth c H locs 0 0 QQ (F0 m 112 ls [.int v_33.1])) (fun v_33 h H locs ls hw hl => ?_) (fun J_34 hJ_34 h => ?_)
        · subst hQQ
          exact xm_zret hx hb hr hlk h.1 hw (v_33.2.1, v_33.2.2) rfl rfl h.2 d_Mt_matchAtom_112
        · refine xj_use h (fun (v_35 : (Nat → Int32) × (Nat → Int32)) => ∀ (H : Heap) (locs : List Loc) (ls : Array Slot), xm_W D xcl (xT cI cZ cJ cO) (xm_A ad (CE f v) s.heap.size) ad (CE v_35.1 v_35.2) s s.heap H locs → lv_has ls 10 [] → W p l e rm_Mt_matchAtom_3 s m args below meth c H locs 0 0 QQ (F0 m 111 ls [])) (fun v_35 h H locs ls hw hl => ?_) (fun J_36 hJ_36 h => ?_)
          · refine lv_iconst (v := 0) hx hb d_Mt_matchAtom_111 (by decide) ?_
            exact hJ_34 (0, v_35.1, v_35.2) h _ _ _ hw (lv_sub hl [] rfl)
          · refine lv_if_eq (tgt := 111) hx hb d_Mt_matchAtom_85 (by decide) (fun hc => ?_) (fun hc => ?_)
            · have h := h.1 hc
              exact hJ_36 (f, v) h _ _ _ hw (lv_sub hl [] rfl)
            · have h := h.2 hc
              refine lv_aload_n hx hb d_Mt_matchAtom_88 rfl (lv_at hl 0 rfl) ?_
              refine xm_get (D := D) (v := .ref (ad iP)) (C := R_Mt) (T := F_Mt) (N := 2) hx hb hts (fun w h => List.mem_cons_of_mem _ (i_Mt w h)) hown hw (k_M f v) rfl 0 (by decide) (hts _ (List.mem_cons_of_mem _ xw_73)) (fun _ h9 => h9) rfl d_Mt_matchAtom_89 ?_
              refine lv_aload_n hx hb d_Mt_matchAtom_92 rfl (lv_at hl 1 rfl) ?_
              refine xm_get (D := D) (v := .ref (ad iA)) (C := R_Ru) (T := F_Ru) (N := 4) hx hb hts (fun w h => List.mem_cons_of_mem _ (i_Ru w h)) hown hw (k_U f v) rfl 0 (by decide) (hts _ (List.mem_cons_of_mem _ xw_87)) (fun _ h9 => h9) rfl d_Mt_matchAtom_93 ?_
              refine lv_iconst (v := 0) hx hb d_Mt_matchAtom_96 (by decide) ?_
              obtain ⟨hin, h⟩ := h
              refine xm_iald hx hb hw 0 (k_A f v) rfl hin d_Mt_matchAtom_97 ?_
              refine lv_iload_n hx hb d_Mt_matchAtom_98 rfl (lv_at hl 3 rfl) ?_
              refine lv_iload hx hb d_Mt_matchAtom_99 (lv_at hl 4 rfl) ?_
              refine xm_calli (ua := fun _ => ad) (va_runV (As := [.int (rs (Int32.toNatClampNeg 0)), .int x_1, .int x_2]) (rest := []) ⟨hx, hb, hml, hown, hts⟩ (c_Pr_put (D := D) (ad := ad) (CE := (fun f => (CE f v)))  (fun f => k_P f v) (fun f => k_R f v) (fun f f' => u_R f v f') h _) (xg_cwV 3 hts xw_321 xw_491 xw_319 xw_320 xw_5 rfl rfl (by decide +kernel) ⟨Nat.le_of_ble_eq_true rfl, Nat.le_of_ble_eq_true rfl⟩) (xm_preV hw (k_P f v) rfl _) rfl rfl hl.1 rfl (lv_room (Nat.le_of_ble_eq_true rfl)) d_Mt_matchAtom_101 ⟨Nat.le_of_ble_eq_true rfl, Nat.le_of_ble_eq_true rfl⟩) hw (fun r_37 u_38 H locs h hw => ?_)
              obtain ⟨f_39, ef_39⟩ : ∃ z, z = u_38 := ⟨_, rfl⟩
              try dsimp only at h hw
              rw [← ef_39] at h hw
              refine lv_if_eq (tgt := 111) hx hb d_Mt_matchAtom_104 (by decide) (fun hc => ?_) (fun hc => ?_)
              · have h := h.1 hc
                exact hJ_36 (f_39, v) h _ _ _ hw (lv_sub hl [] rfl)
              · have h := h.2 hc
                refine lv_iconst (v := 1) hx hb d_Mt_matchAtom_107 (by decide) ?_
                refine lv_goto (tgt := 112) hx hb d_Mt_matchAtom_108 (by decide) ?_
                exact hJ_34 (1, f_39, v) h _ _ _ hw (lv_sub hl [] rfl)
    · refine lv_if_eq (tgt := 75) hx hb d_Mt_matchAtom_51 (by decide) (fun hc => ?_) (fun hc => ?_)
      · have h := h.1 hc
        exact hJ_6 () h _ _ _ hw (lv_sub hl [1, 2, 3, 4, 5, 0] rfl)
      · have h := h.2 hc
        refine lv_aload_n hx hb d_Mt_matchAtom_54 rfl (lv_at hl 1 rfl) ?_
        refine xm_get (D := D) (v := .ref (ad iP)) (C := R_Mt) (T := F_Mt) (N := 2) hx hb hts (fun w h => List.mem_cons_of_mem _ (i_Mt w h)) hown hw (k_M f v) rfl 0 (by decide) (hts _ (List.mem_cons_of_mem _ xw_73)) (fun _ h9 => h9) rfl d_Mt_matchAtom_55 ?_
        refine lv_aload_n hx hb d_Mt_matchAtom_58 rfl (lv_at hl 2 rfl) ?_
        refine xm_get (D := D) (v := .ref (ad iA)) (C := R_Ru) (T := F_Ru) (N := 4) hx hb hts (fun w h => List.mem_cons_of_mem _ (i_Ru w h)) hown hw (k_U f v) rfl 0 (by decide) (hts _ (List.mem_cons_of_mem _ xw_87)) (fun _ h9 => h9) rfl d_Mt_matchAtom_59 ?_
        refine lv_iconst (v := 0) hx hb d_Mt_matchAtom_62 (by decide) ?_
        obtain ⟨hin, h⟩ := h
        refine xm_iald hx hb hw 0 (k_A f v) rfl hin d_Mt_matchAtom_63 ?_
        refine lv_iload_n hx hb d_Mt_matchAtom_64 rfl (lv_at hl 4 rfl) ?_
        refine lv_iload hx hb d_Mt_matchAtom_65 (lv_at hl 5 rfl) ?_
        refine xm_calli (ua := fun _ => ad) (va_runV (As := [.int (rs (Int32.toNatClampNeg 0)), .int x_1, .int x_2]) (rest := []) ⟨hx, hb, hml, hown, hts⟩ (c_Pr_has (D := D) (ad := ad) (CE := ((CE f v)))  (k_P f v) (k_R f v) h _) (xg_cwV 3 hts xw_176 xw_490 xw_174 xw_175 xw_5 rfl rfl (by decide +kernel) ⟨Nat.le_of_ble_eq_true rfl, Nat.le_of_ble_eq_true rfl⟩) (xm_preV hw (k_P f v) rfl _) rfl rfl hl.1 rfl (lv_room (Nat.le_of_ble_eq_true rfl)) d_Mt_matchAtom_67 ⟨Nat.le_of_ble_eq_true rfl, Nat.le_of_ble_eq_true rfl⟩) hw (fun r_40 _ H locs h hw => ?_)
        refine lv_if_eq (tgt := 75) hx hb d_Mt_matchAtom_70 (by decide) (fun hc => ?_) (fun hc => ?_)
        · have h := h.1 hc
          exact hJ_6 () h _ _ _ hw (lv_sub hl [1, 2, 3, 4, 5, 0] rfl)
        · have h := h.2 hc
          refine lv_iconst (v := 0) hx hb d_Mt_matchAtom_73 (by decide) ?_
          subst hQQ
          exact xm_zret hx hb hr hlk rfl hw (f, v) rfl rfl h d_Mt_matchAtom_74
  · refine xj_use h (fun (v_42 : Unit) => ∀ (H : Heap) (locs : List Loc) (ls : Array Slot), xm_W D xcl (xT cI cZ cJ cO) (xm_A ad (CE f v) s.heap.size) ad (CE f v) s s.heap H locs → lv_has ls 10 [(0, .ref (ad iM)), (1, .ref (ad iU)), (2, .int a), (3, .int x_1), (4, .int x_2)] → W p l e rm_Mt_matchAtom_3 s m args below meth c H locs 0 0 QQ (F0 m 46 ls [])) (fun v_42 h H locs ls hw hl => ?_) (fun J_43 hJ_43 h => ?_)
    · refine lv_iconst (v := 0) hx hb d_Mt_matchAtom_46 (by decide) ?_
      exact hJ_4 0 h _ _ _ hw (lv_sub hl [0, 1, 2, 3, 4] rfl)
    · refine lv_icmp_eq (tgt := 46) hx hb d_Mt_matchAtom_32 (by decide) (fun hc => ?_) (fun hc => ?_)
      · have h := h.1 hc
        exact hJ_43 () h _ _ _ hw (lv_sub hl [2, 3, 4, 1, 0] rfl)
      · have h := h.2 hc
        refine lv_iload hx hb d_Mt_matchAtom_35 (lv_at hl 0 rfl) ?_
        refine lv_bipush (v := (-2)) hx hb d_Mt_matchAtom_37 (by decide) ?_
        refine lv_icmp_eq (tgt := 46) hx hb d_Mt_matchAtom_39 (by decide) (fun hc => ?_) (fun hc => ?_)
        · have h := h.1 hc
          exact hJ_43 () h _ _ _ hw (lv_sub hl [2, 3, 4, 1, 0] rfl)
        · have h := h.2 hc
          refine lv_iconst (v := 1) hx hb d_Mt_matchAtom_42 (by decide) ?_
          refine lv_goto (tgt := 47) hx hb d_Mt_matchAtom_43 (by decide) ?_
          exact hJ_4 1 h _ _ _ hw (lv_sub hl [2, 3, 4, 1, 0] rfl)
abbrev b_Mt_follow : ByteArray := prog_2_method_2_code
def y_Mt_follow : MethodName := ⟨"QuestionDesk$Matcher", "follow", "(LQuestionDesk$Rule;)Z"⟩
theorem d_Mt_follow_0 : decode b_Mt_follow 0 = .ok (.aload_n 0, 1) := by decide +kernel
theorem d_Mt_follow_1 : decode b_Mt_follow 1 = .ok (.aload_n 1, 1) := by decide +kernel
theorem d_Mt_follow_2 : decode b_Mt_follow 2 = .ok (.iconst 1, 1) := by decide +kernel
theorem d_Mt_follow_3 : decode b_Mt_follow 3 = .ok (.invokevirtual 19, 3) := by decide +kernel
theorem d_Mt_follow_6 : decode b_Mt_follow 6 = .ok (.ireturn, 1) := by decide +kernel
def wp_Mt_follow (post : Int32 → (Nat → Int32) → (Nat → Int32) → Prop)  (rs : Nat → Int32) (rf : Nat → Int32) (rc : Nat → Int32) (na : Int32) (f : Nat → Int32) (v : Nat → Int32) : Prop :=
wp_Mt_matchAtom_3 (fun r_1 f_3 v_4 =>
(narrow .boolean (.int r_1) = .int r_1 ∧ post r_1 f_3 v_4)) rs rf rc na f v 1
abbrev rm_Mt_follow : Room := { frames := 9, cells := 0, slots := 0, locals := 239 }
set_option maxHeartbeats 4000000 in
set_option maxRecDepth 100000 in
theorem c_Mt_follow {l : Launch} {D : va_G} {ad : Nat → Nat} (CE : (Nat → Int32) → (Nat → Int32) → Nat → Option va_E) {cI cZ cJ cO : ClassId} {iM : Nat} {iV : Nat} {iP : Nat} {iR : Nat} {iU : Nat} {iA : Nat} {iB : Nat} {iC : Nat} {rs : Nat → Int32} {rf : Nat → Int32} {rc : Nat → Int32} {na : Int32} (k_M : ∀ (f : Nat → Int32) (v : Nat → Int32), (CE f v) iM = some (.inr (2, [.ref (ad iP), .ref (ad iV)]))) (k_V : ∀ (f : Nat → Int32) (v : Nat → Int32), (CE f v) iV = some (.inl (cI, 20, .inl v))) (k_P : ∀ (f : Nat → Int32) (v : Nat → Int32), (CE f v) iP = some (.inr (1, [.ref (ad iR)]))) (k_R : ∀ (f : Nat → Int32) (v : Nat → Int32), (CE f v) iR = some (.inl (cI, 341, .inl f))) (k_U : ∀ (f : Nat → Int32) (v : Nat → Int32), (CE f v) iU = some (.inr (3, [.ref (ad iA), .ref (ad iB), .ref (ad iC), .int na]))) (k_A : ∀ (f : Nat → Int32) (v : Nat → Int32), (CE f v) iA = some (.inl (cI, 4, .inl rs))) (k_B : ∀ (f : Nat → Int32) (v : Nat → Int32), (CE f v) iB = some (.inl (cI, 4, .inl rf))) (k_C : ∀ (f : Nat → Int32) (v : Nat → Int32), (CE f v) iC = some (.inl (cI, 4, .inl rc))) (u_V : ∀ (f : Nat → Int32) (v : Nat → Int32) (v' : Nat → Int32), va_up (CE f v) iV (some (.inl (cI, 20, .inl v'))) = (CE f v')) (u_R : ∀ (f : Nat → Int32) (v : Nat → Int32) (f' : Nat → Int32), va_up (CE f v) iR (some (.inl (cI, 341, .inl f'))) = (CE f' v)) {post : Int32 → (Nat → Int32) → (Nat → Int32) → Prop} {f : Nat → Int32} {v : Nat → Int32} (h : wp_Mt_follow post rs rf rc na f v) : ∀ sz, Met l y_Mt_follow (Cond.code y_Mt_follow b_Mt_follow 2 (some .boolean) :: xg) rm_Mt_follow (xm_Pc D xcl (xT cI cZ cJ cO) ad (CE f v) sz [.ref (ad iM), .ref (ad iU)]) (va_Qi (fun (r : Int32) (u : (Nat → Int32) × (Nat → Int32)) => post r u.1 u.2) (xm_B D xcl (xT cI cZ cJ cO) (xm_A ad (CE f v) sz) (fun _ => ad) (fun u : (Nat → Int32) × (Nat → Int32) => CE u.1 u.2)) (xm_A ad (CE f v) sz)) 0 0 (xm_A ad (CE f v) sz) := by
  refine xm_ofW (cc := b_Mt_follow) (maxL := 2) (ret := (some .boolean)) (by decide) rfl (Nat.le_of_ble_eq_true rfl) ?_
  intro p e s m args below meth c ls QQ hQQ hx hb hml hr hown hlk hnm hts hl hw
  have hl : lv_has ls 2 [(0, .ref (ad iM)), (1, .ref (ad iU))] := hl
  unfold wp_Mt_follow at h
  refine lv_aload_n hx hb d_Mt_follow_0 rfl (lv_at hl 0 rfl) ?_
  refine lv_aload_n hx hb d_Mt_follow_1 rfl (lv_at hl 1 rfl) ?_
  refine lv_iconst (v := 1) hx hb d_Mt_follow_2 (by decide) ?_
  refine xm_calli (ua := fun _ => ad) (va_runV (As := [.ref (ad iU), .int 1]) (rest := []) ⟨hx, hb, hml, hown, hts⟩ (c_Mt_matchAtom_3 (D := D) (ad := ad) (CE := (fun f v => (CE f v)))  (fun f v => k_M f v) (fun f v => k_V f v) (fun f v => k_P f v) (fun f v => k_R f v) (fun f v => k_U f v) (fun f v => k_A f v) (fun f v => k_B f v) (fun f v => k_C f v) (fun f v v' => u_V f v v') (fun f v f' => u_R f v f') h _) (xg_cwV 2 hts xw_489 xw_486 xw_488 xw_p15 xw_6 rfl rfl (by decide +kernel) ⟨Nat.le_of_ble_eq_true rfl, Nat.le_of_ble_eq_true rfl⟩) (xm_preV hw (k_M f v) rfl _) rfl rfl hl.1 rfl (lv_room (Nat.le_of_ble_eq_true rfl)) d_Mt_follow_3 ⟨Nat.le_of_ble_eq_true rfl, Nat.le_of_ble_eq_true rfl⟩) hw (fun r_1 u_2 H locs h hw => ?_)
  obtain ⟨f_3, ef_3⟩ : ∃ z, z = u_2.1 := ⟨_, rfl⟩
  obtain ⟨v_4, ev_4⟩ : ∃ z, z = u_2.2 := ⟨_, rfl⟩
  try dsimp only at h hw
  rw [← ef_3, ← ev_4] at h hw
  subst hQQ
  exact xm_zret hx hb hr hlk h.1 hw (f_3, v_4) rfl rfl h.2 d_Mt_follow_6
