theorem dX10_figures_47 : decode cX10_figures 47 = .ok (.iload_n 1, 1) := by decide +kernel
theorem dX10_figures_48 : decode cX10_figures 48 = .ok (.imul, 1) := by decide +kernel
theorem dX10_figures_49 : decode cX10_figures 49 = .ok (.aload_n 0, 1) := by decide +kernel
theorem dX10_figures_50 : decode cX10_figures 50 = .ok (.invokevirtual 125, 3) := by decide +kernel
theorem dX10_figures_53 : decode cX10_figures 53 = .ok (.iadd, 1) := by decide +kernel
theorem dX10_figures_54 : decode cX10_figures 54 = .ok (.bipush 48, 2) := by decide +kernel
theorem dX10_figures_56 : decode cX10_figures 56 = .ok (.isub, 1) := by decide +kernel
theorem dX10_figures_57 : decode cX10_figures 57 = .ok (.istore_n 1, 1) := by decide +kernel
theorem dX10_figures_58 : decode cX10_figures 58 = .ok (.aload_n 0, 1) := by decide +kernel
theorem dX10_figures_59 : decode cX10_figures 59 = .ok (.dup, 1) := by decide +kernel
theorem dX10_figures_60 : decode cX10_figures 60 = .ok (.getfield 122, 3) := by decide +kernel
theorem dX10_figures_63 : decode cX10_figures 63 = .ok (.iconst 1, 1) := by decide +kernel
theorem dX10_figures_64 : decode cX10_figures 64 = .ok (.iadd, 1) := by decide +kernel
theorem dX10_figures_65 : decode cX10_figures 65 = .ok (.putfield 122, 3) := by decide +kernel
theorem dX10_figures_68 : decode cX10_figures 68 = .ok (.iinc 2 1, 3) := by decide +kernel
theorem dX10_figures_71 : decode cX10_figures 71 = .ok (.goto (-67), 3) := by decide +kernel
theorem dX10_figures_74 : decode cX10_figures 74 = .ok (.iload_n 2, 1) := by decide +kernel
theorem dX10_figures_75 : decode cX10_figures 75 = .ok (.ifCond .ne 11, 3) := by decide +kernel
theorem dX10_figures_78 : decode cX10_figures 78 = .ok (.aload_n 0, 1) := by decide +kernel
theorem dX10_figures_79 : decode cX10_figures 79 = .ok (.aload_n 0, 1) := by decide +kernel
theorem dX10_figures_80 : decode cX10_figures 80 = .ok (.getfield 122, 3) := by decide +kernel
theorem dX10_figures_83 : decode cX10_figures 83 = .ok (.invokevirtual 143, 3) := by decide +kernel
theorem dX10_figures_86 : decode cX10_figures 86 = .ok (.iload_n 1, 1) := by decide +kernel
theorem dX10_figures_87 : decode cX10_figures 87 = .ok (.ireturn, 1) := by decide +kernel
theorem dX10_rule_0 : decode cX10_rule 0 = .ok (.aload_n 0, 1) := by decide +kernel
theorem dX10_rule_1 : decode cX10_rule 1 = .ok (.getfield 147, 3) := by decide +kernel
theorem dX10_rule_4 : decode cX10_rule 4 = .ok (.istore_n 1, 1) := by decide +kernel
theorem dX10_rule_5 : decode cX10_rule 5 = .ok (.aload_n 0, 1) := by decide +kernel
theorem dX10_rule_6 : decode cX10_rule 6 = .ok (.invokevirtual 125, 3) := by decide +kernel
theorem dX10_rule_9 : decode cX10_rule 9 = .ok (.invokestatic 132, 3) := by decide +kernel
theorem dX10_rule_12 : decode cX10_rule 12 = .ok (.ifCond .ne 12, 3) := by decide +kernel
theorem dX10_rule_15 : decode cX10_rule 15 = .ok (.aload_n 0, 1) := by decide +kernel
theorem dX10_rule_16 : decode cX10_rule 16 = .ok (.aload_n 0, 1) := by decide +kernel
theorem dX10_rule_17 : decode cX10_rule 17 = .ok (.getfield 122, 3) := by decide +kernel
theorem dX10_rule_20 : decode cX10_rule 20 = .ok (.invokevirtual 143, 3) := by decide +kernel
theorem dX10_rule_23 : decode cX10_rule 23 = .ok (.return_, 1) := by decide +kernel
theorem dX10_rule_24 : decode cX10_rule 24 = .ok (.aload_n 0, 1) := by decide +kernel
theorem dX10_rule_25 : decode cX10_rule 25 = .ok (.getfield 49, 3) := by decide +kernel
theorem dX10_rule_28 : decode cX10_rule 28 = .ok (.iload_n 1, 1) := by decide +kernel
theorem dX10_rule_29 : decode cX10_rule 29 = .ok (.aload_n 0, 1) := by decide +kernel
theorem dX10_rule_30 : decode cX10_rule 30 = .ok (.getfield 122, 3) := by decide +kernel
theorem dX10_rule_33 : decode cX10_rule 33 = .ok (.iastore, 1) := by decide +kernel
theorem dX10_rule_34 : decode cX10_rule 34 = .ok (.aload_n 0, 1) := by decide +kernel
theorem dX10_rule_35 : decode cX10_rule 35 = .ok (.getfield 37, 3) := by decide +kernel
theorem dX10_rule_38 : decode cX10_rule 38 = .ok (.iload_n 1, 1) := by decide +kernel
theorem dX10_rule_39 : decode cX10_rule 39 = .ok (.aload_n 0, 1) := by decide +kernel
theorem dX10_rule_40 : decode cX10_rule 40 = .ok (.invokevirtual 125, 3) := by decide +kernel
theorem dX10_rule_43 : decode cX10_rule 43 = .ok (.bipush 65, 2) := by decide +kernel
theorem dX10_rule_45 : decode cX10_rule 45 = .ok (.isub, 1) := by decide +kernel
theorem dX10_rule_46 : decode cX10_rule 46 = .ok (.iastore, 1) := by decide +kernel
theorem dX10_rule_47 : decode cX10_rule 47 = .ok (.aload_n 0, 1) := by decide +kernel
theorem dX10_rule_48 : decode cX10_rule 48 = .ok (.getfield 43, 3) := by decide +kernel
theorem dX10_rule_51 : decode cX10_rule 51 = .ok (.iload_n 1, 1) := by decide +kernel
theorem dX10_rule_52 : decode cX10_rule 52 = .ok (.iconst (-1), 1) := by decide +kernel
theorem dX10_rule_53 : decode cX10_rule 53 = .ok (.iastore, 1) := by decide +kernel
theorem dX10_rule_54 : decode cX10_rule 54 = .ok (.aload_n 0, 1) := by decide +kernel
theorem dX10_rule_55 : decode cX10_rule 55 = .ok (.getfield 46, 3) := by decide +kernel
theorem dX10_rule_58 : decode cX10_rule 58 = .ok (.iload_n 1, 1) := by decide +kernel
theorem dX10_rule_59 : decode cX10_rule 59 = .ok (.iconst 0, 1) := by decide +kernel
theorem dX10_rule_60 : decode cX10_rule 60 = .ok (.iastore, 1) := by decide +kernel
theorem dX10_rule_61 : decode cX10_rule 61 = .ok (.aload_n 0, 1) := by decide +kernel
theorem dX10_rule_62 : decode cX10_rule 62 = .ok (.dup, 1) := by decide +kernel
theorem dX10_rule_63 : decode cX10_rule 63 = .ok (.getfield 122, 3) := by decide +kernel
theorem dX10_rule_66 : decode cX10_rule 66 = .ok (.iconst 1, 1) := by decide +kernel
theorem dX10_rule_67 : decode cX10_rule 67 = .ok (.iadd, 1) := by decide +kernel
theorem dX10_rule_68 : decode cX10_rule 68 = .ok (.putfield 122, 3) := by decide +kernel
theorem dX10_rule_71 : decode cX10_rule 71 = .ok (.aload_n 0, 1) := by decide +kernel
theorem dX10_rule_72 : decode cX10_rule 72 = .ok (.invokevirtual 150, 3) := by decide +kernel
theorem dX10_rule_75 : decode cX10_rule 75 = .ok (.aload_n 0, 1) := by decide +kernel
theorem dX10_rule_76 : decode cX10_rule 76 = .ok (.invokevirtual 125, 3) := by decide +kernel
theorem dX10_rule_79 : decode cX10_rule 79 = .ok (.bipush 61, 2) := by decide +kernel
theorem dX10_rule_81 : decode cX10_rule 81 = .ok (.if_icmp .eq 12, 3) := by decide +kernel
theorem dX10_rule_84 : decode cX10_rule 84 = .ok (.aload_n 0, 1) := by decide +kernel
theorem dX10_rule_85 : decode cX10_rule 85 = .ok (.aload_n 0, 1) := by decide +kernel
theorem dX10_rule_86 : decode cX10_rule 86 = .ok (.getfield 122, 3) := by decide +kernel
theorem dX10_rule_89 : decode cX10_rule 89 = .ok (.invokevirtual 143, 3) := by decide +kernel
theorem dX10_rule_92 : decode cX10_rule 92 = .ok (.return_, 1) := by decide +kernel
theorem dX10_rule_93 : decode cX10_rule 93 = .ok (.aload_n 0, 1) := by decide +kernel
theorem dX10_rule_94 : decode cX10_rule 94 = .ok (.dup, 1) := by decide +kernel
theorem dX10_rule_95 : decode cX10_rule 95 = .ok (.getfield 122, 3) := by decide +kernel
theorem dX10_rule_98 : decode cX10_rule 98 = .ok (.iconst 1, 1) := by decide +kernel
theorem dX10_rule_99 : decode cX10_rule 99 = .ok (.iadd, 1) := by decide +kernel
theorem dX10_rule_100 : decode cX10_rule 100 = .ok (.putfield 122, 3) := by decide +kernel
theorem dX10_rule_103 : decode cX10_rule 103 = .ok (.aload_n 0, 1) := by decide +kernel
theorem dX10_rule_104 : decode cX10_rule 104 = .ok (.invokevirtual 150, 3) := by decide +kernel
theorem dX10_rule_107 : decode cX10_rule 107 = .ok (.aload_n 0, 1) := by decide +kernel
theorem dX10_rule_108 : decode cX10_rule 108 = .ok (.invokevirtual 153, 3) := by decide +kernel
theorem dX10_rule_111 : decode cX10_rule 111 = .ok (.ifCond .ne 12, 3) := by decide +kernel
theorem dX10_rule_114 : decode cX10_rule 114 = .ok (.aload_n 0, 1) := by decide +kernel
theorem dX10_rule_115 : decode cX10_rule 115 = .ok (.aload_n 0, 1) := by decide +kernel
theorem dX10_rule_116 : decode cX10_rule 116 = .ok (.getfield 122, 3) := by decide +kernel
theorem dX10_rule_119 : decode cX10_rule 119 = .ok (.invokevirtual 143, 3) := by decide +kernel
theorem dX10_rule_122 : decode cX10_rule 122 = .ok (.return_, 1) := by decide +kernel
theorem dX10_rule_123 : decode cX10_rule 123 = .ok (.aload_n 0, 1) := by decide +kernel
theorem dX10_rule_124 : decode cX10_rule 124 = .ok (.getfield 40, 3) := by decide +kernel
theorem dX10_rule_127 : decode cX10_rule 127 = .ok (.iload_n 1, 1) := by decide +kernel
theorem dX10_rule_128 : decode cX10_rule 128 = .ok (.aload_n 0, 1) := by decide +kernel
theorem dX10_rule_129 : decode cX10_rule 129 = .ok (.invokevirtual 157, 3) := by decide +kernel
theorem dX10_rule_132 : decode cX10_rule 132 = .ok (.iastore, 1) := by decide +kernel
theorem dX10_rule_133 : decode cX10_rule 133 = .ok (.aload_n 0, 1) := by decide +kernel
theorem dX10_rule_134 : decode cX10_rule 134 = .ok (.invokevirtual 150, 3) := by decide +kernel
theorem dX10_rule_137 : decode cX10_rule 137 = .ok (.aload_n 0, 1) := by decide +kernel
theorem dX10_rule_138 : decode cX10_rule 138 = .ok (.invokevirtual 153, 3) := by decide +kernel
theorem dX10_rule_141 : decode cX10_rule 141 = .ok (.ifCond .eq 17, 3) := by decide +kernel
theorem dX10_rule_144 : decode cX10_rule 144 = .ok (.aload_n 0, 1) := by decide +kernel
theorem dX10_rule_145 : decode cX10_rule 145 = .ok (.getfield 43, 3) := by decide +kernel
theorem dX10_rule_148 : decode cX10_rule 148 = .ok (.iload_n 1, 1) := by decide +kernel
theorem dX10_rule_149 : decode cX10_rule 149 = .ok (.aload_n 0, 1) := by decide +kernel
theorem dX10_rule_150 : decode cX10_rule 150 = .ok (.invokevirtual 157, 3) := by decide +kernel
theorem dX10_rule_153 : decode cX10_rule 153 = .ok (.iastore, 1) := by decide +kernel
theorem dX10_rule_154 : decode cX10_rule 154 = .ok (.aload_n 0, 1) := by decide +kernel
theorem dX10_rule_155 : decode cX10_rule 155 = .ok (.invokevirtual 150, 3) := by decide +kernel
theorem dX10_rule_158 : decode cX10_rule 158 = .ok (.aload_n 0, 1) := by decide +kernel
theorem dX10_rule_159 : decode cX10_rule 159 = .ok (.invokevirtual 125, 3) := by decide +kernel
theorem dX10_rule_162 : decode cX10_rule 162 = .ok (.bipush 58, 2) := by decide +kernel
theorem dX10_rule_164 : decode cX10_rule 164 = .ok (.if_icmp .ne 31, 3) := by decide +kernel
theorem dX10_rule_167 : decode cX10_rule 167 = .ok (.aload_n 0, 1) := by decide +kernel
theorem dX10_rule_168 : decode cX10_rule 168 = .ok (.dup, 1) := by decide +kernel
theorem dX10_rule_169 : decode cX10_rule 169 = .ok (.getfield 122, 3) := by decide +kernel
theorem dX10_rule_172 : decode cX10_rule 172 = .ok (.iconst 1, 1) := by decide +kernel
theorem dX10_rule_173 : decode cX10_rule 173 = .ok (.iadd, 1) := by decide +kernel
theorem dX10_rule_174 : decode cX10_rule 174 = .ok (.putfield 122, 3) := by decide +kernel
theorem dX10_rule_177 : decode cX10_rule 177 = .ok (.aload_n 0, 1) := by decide +kernel
theorem dX10_rule_178 : decode cX10_rule 178 = .ok (.invokevirtual 150, 3) := by decide +kernel
theorem dX10_rule_181 : decode cX10_rule 181 = .ok (.aload_n 0, 1) := by decide +kernel
theorem dX10_rule_182 : decode cX10_rule 182 = .ok (.getfield 46, 3) := by decide +kernel
theorem dX10_rule_185 : decode cX10_rule 185 = .ok (.iload_n 1, 1) := by decide +kernel
theorem dX10_rule_186 : decode cX10_rule 186 = .ok (.aload_n 0, 1) := by decide +kernel
theorem dX10_rule_187 : decode cX10_rule 187 = .ok (.invokevirtual 160, 3) := by decide +kernel
theorem dX10_rule_190 : decode cX10_rule 190 = .ok (.iastore, 1) := by decide +kernel
theorem dX10_rule_191 : decode cX10_rule 191 = .ok (.aload_n 0, 1) := by decide +kernel
theorem dX10_rule_192 : decode cX10_rule 192 = .ok (.invokevirtual 150, 3) := by decide +kernel
theorem dX10_rule_195 : decode cX10_rule 195 = .ok (.aload_n 0, 1) := by decide +kernel
theorem dX10_rule_196 : decode cX10_rule 196 = .ok (.getfield 129, 3) := by decide +kernel
theorem dX10_rule_199 : decode cX10_rule 199 = .ok (.ifCond .ge 20, 3) := by decide +kernel
theorem dX10_rule_202 : decode cX10_rule 202 = .ok (.aload_n 0, 1) := by decide +kernel
theorem dX10_rule_203 : decode cX10_rule 203 = .ok (.invokevirtual 125, 3) := by decide +kernel
theorem dX10_rule_206 : decode cX10_rule 206 = .ok (.bipush 59, 2) := by decide +kernel
theorem dX10_rule_208 : decode cX10_rule 208 = .ok (.if_icmp .eq 11, 3) := by decide +kernel
theorem dX10_rule_211 : decode cX10_rule 211 = .ok (.aload_n 0, 1) := by decide +kernel
theorem dX10_rule_212 : decode cX10_rule 212 = .ok (.aload_n 0, 1) := by decide +kernel
theorem dX10_rule_213 : decode cX10_rule 213 = .ok (.getfield 122, 3) := by decide +kernel
theorem dX10_rule_216 : decode cX10_rule 216 = .ok (.invokevirtual 143, 3) := by decide +kernel
theorem dX10_rule_219 : decode cX10_rule 219 = .ok (.aload_n 0, 1) := by decide +kernel
theorem dX10_rule_220 : decode cX10_rule 220 = .ok (.dup, 1) := by decide +kernel
theorem dX10_rule_221 : decode cX10_rule 221 = .ok (.getfield 122, 3) := by decide +kernel
theorem dX10_rule_224 : decode cX10_rule 224 = .ok (.iconst 1, 1) := by decide +kernel
theorem dX10_rule_225 : decode cX10_rule 225 = .ok (.iadd, 1) := by decide +kernel
theorem dX10_rule_226 : decode cX10_rule 226 = .ok (.putfield 122, 3) := by decide +kernel
theorem dX10_rule_229 : decode cX10_rule 229 = .ok (.aload_n 0, 1) := by decide +kernel
theorem dX10_rule_230 : decode cX10_rule 230 = .ok (.dup, 1) := by decide +kernel
theorem dX10_rule_231 : decode cX10_rule 231 = .ok (.getfield 147, 3) := by decide +kernel
theorem dX10_rule_234 : decode cX10_rule 234 = .ok (.iconst 1, 1) := by decide +kernel
theorem dX10_rule_235 : decode cX10_rule 235 = .ok (.iadd, 1) := by decide +kernel
theorem dX10_rule_236 : decode cX10_rule 236 = .ok (.putfield 147, 3) := by decide +kernel
theorem dX10_rule_239 : decode cX10_rule 239 = .ok (.return_, 1) := by decide +kernel
theorem dX10_isUnary_0 : decode cX10_isUnary 0 = .ok (.aload_n 0, 1) := by decide +kernel
theorem dX10_isUnary_1 : decode cX10_isUnary 1 = .ok (.getfield 43, 3) := by decide +kernel
theorem dX10_isUnary_4 : decode cX10_isUnary 4 = .ok (.iload_n 1, 1) := by decide +kernel
theorem dX10_isUnary_5 : decode cX10_isUnary 5 = .ok (.iaload, 1) := by decide +kernel
theorem dX10_isUnary_6 : decode cX10_isUnary 6 = .ok (.iconst (-1), 1) := by decide +kernel
theorem dX10_isUnary_7 : decode cX10_isUnary 7 = .ok (.if_icmp .ne 18, 3) := by decide +kernel
theorem dX10_isUnary_10 : decode cX10_isUnary 10 = .ok (.aload_n 0, 1) := by decide +kernel
theorem dX10_isUnary_11 : decode cX10_isUnary 11 = .ok (.getfield 40, 3) := by decide +kernel
theorem dX10_isUnary_14 : decode cX10_isUnary 14 = .ok (.iload_n 1, 1) := by decide +kernel
theorem dX10_isUnary_15 : decode cX10_isUnary 15 = .ok (.iaload, 1) := by decide +kernel
theorem dX10_isUnary_16 : decode cX10_isUnary 16 = .ok (.bipush 100, 2) := by decide +kernel
theorem dX10_isUnary_18 : decode cX10_isUnary 18 = .ok (.if_icmp .ge 7, 3) := by decide +kernel
theorem dX10_isUnary_21 : decode cX10_isUnary 21 = .ok (.iconst 1, 1) := by decide +kernel
theorem dX10_isUnary_22 : decode cX10_isUnary 22 = .ok (.goto 4, 3) := by decide +kernel
theorem dX10_isUnary_25 : decode cX10_isUnary 25 = .ok (.iconst 0, 1) := by decide +kernel
theorem dX10_isUnary_26 : decode cX10_isUnary 26 = .ok (.ireturn, 1) := by decide +kernel
theorem dX10_findRings_0 : decode cX10_findRings 0 = .ok (.iconst 0, 1) := by decide +kernel
theorem dX10_findRings_1 : decode cX10_findRings 1 = .ok (.istore_n 1, 1) := by decide +kernel
theorem dX10_findRings_2 : decode cX10_findRings 2 = .ok (.iload_n 1, 1) := by decide +kernel
theorem dX10_findRings_3 : decode cX10_findRings 3 = .ok (.sipush 676, 3) := by decide +kernel
theorem dX10_findRings_6 : decode cX10_findRings 6 = .ok (.if_icmp .ge 16, 3) := by decide +kernel
theorem dX10_findRings_9 : decode cX10_findRings 9 = .ok (.aload_n 0, 1) := by decide +kernel
theorem dX10_findRings_10 : decode cX10_findRings 10 = .ok (.getfield 52, 3) := by decide +kernel
theorem dX10_findRings_13 : decode cX10_findRings 13 = .ok (.iload_n 1, 1) := by decide +kernel
theorem dX10_findRings_14 : decode cX10_findRings 14 = .ok (.iconst 0, 1) := by decide +kernel
theorem dX10_findRings_15 : decode cX10_findRings 15 = .ok (.bastore, 1) := by decide +kernel
theorem dX10_findRings_16 : decode cX10_findRings 16 = .ok (.iinc 1 1, 3) := by decide +kernel
theorem dX10_findRings_19 : decode cX10_findRings 19 = .ok (.goto (-17), 3) := by decide +kernel
theorem dX10_findRings_22 : decode cX10_findRings 22 = .ok (.iconst 0, 1) := by decide +kernel
theorem dX10_findRings_23 : decode cX10_findRings 23 = .ok (.istore_n 1, 1) := by decide +kernel
theorem dX10_findRings_24 : decode cX10_findRings 24 = .ok (.iload_n 1, 1) := by decide +kernel
theorem dX10_findRings_25 : decode cX10_findRings 25 = .ok (.aload_n 0, 1) := by decide +kernel
theorem dX10_findRings_26 : decode cX10_findRings 26 = .ok (.getfield 147, 3) := by decide +kernel
theorem dX10_findRings_29 : decode cX10_findRings 29 = .ok (.if_icmp .ge 39, 3) := by decide +kernel
theorem dX10_findRings_32 : decode cX10_findRings 32 = .ok (.aload_n 0, 1) := by decide +kernel
theorem dX10_findRings_33 : decode cX10_findRings 33 = .ok (.iload_n 1, 1) := by decide +kernel
theorem dX10_findRings_34 : decode cX10_findRings 34 = .ok (.invokevirtual 163, 3) := by decide +kernel
theorem dX10_findRings_37 : decode cX10_findRings 37 = .ok (.ifCond .eq 25, 3) := by decide +kernel
theorem dX10_findRings_40 : decode cX10_findRings 40 = .ok (.aload_n 0, 1) := by decide +kernel
theorem dX10_findRings_41 : decode cX10_findRings 41 = .ok (.getfield 52, 3) := by decide +kernel
theorem dX10_findRings_44 : decode cX10_findRings 44 = .ok (.bipush 26, 2) := by decide +kernel
theorem dX10_findRings_46 : decode cX10_findRings 46 = .ok (.aload_n 0, 1) := by decide +kernel
theorem dX10_findRings_47 : decode cX10_findRings 47 = .ok (.getfield 37, 3) := by decide +kernel
theorem dX10_findRings_50 : decode cX10_findRings 50 = .ok (.iload_n 1, 1) := by decide +kernel
theorem dX10_findRings_51 : decode cX10_findRings 51 = .ok (.iaload, 1) := by decide +kernel
theorem dX10_findRings_52 : decode cX10_findRings 52 = .ok (.imul, 1) := by decide +kernel
theorem dX10_findRings_53 : decode cX10_findRings 53 = .ok (.aload_n 0, 1) := by decide +kernel
theorem dX10_findRings_54 : decode cX10_findRings 54 = .ok (.getfield 40, 3) := by decide +kernel
theorem dX10_findRings_57 : decode cX10_findRings 57 = .ok (.iload_n 1, 1) := by decide +kernel
theorem dX10_findRings_58 : decode cX10_findRings 58 = .ok (.iaload, 1) := by decide +kernel
theorem dX10_findRings_59 : decode cX10_findRings 59 = .ok (.iadd, 1) := by decide +kernel
theorem dX10_findRings_60 : decode cX10_findRings 60 = .ok (.iconst 1, 1) := by decide +kernel
theorem dX10_findRings_61 : decode cX10_findRings 61 = .ok (.bastore, 1) := by decide +kernel
theorem dX10_findRings_62 : decode cX10_findRings 62 = .ok (.iinc 1 1, 3) := by decide +kernel
theorem dX10_findRings_65 : decode cX10_findRings 65 = .ok (.goto (-41), 3) := by decide +kernel
theorem dX10_findRings_68 : decode cX10_findRings 68 = .ok (.iconst 0, 1) := by decide +kernel
theorem dX10_findRings_69 : decode cX10_findRings 69 = .ok (.istore_n 1, 1) := by decide +kernel
theorem dX10_findRings_70 : decode cX10_findRings 70 = .ok (.iload_n 1, 1) := by decide +kernel
theorem dX10_findRings_71 : decode cX10_findRings 71 = .ok (.bipush 26, 2) := by decide +kernel
theorem dX10_findRings_73 : decode cX10_findRings 73 = .ok (.if_icmp .ge 84, 3) := by decide +kernel
theorem dX10_findRings_76 : decode cX10_findRings 76 = .ok (.iconst 0, 1) := by decide +kernel
theorem dX10_findRings_77 : decode cX10_findRings 77 = .ok (.istore_n 2, 1) := by decide +kernel
theorem dX10_findRings_78 : decode cX10_findRings 78 = .ok (.iload_n 2, 1) := by decide +kernel
theorem dX10_findRings_79 : decode cX10_findRings 79 = .ok (.bipush 26, 2) := by decide +kernel
theorem dX10_findRings_81 : decode cX10_findRings 81 = .ok (.if_icmp .ge 70, 3) := by decide +kernel
theorem dX10_findRings_84 : decode cX10_findRings 84 = .ok (.iconst 0, 1) := by decide +kernel
theorem dX10_findRings_85 : decode cX10_findRings 85 = .ok (.istore_n 3, 1) := by decide +kernel
theorem dX10_findRings_86 : decode cX10_findRings 86 = .ok (.iload_n 3, 1) := by decide +kernel
theorem dX10_findRings_87 : decode cX10_findRings 87 = .ok (.bipush 26, 2) := by decide +kernel
theorem dX10_findRings_89 : decode cX10_findRings 89 = .ok (.if_icmp .ge 56, 3) := by decide +kernel
theorem dX10_findRings_92 : decode cX10_findRings 92 = .ok (.aload_n 0, 1) := by decide +kernel
theorem dX10_findRings_93 : decode cX10_findRings 93 = .ok (.getfield 52, 3) := by decide +kernel
theorem dX10_findRings_96 : decode cX10_findRings 96 = .ok (.bipush 26, 2) := by decide +kernel
theorem dX10_findRings_98 : decode cX10_findRings 98 = .ok (.iload_n 2, 1) := by decide +kernel
theorem dX10_findRings_99 : decode cX10_findRings 99 = .ok (.imul, 1) := by decide +kernel
theorem dX10_findRings_100 : decode cX10_findRings 100 = .ok (.iload_n 3, 1) := by decide +kernel
theorem dX10_findRings_101 : decode cX10_findRings 101 = .ok (.iadd, 1) := by decide +kernel
theorem dX10_findRings_102 : decode cX10_findRings 102 = .ok (.dup2, 1) := by decide +kernel
theorem dX10_findRings_103 : decode cX10_findRings 103 = .ok (.baload, 1) := by decide +kernel
theorem dX10_findRings_104 : decode cX10_findRings 104 = .ok (.aload_n 0, 1) := by decide +kernel
theorem dX10_findRings_105 : decode cX10_findRings 105 = .ok (.getfield 52, 3) := by decide +kernel
theorem dX10_findRings_108 : decode cX10_findRings 108 = .ok (.bipush 26, 2) := by decide +kernel
theorem dX10_findRings_110 : decode cX10_findRings 110 = .ok (.iload_n 2, 1) := by decide +kernel
theorem dX10_findRings_111 : decode cX10_findRings 111 = .ok (.imul, 1) := by decide +kernel
theorem dX10_findRings_112 : decode cX10_findRings 112 = .ok (.iload_n 1, 1) := by decide +kernel
theorem dX10_findRings_113 : decode cX10_findRings 113 = .ok (.iadd, 1) := by decide +kernel
theorem dX10_findRings_114 : decode cX10_findRings 114 = .ok (.baload, 1) := by decide +kernel
theorem dX10_findRings_115 : decode cX10_findRings 115 = .ok (.ifCond .eq 21, 3) := by decide +kernel
theorem dX10_findRings_118 : decode cX10_findRings 118 = .ok (.aload_n 0, 1) := by decide +kernel
theorem dX10_findRings_119 : decode cX10_findRings 119 = .ok (.getfield 52, 3) := by decide +kernel
theorem dX10_findRings_122 : decode cX10_findRings 122 = .ok (.bipush 26, 2) := by decide +kernel
theorem dX10_findRings_124 : decode cX10_findRings 124 = .ok (.iload_n 1, 1) := by decide +kernel
theorem dX10_findRings_125 : decode cX10_findRings 125 = .ok (.imul, 1) := by decide +kernel
theorem dX10_findRings_126 : decode cX10_findRings 126 = .ok (.iload_n 3, 1) := by decide +kernel
theorem dX10_findRings_127 : decode cX10_findRings 127 = .ok (.iadd, 1) := by decide +kernel
theorem dX10_findRings_128 : decode cX10_findRings 128 = .ok (.baload, 1) := by decide +kernel
theorem dX10_findRings_129 : decode cX10_findRings 129 = .ok (.ifCond .eq 7, 3) := by decide +kernel
theorem dX10_findRings_132 : decode cX10_findRings 132 = .ok (.iconst 1, 1) := by decide +kernel
theorem dX10_findRings_133 : decode cX10_findRings 133 = .ok (.goto 4, 3) := by decide +kernel
theorem dX10_findRings_136 : decode cX10_findRings 136 = .ok (.iconst 0, 1) := by decide +kernel
theorem dX10_findRings_137 : decode cX10_findRings 137 = .ok (.ior, 1) := by decide +kernel
theorem dX10_findRings_138 : decode cX10_findRings 138 = .ok (.bastore, 1) := by decide +kernel
theorem dX10_findRings_139 : decode cX10_findRings 139 = .ok (.iinc 3 1, 3) := by decide +kernel
theorem dX10_findRings_142 : decode cX10_findRings 142 = .ok (.goto (-56), 3) := by decide +kernel
theorem dX10_findRings_145 : decode cX10_findRings 145 = .ok (.iinc 2 1, 3) := by decide +kernel
theorem dX10_findRings_148 : decode cX10_findRings 148 = .ok (.goto (-70), 3) := by decide +kernel
theorem dX10_findRings_151 : decode cX10_findRings 151 = .ok (.iinc 1 1, 3) := by decide +kernel
theorem dX10_findRings_154 : decode cX10_findRings 154 = .ok (.goto (-84), 3) := by decide +kernel
theorem dX10_findRings_157 : decode cX10_findRings 157 = .ok (.iconst 0, 1) := by decide +kernel
theorem dX10_findRings_158 : decode cX10_findRings 158 = .ok (.istore_n 1, 1) := by decide +kernel
theorem dX10_findRings_159 : decode cX10_findRings 159 = .ok (.iload_n 1, 1) := by decide +kernel
theorem dX10_findRings_160 : decode cX10_findRings 160 = .ok (.aload_n 0, 1) := by decide +kernel
theorem dX10_findRings_161 : decode cX10_findRings 161 = .ok (.getfield 147, 3) := by decide +kernel
theorem dX10_findRings_164 : decode cX10_findRings 164 = .ok (.if_icmp .ge 66, 3) := by decide +kernel
theorem dX10_findRings_167 : decode cX10_findRings 167 = .ok (.aload_n 0, 1) := by decide +kernel
theorem dX10_findRings_168 : decode cX10_findRings 168 = .ok (.iload_n 1, 1) := by decide +kernel
theorem dX10_findRings_169 : decode cX10_findRings 169 = .ok (.invokevirtual 163, 3) := by decide +kernel
theorem dX10_findRings_172 : decode cX10_findRings 172 = .ok (.ifCond .eq 52, 3) := by decide +kernel
theorem dX10_findRings_175 : decode cX10_findRings 175 = .ok (.aload_n 0, 1) := by decide +kernel
theorem dX10_findRings_176 : decode cX10_findRings 176 = .ok (.getfield 40, 3) := by decide +kernel
theorem dX10_findRings_179 : decode cX10_findRings 179 = .ok (.iload_n 1, 1) := by decide +kernel
theorem dX10_findRings_180 : decode cX10_findRings 180 = .ok (.iaload, 1) := by decide +kernel
theorem dX10_findRings_181 : decode cX10_findRings 181 = .ok (.aload_n 0, 1) := by decide +kernel
theorem dX10_findRings_182 : decode cX10_findRings 182 = .ok (.getfield 37, 3) := by decide +kernel
theorem dX10_findRings_185 : decode cX10_findRings 185 = .ok (.iload_n 1, 1) := by decide +kernel
theorem dX10_findRings_186 : decode cX10_findRings 186 = .ok (.iaload, 1) := by decide +kernel
theorem dX10_findRings_187 : decode cX10_findRings 187 = .ok (.if_icmp .eq 27, 3) := by decide +kernel
theorem dX10_findRings_190 : decode cX10_findRings 190 = .ok (.aload_n 0, 1) := by decide +kernel
theorem dX10_findRings_191 : decode cX10_findRings 191 = .ok (.getfield 52, 3) := by decide +kernel
theorem dX10_findRings_194 : decode cX10_findRings 194 = .ok (.bipush 26, 2) := by decide +kernel
theorem dX10_findRings_196 : decode cX10_findRings 196 = .ok (.aload_n 0, 1) := by decide +kernel
theorem dX10_findRings_197 : decode cX10_findRings 197 = .ok (.getfield 40, 3) := by decide +kernel
theorem dX10_findRings_200 : decode cX10_findRings 200 = .ok (.iload_n 1, 1) := by decide +kernel
theorem dX10_findRings_201 : decode cX10_findRings 201 = .ok (.iaload, 1) := by decide +kernel
theorem dX10_findRings_202 : decode cX10_findRings 202 = .ok (.imul, 1) := by decide +kernel
theorem dX10_findRings_203 : decode cX10_findRings 203 = .ok (.aload_n 0, 1) := by decide +kernel
theorem dX10_findRings_204 : decode cX10_findRings 204 = .ok (.getfield 37, 3) := by decide +kernel
theorem dX10_findRings_207 : decode cX10_findRings 207 = .ok (.iload_n 1, 1) := by decide +kernel
theorem dX10_findRings_208 : decode cX10_findRings 208 = .ok (.iaload, 1) := by decide +kernel
theorem dX10_findRings_209 : decode cX10_findRings 209 = .ok (.iadd, 1) := by decide +kernel
theorem dX10_findRings_210 : decode cX10_findRings 210 = .ok (.baload, 1) := by decide +kernel
theorem dX10_findRings_211 : decode cX10_findRings 211 = .ok (.ifCond .eq 13, 3) := by decide +kernel
theorem dX10_findRings_214 : decode cX10_findRings 214 = .ok (.aload_n 0, 1) := by decide +kernel
theorem dX10_findRings_215 : decode cX10_findRings 215 = .ok (.aload_n 0, 1) := by decide +kernel
theorem dX10_findRings_216 : decode cX10_findRings 216 = .ok (.getfield 49, 3) := by decide +kernel
theorem dX10_findRings_219 : decode cX10_findRings 219 = .ok (.iload_n 1, 1) := by decide +kernel
theorem dX10_findRings_220 : decode cX10_findRings 220 = .ok (.iaload, 1) := by decide +kernel
theorem dX10_findRings_221 : decode cX10_findRings 221 = .ok (.invokevirtual 143, 3) := by decide +kernel
theorem dX10_findRings_224 : decode cX10_findRings 224 = .ok (.iinc 1 1, 3) := by decide +kernel
theorem dX10_findRings_227 : decode cX10_findRings 227 = .ok (.goto (-68), 3) := by decide +kernel
theorem dX10_findRings_230 : decode cX10_findRings 230 = .ok (.return_, 1) := by decide +kernel
theorem dX10_grammar_0 : decode cX10_grammar 0 = .ok (.aload_n 0, 1) := by decide +kernel
theorem dX10_grammar_1 : decode cX10_grammar 1 = .ok (.iconst 0, 1) := by decide +kernel
theorem dX10_grammar_2 : decode cX10_grammar 2 = .ok (.putfield 106, 3) := by decide +kernel
theorem dX10_grammar_5 : decode cX10_grammar 5 = .ok (.aload_n 0, 1) := by decide +kernel
theorem dX10_grammar_6 : decode cX10_grammar 6 = .ok (.iconst 0, 1) := by decide +kernel
theorem dX10_grammar_7 : decode cX10_grammar 7 = .ok (.putfield 122, 3) := by decide +kernel
theorem dX10_grammar_10 : decode cX10_grammar 10 = .ok (.aload_n 0, 1) := by decide +kernel
theorem dX10_grammar_11 : decode cX10_grammar 11 = .ok (.iconst (-1), 1) := by decide +kernel
theorem dX10_grammar_12 : decode cX10_grammar 12 = .ok (.putfield 129, 3) := by decide +kernel
theorem dX10_grammar_15 : decode cX10_grammar 15 = .ok (.aload_n 0, 1) := by decide +kernel
theorem dX10_grammar_16 : decode cX10_grammar 16 = .ok (.iconst 0, 1) := by decide +kernel
theorem dX10_grammar_17 : decode cX10_grammar 17 = .ok (.putfield 147, 3) := by decide +kernel
theorem dX10_grammar_20 : decode cX10_grammar 20 = .ok (.aload_n 0, 1) := by decide +kernel
theorem dX10_grammar_21 : decode cX10_grammar 21 = .ok (.invokevirtual 150, 3) := by decide +kernel
theorem dX10_grammar_24 : decode cX10_grammar 24 = .ok (.aload_n 0, 1) := by decide +kernel
theorem dX10_grammar_25 : decode cX10_grammar 25 = .ok (.getfield 122, 3) := by decide +kernel
theorem dX10_grammar_28 : decode cX10_grammar 28 = .ok (.aload_n 0, 1) := by decide +kernel
theorem dX10_grammar_29 : decode cX10_grammar 29 = .ok (.getfield 117, 3) := by decide +kernel
theorem dX10_grammar_32 : decode cX10_grammar 32 = .ok (.if_icmp .ne 11, 3) := by decide +kernel
theorem dX10_grammar_35 : decode cX10_grammar 35 = .ok (.aload_n 0, 1) := by decide +kernel
theorem dX10_grammar_36 : decode cX10_grammar 36 = .ok (.aload_n 0, 1) := by decide +kernel
theorem dX10_grammar_37 : decode cX10_grammar 37 = .ok (.getfield 122, 3) := by decide +kernel
theorem dX10_grammar_40 : decode cX10_grammar 40 = .ok (.invokevirtual 143, 3) := by decide +kernel
theorem dX10_grammar_43 : decode cX10_grammar 43 = .ok (.aload_n 0, 1) := by decide +kernel
theorem dX10_grammar_44 : decode cX10_grammar 44 = .ok (.getfield 129, 3) := by decide +kernel
theorem dX10_grammar_47 : decode cX10_grammar 47 = .ok (.ifCond .ge 45, 3) := by decide +kernel
theorem dX10_grammar_50 : decode cX10_grammar 50 = .ok (.aload_n 0, 1) := by decide +kernel
theorem dX10_grammar_51 : decode cX10_grammar 51 = .ok (.getfield 122, 3) := by decide +kernel
theorem dX10_grammar_54 : decode cX10_grammar 54 = .ok (.aload_n 0, 1) := by decide +kernel
theorem dX10_grammar_55 : decode cX10_grammar 55 = .ok (.getfield 117, 3) := by decide +kernel
theorem dX10_grammar_58 : decode cX10_grammar 58 = .ok (.if_icmp .ge 34, 3) := by decide +kernel
theorem dX10_grammar_61 : decode cX10_grammar 61 = .ok (.aload_n 0, 1) := by decide +kernel
theorem dX10_grammar_62 : decode cX10_grammar 62 = .ok (.getfield 147, 3) := by decide +kernel
theorem dX10_grammar_65 : decode cX10_grammar 65 = .ok (.bipush 60, 2) := by decide +kernel
theorem dX10_grammar_67 : decode cX10_grammar 67 = .ok (.if_icmp .ne 14, 3) := by decide +kernel
theorem dX10_grammar_70 : decode cX10_grammar 70 = .ok (.aload_n 0, 1) := by decide +kernel
theorem dX10_grammar_71 : decode cX10_grammar 71 = .ok (.aload_n 0, 1) := by decide +kernel
theorem dX10_grammar_72 : decode cX10_grammar 72 = .ok (.getfield 122, 3) := by decide +kernel
theorem dX10_grammar_75 : decode cX10_grammar 75 = .ok (.invokevirtual 143, 3) := by decide +kernel
theorem dX10_grammar_78 : decode cX10_grammar 78 = .ok (.goto (-35), 3) := by decide +kernel
theorem dX10_grammar_81 : decode cX10_grammar 81 = .ok (.aload_n 0, 1) := by decide +kernel
theorem dX10_grammar_82 : decode cX10_grammar 82 = .ok (.invokevirtual 166, 3) := by decide +kernel
theorem dX10_grammar_85 : decode cX10_grammar 85 = .ok (.aload_n 0, 1) := by decide +kernel
theorem dX10_grammar_86 : decode cX10_grammar 86 = .ok (.invokevirtual 150, 3) := by decide +kernel
theorem dX10_grammar_89 : decode cX10_grammar 89 = .ok (.goto (-46), 3) := by decide +kernel
theorem dX10_grammar_92 : decode cX10_grammar 92 = .ok (.aload_n 0, 1) := by decide +kernel
theorem dX10_grammar_93 : decode cX10_grammar 93 = .ok (.getfield 129, 3) := by decide +kernel
theorem dX10_grammar_96 : decode cX10_grammar 96 = .ok (.ifCond .ge 7, 3) := by decide +kernel
theorem dX10_grammar_99 : decode cX10_grammar 99 = .ok (.aload_n 0, 1) := by decide +kernel
theorem dX10_grammar_100 : decode cX10_grammar 100 = .ok (.invokevirtual 169, 3) := by decide +kernel
theorem dX10_grammar_103 : decode cX10_grammar 103 = .ok (.aload_n 0, 1) := by decide +kernel
theorem dX10_grammar_104 : decode cX10_grammar 104 = .ok (.iconst 0, 1) := by decide +kernel
theorem dX10_grammar_105 : decode cX10_grammar 105 = .ok (.putfield 117, 3) := by decide +kernel
theorem dX10_grammar_108 : decode cX10_grammar 108 = .ok (.aload_n 0, 1) := by decide +kernel
theorem dX10_grammar_109 : decode cX10_grammar 109 = .ok (.getfield 129, 3) := by decide +kernel
theorem dX10_grammar_112 : decode cX10_grammar 112 = .ok (.ifCond .lt 11, 3) := by decide +kernel
theorem dX10_grammar_115 : decode cX10_grammar 115 = .ok (.bipush (-2), 2) := by decide +kernel
theorem dX10_grammar_117 : decode cX10_grammar 117 = .ok (.aload_n 0, 1) := by decide +kernel
theorem dX10_grammar_118 : decode cX10_grammar 118 = .ok (.getfield 129, 3) := by decide +kernel
theorem dX10_grammar_121 : decode cX10_grammar 121 = .ok (.isub, 1) := by decide +kernel
theorem dX10_grammar_122 : decode cX10_grammar 122 = .ok (.ireturn, 1) := by decide +kernel
theorem dX10_grammar_123 : decode cX10_grammar 123 = .ok (.aload_n 0, 1) := by decide +kernel
theorem dX10_grammar_124 : decode cX10_grammar 124 = .ok (.aload_n 0, 1) := by decide +kernel
theorem dX10_grammar_125 : decode cX10_grammar 125 = .ok (.getfield 147, 3) := by decide +kernel
theorem dX10_grammar_128 : decode cX10_grammar 128 = .ok (.putfield 172, 3) := by decide +kernel
theorem dX10_grammar_131 : decode cX10_grammar 131 = .ok (.iconst 0, 1) := by decide +kernel
theorem dX10_grammar_132 : decode cX10_grammar 132 = .ok (.istore_n 1, 1) := by decide +kernel
theorem dX10_grammar_133 : decode cX10_grammar 133 = .ok (.iload_n 1, 1) := by decide +kernel
theorem dX10_grammar_134 : decode cX10_grammar 134 = .ok (.aload_n 0, 1) := by decide +kernel
theorem dX10_grammar_135 : decode cX10_grammar 135 = .ok (.getfield 172, 3) := by decide +kernel
theorem dX10_grammar_138 : decode cX10_grammar 138 = .ok (.if_icmp .ge 57, 3) := by decide +kernel
theorem dX10_grammar_141 : decode cX10_grammar 141 = .ok (.aload_n 0, 1) := by decide +kernel
theorem dX10_grammar_142 : decode cX10_grammar 142 = .ok (.getfield 25, 3) := by decide +kernel
theorem dX10_grammar_145 : decode cX10_grammar 145 = .ok (.iload_n 1, 1) := by decide +kernel
theorem dX10_grammar_146 : decode cX10_grammar 146 = .ok (.aload_n 0, 1) := by decide +kernel
theorem dX10_grammar_147 : decode cX10_grammar 147 = .ok (.getfield 37, 3) := by decide +kernel
theorem dX10_grammar_150 : decode cX10_grammar 150 = .ok (.iload_n 1, 1) := by decide +kernel
theorem dX10_grammar_151 : decode cX10_grammar 151 = .ok (.iaload, 1) := by decide +kernel
theorem dX10_grammar_152 : decode cX10_grammar 152 = .ok (.iastore, 1) := by decide +kernel
theorem dX10_grammar_153 : decode cX10_grammar 153 = .ok (.aload_n 0, 1) := by decide +kernel
theorem dX10_grammar_154 : decode cX10_grammar 154 = .ok (.getfield 28, 3) := by decide +kernel
theorem dX10_grammar_157 : decode cX10_grammar 157 = .ok (.iload_n 1, 1) := by decide +kernel
theorem dX10_grammar_158 : decode cX10_grammar 158 = .ok (.aload_n 0, 1) := by decide +kernel
theorem dX10_grammar_159 : decode cX10_grammar 159 = .ok (.getfield 40, 3) := by decide +kernel
theorem dX10_grammar_162 : decode cX10_grammar 162 = .ok (.iload_n 1, 1) := by decide +kernel
theorem dX10_grammar_163 : decode cX10_grammar 163 = .ok (.iaload, 1) := by decide +kernel
theorem dX10_grammar_164 : decode cX10_grammar 164 = .ok (.iastore, 1) := by decide +kernel
theorem dX10_grammar_165 : decode cX10_grammar 165 = .ok (.aload_n 0, 1) := by decide +kernel
theorem dX10_grammar_166 : decode cX10_grammar 166 = .ok (.getfield 31, 3) := by decide +kernel
theorem dX10_grammar_169 : decode cX10_grammar 169 = .ok (.iload_n 1, 1) := by decide +kernel
theorem dX10_grammar_170 : decode cX10_grammar 170 = .ok (.aload_n 0, 1) := by decide +kernel
theorem dX10_grammar_171 : decode cX10_grammar 171 = .ok (.getfield 43, 3) := by decide +kernel
theorem dX10_grammar_174 : decode cX10_grammar 174 = .ok (.iload_n 1, 1) := by decide +kernel
theorem dX10_grammar_175 : decode cX10_grammar 175 = .ok (.iaload, 1) := by decide +kernel
theorem dX10_grammar_176 : decode cX10_grammar 176 = .ok (.iastore, 1) := by decide +kernel
theorem dX10_grammar_177 : decode cX10_grammar 177 = .ok (.aload_n 0, 1) := by decide +kernel
theorem dX10_grammar_178 : decode cX10_grammar 178 = .ok (.getfield 34, 3) := by decide +kernel
theorem dX10_grammar_181 : decode cX10_grammar 181 = .ok (.iload_n 1, 1) := by decide +kernel
theorem dX10_grammar_182 : decode cX10_grammar 182 = .ok (.aload_n 0, 1) := by decide +kernel
theorem dX10_grammar_183 : decode cX10_grammar 183 = .ok (.getfield 46, 3) := by decide +kernel
theorem dX10_grammar_186 : decode cX10_grammar 186 = .ok (.iload_n 1, 1) := by decide +kernel
theorem dX10_grammar_187 : decode cX10_grammar 187 = .ok (.iaload, 1) := by decide +kernel
theorem dX10_grammar_188 : decode cX10_grammar 188 = .ok (.iastore, 1) := by decide +kernel
theorem dX10_grammar_189 : decode cX10_grammar 189 = .ok (.iinc 1 1, 3) := by decide +kernel
theorem dX10_grammar_192 : decode cX10_grammar 192 = .ok (.goto (-59), 3) := by decide +kernel
theorem dX10_grammar_195 : decode cX10_grammar 195 = .ok (.aload_n 0, 1) := by decide +kernel
theorem dX10_grammar_196 : decode cX10_grammar 196 = .ok (.getfield 172, 3) := by decide +kernel
theorem dX10_grammar_199 : decode cX10_grammar 199 = .ok (.ireturn, 1) := by decide +kernel
theorem dX10_slot_0 : decode cX10_slot 0 = .ok (.aload_n 0, 1) := by decide +kernel
theorem dX10_slot_1 : decode cX10_slot 1 = .ok (.iconst 0, 1) := by decide +kernel
theorem dX10_slot_2 : decode cX10_slot 2 = .ok (.putfield 106, 3) := by decide +kernel
theorem dX10_slot_5 : decode cX10_slot 5 = .ok (.aload_n 0, 1) := by decide +kernel
theorem dX10_slot_6 : decode cX10_slot 6 = .ok (.getfield 175, 3) := by decide +kernel
theorem dX10_slot_9 : decode cX10_slot 9 = .ok (.bipush 24, 2) := by decide +kernel
theorem dX10_slot_11 : decode cX10_slot 11 = .ok (.if_icmp .eq 49, 3) := by decide +kernel
theorem dX10_slot_14 : decode cX10_slot 14 = .ok (.iload_n 1, 1) := by decide +kernel
theorem dX10_slot_15 : decode cX10_slot 15 = .ok (.iconst 1, 1) := by decide +kernel
theorem dX10_slot_16 : decode cX10_slot 16 = .ok (.if_icmp .lt 44, 3) := by decide +kernel
theorem dX10_slot_19 : decode cX10_slot 19 = .ok (.iload_n 1, 1) := by decide +kernel
theorem dX10_slot_20 : decode cX10_slot 20 = .ok (.sipush 4095, 3) := by decide +kernel
theorem dX10_slot_23 : decode cX10_slot 23 = .ok (.if_icmp .gt 37, 3) := by decide +kernel
theorem dX10_slot_26 : decode cX10_slot 26 = .ok (.iload_n 2, 1) := by decide +kernel
theorem dX10_slot_27 : decode cX10_slot 27 = .ok (.iconst (-1), 1) := by decide +kernel
theorem dX10_slot_28 : decode cX10_slot 28 = .ok (.if_icmp .eq 21, 3) := by decide +kernel
theorem dX10_slot_31 : decode cX10_slot 31 = .ok (.iload_n 2, 1) := by decide +kernel
theorem dX10_slot_32 : decode cX10_slot 32 = .ok (.ifCond .lt 28, 3) := by decide +kernel
theorem dX10_slot_35 : decode cX10_slot 35 = .ok (.iload_n 2, 1) := by decide +kernel
theorem dX10_slot_36 : decode cX10_slot 36 = .ok (.bipush 11, 2) := by decide +kernel
theorem dX10_slot_38 : decode cX10_slot 38 = .ok (.if_icmp .gt 22, 3) := by decide +kernel
theorem dX10_slot_41 : decode cX10_slot 41 = .ok (.iload_n 1, 1) := by decide +kernel
theorem dX10_slot_42 : decode cX10_slot 42 = .ok (.iload_n 2, 1) := by decide +kernel
theorem dX10_slot_43 : decode cX10_slot 43 = .ok (.ishr, 1) := by decide +kernel
theorem dX10_slot_44 : decode cX10_slot 44 = .ok (.iconst 1, 1) := by decide +kernel
theorem dX10_slot_45 : decode cX10_slot 45 = .ok (.iand, 1) := by decide +kernel
theorem dX10_slot_46 : decode cX10_slot 46 = .ok (.ifCond .eq 14, 3) := by decide +kernel
theorem dX10_slot_49 : decode cX10_slot 49 = .ok (.iload_n 3, 1) := by decide +kernel
theorem dX10_slot_50 : decode cX10_slot 50 = .ok (.iconst (-1), 1) := by decide +kernel
theorem dX10_slot_51 : decode cX10_slot 51 = .ok (.if_icmp .lt 9, 3) := by decide +kernel
theorem dX10_slot_54 : decode cX10_slot 54 = .ok (.iload_n 3, 1) := by decide +kernel
theorem dX10_slot_55 : decode cX10_slot 55 = .ok (.bipush 127, 2) := by decide +kernel
theorem dX10_slot_57 : decode cX10_slot 57 = .ok (.if_icmp .le 5, 3) := by decide +kernel
theorem dX10_slot_60 : decode cX10_slot 60 = .ok (.iconst (-1), 1) := by decide +kernel
theorem dX10_slot_61 : decode cX10_slot 61 = .ok (.ireturn, 1) := by decide +kernel
theorem dX10_slot_62 : decode cX10_slot 62 = .ok (.aload_n 0, 1) := by decide +kernel
theorem dX10_slot_63 : decode cX10_slot 63 = .ok (.getfield 16, 3) := by decide +kernel
theorem dX10_slot_66 : decode cX10_slot 66 = .ok (.aload_n 0, 1) := by decide +kernel
theorem dX10_slot_67 : decode cX10_slot 67 = .ok (.getfield 175, 3) := by decide +kernel
theorem dX10_slot_70 : decode cX10_slot 70 = .ok (.iload_n 1, 1) := by decide +kernel
theorem dX10_slot_71 : decode cX10_slot 71 = .ok (.iastore, 1) := by decide +kernel
theorem dX10_slot_72 : decode cX10_slot 72 = .ok (.aload_n 0, 1) := by decide +kernel
theorem dX10_slot_73 : decode cX10_slot 73 = .ok (.getfield 19, 3) := by decide +kernel
theorem dX10_slot_76 : decode cX10_slot 76 = .ok (.aload_n 0, 1) := by decide +kernel
theorem dX10_slot_77 : decode cX10_slot 77 = .ok (.getfield 175, 3) := by decide +kernel
theorem dX10_slot_80 : decode cX10_slot 80 = .ok (.iload_n 2, 1) := by decide +kernel
theorem dX10_slot_81 : decode cX10_slot 81 = .ok (.iastore, 1) := by decide +kernel
theorem dX10_slot_82 : decode cX10_slot 82 = .ok (.aload_n 0, 1) := by decide +kernel
theorem dX10_slot_83 : decode cX10_slot 83 = .ok (.getfield 22, 3) := by decide +kernel
theorem dX10_slot_86 : decode cX10_slot 86 = .ok (.aload_n 0, 1) := by decide +kernel
theorem dX10_slot_87 : decode cX10_slot 87 = .ok (.getfield 175, 3) := by decide +kernel
theorem dX10_slot_90 : decode cX10_slot 90 = .ok (.iload_n 3, 1) := by decide +kernel
theorem dX10_slot_91 : decode cX10_slot 91 = .ok (.iastore, 1) := by decide +kernel
theorem dX10_slot_92 : decode cX10_slot 92 = .ok (.aload_n 0, 1) := by decide +kernel
theorem dX10_slot_93 : decode cX10_slot 93 = .ok (.dup, 1) := by decide +kernel
theorem dX10_slot_94 : decode cX10_slot 94 = .ok (.getfield 175, 3) := by decide +kernel
theorem dX10_slot_97 : decode cX10_slot 97 = .ok (.iconst 1, 1) := by decide +kernel
theorem dX10_slot_98 : decode cX10_slot 98 = .ok (.iadd, 1) := by decide +kernel
theorem dX10_slot_99 : decode cX10_slot 99 = .ok (.putfield 175, 3) := by decide +kernel
theorem dX10_slot_102 : decode cX10_slot 102 = .ok (.aload_n 0, 1) := by decide +kernel
theorem dX10_slot_103 : decode cX10_slot 103 = .ok (.getfield 175, 3) := by decide +kernel
theorem dX10_slot_106 : decode cX10_slot 106 = .ok (.iconst 1, 1) := by decide +kernel
theorem dX10_slot_107 : decode cX10_slot 107 = .ok (.isub, 1) := by decide +kernel
theorem dX10_slot_108 : decode cX10_slot 108 = .ok (.ireturn, 1) := by decide +kernel
theorem dX10_clear_0 : decode cX10_clear 0 = .ok (.aload_n 0, 1) := by decide +kernel
theorem dX10_clear_1 : decode cX10_clear 1 = .ok (.iconst 0, 1) := by decide +kernel
theorem dX10_clear_2 : decode cX10_clear 2 = .ok (.putfield 106, 3) := by decide +kernel
theorem dX10_clear_5 : decode cX10_clear 5 = .ok (.aload_n 0, 1) := by decide +kernel
theorem dX10_clear_6 : decode cX10_clear 6 = .ok (.getfield 175, 3) := by decide +kernel
theorem dX10_clear_9 : decode cX10_clear 9 = .ok (.istore_n 1, 1) := by decide +kernel
theorem dX10_clear_10 : decode cX10_clear 10 = .ok (.aload_n 0, 1) := by decide +kernel
theorem dX10_clear_11 : decode cX10_clear 11 = .ok (.iconst 0, 1) := by decide +kernel
theorem dX10_clear_12 : decode cX10_clear 12 = .ok (.putfield 175, 3) := by decide +kernel
theorem dX10_clear_15 : decode cX10_clear 15 = .ok (.iload_n 1, 1) := by decide +kernel
theorem dX10_clear_16 : decode cX10_clear 16 = .ok (.ireturn, 1) := by decide +kernel
theorem dX10_shape_0 : decode cX10_shape 0 = .ok (.iload_n 0, 1) := by decide +kernel
theorem dX10_shape_1 : decode cX10_shape 1 = .ok (.tableswitch 78 0 7 #[47, 51, 55, 58, 62, 66, 70, 74], 47) := by decide +kernel
theorem dX10_shape_48 : decode cX10_shape 48 = .ok (.sipush 145, 3) := by decide +kernel
theorem dX10_shape_51 : decode cX10_shape 51 = .ok (.ireturn, 1) := by decide +kernel
theorem dX10_shape_52 : decode cX10_shape 52 = .ok (.sipush 137, 3) := by decide +kernel
theorem dX10_shape_55 : decode cX10_shape 55 = .ok (.ireturn, 1) := by decide +kernel
theorem dX10_shape_56 : decode cX10_shape 56 = .ok (.bipush 73, 2) := by decide +kernel
theorem dX10_shape_58 : decode cX10_shape 58 = .ok (.ireturn, 1) := by decide +kernel
theorem dX10_shape_59 : decode cX10_shape 59 = .ok (.sipush 273, 3) := by decide +kernel
theorem dX10_shape_62 : decode cX10_shape 62 = .ok (.ireturn, 1) := by decide +kernel
theorem dX10_shape_63 : decode cX10_shape 63 = .ok (.sipush 1169, 3) := by decide +kernel
theorem dX10_shape_66 : decode cX10_shape 66 = .ok (.ireturn, 1) := by decide +kernel
theorem dX10_shape_67 : decode cX10_shape 67 = .ok (.sipush 2193, 3) := by decide +kernel
theorem dX10_shape_70 : decode cX10_shape 70 = .ok (.ireturn, 1) := by decide +kernel
theorem dX10_shape_71 : decode cX10_shape 71 = .ok (.sipush 1161, 3) := by decide +kernel
theorem dX10_shape_74 : decode cX10_shape 74 = .ok (.ireturn, 1) := by decide +kernel
theorem dX10_shape_75 : decode cX10_shape 75 = .ok (.sipush 1097, 3) := by decide +kernel
theorem dX10_shape_78 : decode cX10_shape 78 = .ok (.ireturn, 1) := by decide +kernel
theorem dX10_shape_79 : decode cX10_shape 79 = .ok (.sipush 585, 3) := by decide +kernel
theorem dX10_shape_82 : decode cX10_shape 82 = .ok (.ireturn, 1) := by decide +kernel
theorem dX10_classes_0 : decode cX10_classes 0 = .ok (.iload_n 1, 1) := by decide +kernel
theorem dX10_classes_1 : decode cX10_classes 1 = .ok (.invokestatic 178, 3) := by decide +kernel
theorem dX10_classes_4 : decode cX10_classes 4 = .ok (.iload_n 0, 1) := by decide +kernel
theorem dX10_classes_5 : decode cX10_classes 5 = .ok (.ishl, 1) := by decide +kernel
theorem dX10_classes_6 : decode cX10_classes 6 = .ok (.istore_n 2, 1) := by decide +kernel
theorem dX10_classes_7 : decode cX10_classes 7 = .ok (.iload_n 2, 1) := by decide +kernel
theorem dX10_classes_8 : decode cX10_classes 8 = .ok (.iload_n 2, 1) := by decide +kernel
theorem dX10_classes_9 : decode cX10_classes 9 = .ok (.bipush 12, 2) := by decide +kernel
theorem dX10_classes_11 : decode cX10_classes 11 = .ok (.ishr, 1) := by decide +kernel
theorem dX10_classes_12 : decode cX10_classes 12 = .ok (.ior, 1) := by decide +kernel
theorem dX10_classes_13 : decode cX10_classes 13 = .ok (.sipush 4095, 3) := by decide +kernel
theorem dX10_classes_16 : decode cX10_classes 16 = .ok (.iand, 1) := by decide +kernel
theorem dX10_classes_17 : decode cX10_classes 17 = .ok (.ireturn, 1) := by decide +kernel
theorem dX10_many_0 : decode cX10_many 0 = .ok (.iconst 0, 1) := by decide +kernel
theorem dX10_many_1 : decode cX10_many 1 = .ok (.istore_n 1, 1) := by decide +kernel
theorem dX10_many_2 : decode cX10_many 2 = .ok (.iload_n 0, 1) := by decide +kernel
theorem dX10_many_3 : decode cX10_many 3 = .ok (.istore_n 2, 1) := by decide +kernel
theorem dX10_many_4 : decode cX10_many 4 = .ok (.iload_n 2, 1) := by decide +kernel
theorem dX10_many_5 : decode cX10_many 5 = .ok (.ifCond .le 16, 3) := by decide +kernel
theorem dX10_many_8 : decode cX10_many 8 = .ok (.iload_n 1, 1) := by decide +kernel
theorem dX10_many_9 : decode cX10_many 9 = .ok (.iload_n 2, 1) := by decide +kernel
theorem dX10_many_10 : decode cX10_many 10 = .ok (.iconst 1, 1) := by decide +kernel
theorem dX10_many_11 : decode cX10_many 11 = .ok (.iand, 1) := by decide +kernel
theorem dX10_many_12 : decode cX10_many 12 = .ok (.iadd, 1) := by decide +kernel
theorem dX10_many_13 : decode cX10_many 13 = .ok (.istore_n 1, 1) := by decide +kernel
theorem dX10_many_14 : decode cX10_many 14 = .ok (.iload_n 2, 1) := by decide +kernel
theorem dX10_many_15 : decode cX10_many 15 = .ok (.iconst 1, 1) := by decide +kernel
theorem dX10_many_16 : decode cX10_many 16 = .ok (.ishr, 1) := by decide +kernel
theorem dX10_many_17 : decode cX10_many 17 = .ok (.istore_n 2, 1) := by decide +kernel
theorem dX10_many_18 : decode cX10_many 18 = .ok (.goto (-14), 3) := by decide +kernel
theorem dX10_many_21 : decode cX10_many 21 = .ok (.iload_n 1, 1) := by decide +kernel
theorem dX10_many_22 : decode cX10_many 22 = .ok (.ireturn, 1) := by decide +kernel
theorem dX10_fits_0 : decode cX10_fits 0 = .ok (.iload_n 2, 1) := by decide +kernel
theorem dX10_fits_1 : decode cX10_fits 1 = .ok (.iload_n 3, 1) := by decide +kernel
theorem dX10_fits_2 : decode cX10_fits 2 = .ok (.invokestatic 181, 3) := by decide +kernel
theorem dX10_fits_5 : decode cX10_fits 5 = .ok (.istore 4, 2) := by decide +kernel
theorem dX10_fits_7 : decode cX10_fits 7 = .ok (.iload 4, 2) := by decide +kernel
theorem dX10_fits_9 : decode cX10_fits 9 = .ok (.aload_n 0, 1) := by decide +kernel
theorem dX10_fits_10 : decode cX10_fits 10 = .ok (.getfield 16, 3) := by decide +kernel
theorem dX10_fits_13 : decode cX10_fits 13 = .ok (.iload_n 1, 1) := by decide +kernel
theorem dX10_fits_14 : decode cX10_fits 14 = .ok (.iaload, 1) := by decide +kernel
theorem dX10_fits_15 : decode cX10_fits 15 = .ok (.iand, 1) := by decide +kernel
theorem dX10_fits_16 : decode cX10_fits 16 = .ok (.invokestatic 185, 3) := by decide +kernel
theorem dX10_fits_19 : decode cX10_fits 19 = .ok (.istore 5, 2) := by decide +kernel
theorem dX10_fits_21 : decode cX10_fits 21 = .ok (.iload 5, 2) := by decide +kernel
theorem dX10_fits_23 : decode cX10_fits 23 = .ok (.iconst 2, 1) := by decide +kernel
theorem dX10_fits_24 : decode cX10_fits 24 = .ok (.if_icmp .ge 5, 3) := by decide +kernel
theorem dX10_fits_27 : decode cX10_fits 27 = .ok (.iconst (-1), 1) := by decide +kernel
theorem dX10_fits_28 : decode cX10_fits 28 = .ok (.ireturn, 1) := by decide +kernel
theorem dX10_fits_29 : decode cX10_fits 29 = .ok (.aload_n 0, 1) := by decide +kernel
theorem dX10_fits_30 : decode cX10_fits 30 = .ok (.getfield 19, 3) := by decide +kernel
theorem dX10_fits_33 : decode cX10_fits 33 = .ok (.iload_n 1, 1) := by decide +kernel
theorem dX10_fits_34 : decode cX10_fits 34 = .ok (.iaload, 1) := by decide +kernel
theorem dX10_fits_35 : decode cX10_fits 35 = .ok (.istore 6, 2) := by decide +kernel
theorem dX10_fits_37 : decode cX10_fits 37 = .ok (.iload 6, 2) := by decide +kernel
theorem dX10_fits_39 : decode cX10_fits 39 = .ok (.iconst (-1), 1) := by decide +kernel
theorem dX10_fits_40 : decode cX10_fits 40 = .ok (.if_icmp .eq 9, 3) := by decide +kernel
theorem dX10_fits_43 : decode cX10_fits 43 = .ok (.iload 6, 2) := by decide +kernel
theorem dX10_fits_45 : decode cX10_fits 45 = .ok (.iload_n 2, 1) := by decide +kernel
theorem dX10_fits_46 : decode cX10_fits 46 = .ok (.if_icmp .ne 7, 3) := by decide +kernel
theorem dX10_fits_49 : decode cX10_fits 49 = .ok (.iconst 0, 1) := by decide +kernel
theorem dX10_fits_50 : decode cX10_fits 50 = .ok (.goto 29, 3) := by decide +kernel
theorem dX10_fits_53 : decode cX10_fits 53 = .ok (.iload 4, 2) := by decide +kernel
theorem dX10_fits_55 : decode cX10_fits 55 = .ok (.iload 6, 2) := by decide +kernel
theorem dX10_fits_57 : decode cX10_fits 57 = .ok (.ishr, 1) := by decide +kernel
theorem dX10_fits_58 : decode cX10_fits 58 = .ok (.iconst 1, 1) := by decide +kernel
theorem dX10_fits_59 : decode cX10_fits 59 = .ok (.iand, 1) := by decide +kernel
theorem dX10_fits_60 : decode cX10_fits 60 = .ok (.iconst 1, 1) := by decide +kernel
theorem dX10_fits_61 : decode cX10_fits 61 = .ok (.if_icmp .ne 12, 3) := by decide +kernel
theorem dX10_fits_64 : decode cX10_fits 64 = .ok (.aload_n 0, 1) := by decide +kernel
theorem dX10_fits_65 : decode cX10_fits 65 = .ok (.getfield 7, 3) := by decide +kernel
theorem dX10_fits_68 : decode cX10_fits 68 = .ok (.iconst 2, 1) := by decide +kernel
theorem dX10_fits_69 : decode cX10_fits 69 = .ok (.iaload, 1) := by decide +kernel
theorem dX10_fits_70 : decode cX10_fits 70 = .ok (.goto 9, 3) := by decide +kernel
theorem dX10_fits_73 : decode cX10_fits 73 = .ok (.aload_n 0, 1) := by decide +kernel
theorem dX10_fits_74 : decode cX10_fits 74 = .ok (.getfield 7, 3) := by decide +kernel
theorem dX10_fits_77 : decode cX10_fits 77 = .ok (.iconst 3, 1) := by decide +kernel
theorem dX10_fits_78 : decode cX10_fits 78 = .ok (.iaload, 1) := by decide +kernel
theorem dX10_fits_79 : decode cX10_fits 79 = .ok (.istore 7, 2) := by decide +kernel
theorem dX10_fits_81 : decode cX10_fits 81 = .ok (.aload_n 0, 1) := by decide +kernel
theorem dX10_fits_82 : decode cX10_fits 82 = .ok (.getfield 7, 3) := by decide +kernel
theorem dX10_fits_85 : decode cX10_fits 85 = .ok (.iconst 0, 1) := by decide +kernel
theorem dX10_fits_86 : decode cX10_fits 86 = .ok (.iaload, 1) := by decide +kernel
theorem dX10_fits_87 : decode cX10_fits 87 = .ok (.aload_n 0, 1) := by decide +kernel
theorem dX10_fits_88 : decode cX10_fits 88 = .ok (.getfield 16, 3) := by decide +kernel
theorem dX10_fits_91 : decode cX10_fits 91 = .ok (.iload_n 1, 1) := by decide +kernel
theorem dX10_fits_92 : decode cX10_fits 92 = .ok (.iaload, 1) := by decide +kernel
theorem dX10_fits_93 : decode cX10_fits 93 = .ok (.iload 4, 2) := by decide +kernel
theorem dX10_fits_95 : decode cX10_fits 95 = .ok (.iconst (-1), 1) := by decide +kernel
theorem dX10_fits_96 : decode cX10_fits 96 = .ok (.ixor, 1) := by decide +kernel
theorem dX10_fits_97 : decode cX10_fits 97 = .ok (.iand, 1) := by decide +kernel
theorem dX10_fits_98 : decode cX10_fits 98 = .ok (.invokestatic 185, 3) := by decide +kernel
theorem dX10_fits_101 : decode cX10_fits 101 = .ok (.imul, 1) := by decide +kernel
theorem dX10_fits_102 : decode cX10_fits 102 = .ok (.aload_n 0, 1) := by decide +kernel
theorem dX10_fits_103 : decode cX10_fits 103 = .ok (.getfield 7, 3) := by decide +kernel
theorem dX10_fits_106 : decode cX10_fits 106 = .ok (.iconst 1, 1) := by decide +kernel
theorem dX10_fits_107 : decode cX10_fits 107 = .ok (.iaload, 1) := by decide +kernel
theorem dX10_fits_108 : decode cX10_fits 108 = .ok (.iload 4, 2) := by decide +kernel
theorem dX10_fits_110 : decode cX10_fits 110 = .ok (.aload_n 0, 1) := by decide +kernel
theorem dX10_fits_111 : decode cX10_fits 111 = .ok (.getfield 16, 3) := by decide +kernel
theorem dX10_fits_114 : decode cX10_fits 114 = .ok (.iload_n 1, 1) := by decide +kernel
theorem dX10_fits_115 : decode cX10_fits 115 = .ok (.iaload, 1) := by decide +kernel
theorem dX10_fits_116 : decode cX10_fits 116 = .ok (.iconst (-1), 1) := by decide +kernel
theorem dX10_fits_117 : decode cX10_fits 117 = .ok (.ixor, 1) := by decide +kernel
theorem dX10_fits_118 : decode cX10_fits 118 = .ok (.iand, 1) := by decide +kernel
theorem dX10_fits_119 : decode cX10_fits 119 = .ok (.invokestatic 185, 3) := by decide +kernel
theorem dX10_fits_122 : decode cX10_fits 122 = .ok (.imul, 1) := by decide +kernel
theorem dX10_fits_123 : decode cX10_fits 123 = .ok (.iadd, 1) := by decide +kernel
theorem dX10_fits_124 : decode cX10_fits 124 = .ok (.iload 7, 2) := by decide +kernel
theorem dX10_fits_126 : decode cX10_fits 126 = .ok (.iadd, 1) := by decide +kernel
theorem dX10_fits_127 : decode cX10_fits 127 = .ok (.ireturn, 1) := by decide +kernel
theorem dX10_fit_0 : decode cX10_fit 0 = .ok (.aload_n 0, 1) := by decide +kernel
theorem dX10_fit_1 : decode cX10_fit 1 = .ok (.iconst 0, 1) := by decide +kernel
theorem dX10_fit_2 : decode cX10_fit 2 = .ok (.putfield 106, 3) := by decide +kernel
theorem dX10_fit_5 : decode cX10_fit 5 = .ok (.iload_n 1, 1) := by decide +kernel
theorem dX10_fit_6 : decode cX10_fit 6 = .ok (.ifCond .lt 31, 3) := by decide +kernel
theorem dX10_fit_9 : decode cX10_fit 9 = .ok (.iload_n 1, 1) := by decide +kernel
theorem dX10_fit_10 : decode cX10_fit 10 = .ok (.aload_n 0, 1) := by decide +kernel
theorem dX10_fit_11 : decode cX10_fit 11 = .ok (.getfield 175, 3) := by decide +kernel
theorem dX10_fit_14 : decode cX10_fit 14 = .ok (.if_icmp .ge 23, 3) := by decide +kernel
theorem dX10_fit_17 : decode cX10_fit 17 = .ok (.iload_n 2, 1) := by decide +kernel
theorem dX10_fit_18 : decode cX10_fit 18 = .ok (.ifCond .lt 19, 3) := by decide +kernel
theorem dX10_fit_21 : decode cX10_fit 21 = .ok (.iload_n 2, 1) := by decide +kernel
theorem dX10_fit_22 : decode cX10_fit 22 = .ok (.bipush 11, 2) := by decide +kernel
theorem dX10_fit_24 : decode cX10_fit 24 = .ok (.if_icmp .gt 13, 3) := by decide +kernel
theorem dX10_fit_27 : decode cX10_fit 27 = .ok (.iload_n 3, 1) := by decide +kernel
theorem dX10_fit_28 : decode cX10_fit 28 = .ok (.ifCond .lt 9, 3) := by decide +kernel
theorem dX10_fit_31 : decode cX10_fit 31 = .ok (.iload_n 3, 1) := by decide +kernel
theorem dX10_fit_32 : decode cX10_fit 32 = .ok (.bipush 8, 2) := by decide +kernel
theorem dX10_fit_34 : decode cX10_fit 34 = .ok (.if_icmp .le 7, 3) := by decide +kernel
theorem dX10_fit_37 : decode cX10_fit 37 = .ok (.iconst (-1), 1) := by decide +kernel
theorem dX10_fit_38 : decode cX10_fit 38 = .ok (.goto 10, 3) := by decide +kernel
theorem dX10_fit_41 : decode cX10_fit 41 = .ok (.aload_n 0, 1) := by decide +kernel
theorem dX10_fit_42 : decode cX10_fit 42 = .ok (.iload_n 1, 1) := by decide +kernel
theorem dX10_fit_43 : decode cX10_fit 43 = .ok (.iload_n 2, 1) := by decide +kernel
theorem dX10_fit_44 : decode cX10_fit 44 = .ok (.iload_n 3, 1) := by decide +kernel
theorem dX10_fit_45 : decode cX10_fit 45 = .ok (.invokevirtual 188, 3) := by decide +kernel
theorem dX10_fit_48 : decode cX10_fit 48 = .ok (.ireturn, 1) := by decide +kernel
theorem dX10_best_0 : decode cX10_best 0 = .ok (.aload_n 0, 1) := by decide +kernel
theorem dX10_best_1 : decode cX10_best 1 = .ok (.iconst 0, 1) := by decide +kernel
theorem dX10_best_2 : decode cX10_best 2 = .ok (.putfield 106, 3) := by decide +kernel
theorem dX10_best_5 : decode cX10_best 5 = .ok (.iconst (-1), 1) := by decide +kernel
theorem dX10_best_6 : decode cX10_best 6 = .ok (.istore_n 2, 1) := by decide +kernel
theorem dX10_best_7 : decode cX10_best 7 = .ok (.iconst (-1), 1) := by decide +kernel
theorem dX10_best_8 : decode cX10_best 8 = .ok (.istore_n 3, 1) := by decide +kernel
theorem dX10_best_9 : decode cX10_best 9 = .ok (.iconst 0, 1) := by decide +kernel
theorem dX10_best_10 : decode cX10_best 10 = .ok (.istore 4, 2) := by decide +kernel
theorem dX10_best_12 : decode cX10_best 12 = .ok (.iload 4, 2) := by decide +kernel
theorem dX10_best_14 : decode cX10_best 14 = .ok (.bipush 108, 2) := by decide +kernel
theorem dX10_best_16 : decode cX10_best 16 = .ok (.if_icmp .ge 59, 3) := by decide +kernel
theorem dX10_best_19 : decode cX10_best 19 = .ok (.iload_n 1, 1) := by decide +kernel
theorem dX10_best_20 : decode cX10_best 20 = .ok (.ifCond .lt 55, 3) := by decide +kernel
theorem dX10_best_23 : decode cX10_best 23 = .ok (.iload_n 1, 1) := by decide +kernel
theorem dX10_best_24 : decode cX10_best 24 = .ok (.aload_n 0, 1) := by decide +kernel
theorem dX10_best_25 : decode cX10_best 25 = .ok (.getfield 175, 3) := by decide +kernel
theorem dX10_best_28 : decode cX10_best 28 = .ok (.if_icmp .ge 47, 3) := by decide +kernel
theorem dX10_best_31 : decode cX10_best 31 = .ok (.aload_n 0, 1) := by decide +kernel
theorem dX10_best_32 : decode cX10_best 32 = .ok (.iload_n 1, 1) := by decide +kernel
theorem dX10_best_33 : decode cX10_best 33 = .ok (.iload 4, 2) := by decide +kernel
theorem dX10_best_35 : decode cX10_best 35 = .ok (.bipush 12, 2) := by decide +kernel
theorem dX10_best_37 : decode cX10_best 37 = .ok (.irem, 1) := by decide +kernel
theorem dX10_best_38 : decode cX10_best 38 = .ok (.iload 4, 2) := by decide +kernel
theorem dX10_best_40 : decode cX10_best 40 = .ok (.bipush 12, 2) := by decide +kernel
theorem dX10_best_42 : decode cX10_best 42 = .ok (.idiv, 1) := by decide +kernel
theorem dX10_best_43 : decode cX10_best 43 = .ok (.invokevirtual 188, 3) := by decide +kernel
theorem dX10_best_46 : decode cX10_best 46 = .ok (.istore 5, 2) := by decide +kernel
theorem dX10_best_48 : decode cX10_best 48 = .ok (.iload 5, 2) := by decide +kernel
theorem dX10_best_50 : decode cX10_best 50 = .ok (.ifCond .lt 19, 3) := by decide +kernel
theorem dX10_best_53 : decode cX10_best 53 = .ok (.iload_n 3, 1) := by decide +kernel
theorem dX10_best_54 : decode cX10_best 54 = .ok (.ifCond .lt 9, 3) := by decide +kernel
theorem dX10_best_57 : decode cX10_best 57 = .ok (.iload 5, 2) := by decide +kernel
theorem dX10_best_59 : decode cX10_best 59 = .ok (.iload_n 2, 1) := by decide +kernel
theorem dX10_best_60 : decode cX10_best 60 = .ok (.if_icmp .ge 9, 3) := by decide +kernel
theorem dX10_best_63 : decode cX10_best 63 = .ok (.iload 5, 2) := by decide +kernel
theorem dX10_best_65 : decode cX10_best 65 = .ok (.istore_n 2, 1) := by decide +kernel
theorem dX10_best_66 : decode cX10_best 66 = .ok (.iload 4, 2) := by decide +kernel
theorem dX10_best_68 : decode cX10_best 68 = .ok (.istore_n 3, 1) := by decide +kernel
theorem dX10_best_69 : decode cX10_best 69 = .ok (.iinc 4 1, 3) := by decide +kernel
theorem dX10_best_72 : decode cX10_best 72 = .ok (.goto (-60), 3) := by decide +kernel
theorem dX10_best_75 : decode cX10_best 75 = .ok (.iload_n 3, 1) := by decide +kernel
theorem dX10_best_76 : decode cX10_best 76 = .ok (.ireturn, 1) := by decide +kernel
theorem dX10_degree_0 : decode cX10_degree 0 = .ok (.iload_n 1, 1) := by decide +kernel
theorem dX10_degree_1 : decode cX10_degree 1 = .ok (.tableswitch 76 1 6 #[39, 41, 43, 56, 58, 61], 39) := by decide +kernel
theorem dX10_degree_40 : decode cX10_degree 40 = .ok (.iconst 0, 1) := by decide +kernel
theorem dX10_degree_41 : decode cX10_degree 41 = .ok (.ireturn, 1) := by decide +kernel
theorem dX10_degree_42 : decode cX10_degree 42 = .ok (.iconst 2, 1) := by decide +kernel
theorem dX10_degree_43 : decode cX10_degree 43 = .ok (.ireturn, 1) := by decide +kernel
theorem dX10_degree_44 : decode cX10_degree 44 = .ok (.aload_n 0, 1) := by decide +kernel
theorem dX10_degree_45 : decode cX10_degree 45 = .ok (.getfield 113, 3) := by decide +kernel
theorem dX10_degree_48 : decode cX10_degree 48 = .ok (.ifCond .eq 7, 3) := by decide +kernel
theorem dX10_degree_51 : decode cX10_degree 51 = .ok (.iconst 3, 1) := by decide +kernel
theorem dX10_degree_52 : decode cX10_degree 52 = .ok (.goto 4, 3) := by decide +kernel
theorem dX10_degree_55 : decode cX10_degree 55 = .ok (.iconst 4, 1) := by decide +kernel
theorem dX10_degree_56 : decode cX10_degree 56 = .ok (.ireturn, 1) := by decide +kernel
theorem dX10_degree_57 : decode cX10_degree 57 = .ok (.iconst 5, 1) := by decide +kernel
theorem dX10_degree_58 : decode cX10_degree 58 = .ok (.ireturn, 1) := by decide +kernel
theorem dX10_degree_59 : decode cX10_degree 59 = .ok (.bipush 7, 2) := by decide +kernel
theorem dX10_degree_61 : decode cX10_degree 61 = .ok (.ireturn, 1) := by decide +kernel
theorem dX10_degree_62 : decode cX10_degree 62 = .ok (.aload_n 0, 1) := by decide +kernel
theorem dX10_degree_63 : decode cX10_degree 63 = .ok (.getfield 113, 3) := by decide +kernel
theorem dX10_degree_66 : decode cX10_degree 66 = .ok (.ifCond .eq 8, 3) := by decide +kernel
theorem dX10_degree_69 : decode cX10_degree 69 = .ok (.bipush 8, 2) := by decide +kernel
theorem dX10_degree_71 : decode cX10_degree 71 = .ok (.goto 5, 3) := by decide +kernel
theorem dX10_degree_74 : decode cX10_degree 74 = .ok (.bipush 9, 2) := by decide +kernel
theorem dX10_degree_76 : decode cX10_degree 76 = .ok (.ireturn, 1) := by decide +kernel
theorem dX10_degree_77 : decode cX10_degree 77 = .ok (.aload_n 0, 1) := by decide +kernel
theorem dX10_degree_78 : decode cX10_degree 78 = .ok (.getfield 113, 3) := by decide +kernel
theorem dX10_degree_81 : decode cX10_degree 81 = .ok (.ifCond .eq 8, 3) := by decide +kernel
theorem dX10_degree_84 : decode cX10_degree 84 = .ok (.bipush 10, 2) := by decide +kernel
theorem dX10_degree_86 : decode cX10_degree 86 = .ok (.goto 5, 3) := by decide +kernel
theorem dX10_degree_89 : decode cX10_degree 89 = .ok (.bipush 11, 2) := by decide +kernel
theorem dX10_degree_91 : decode cX10_degree 91 = .ok (.ireturn, 1) := by decide +kernel
theorem dX10_readSymbols_0 : decode cX10_readSymbols 0 = .ok (.bipush 10, 2) := by decide +kernel
theorem dX10_readSymbols_2 : decode cX10_readSymbols 2 = .ok (.istore_n 1, 1) := by decide +kernel
theorem dX10_readSymbols_3 : decode cX10_readSymbols 3 = .ok (.iload_n 1, 1) := by decide +kernel
theorem dX10_readSymbols_4 : decode cX10_readSymbols 4 = .ok (.bipush 80, 2) := by decide +kernel
theorem dX10_readSymbols_6 : decode cX10_readSymbols 6 = .ok (.if_icmp .ge 164, 3) := by decide +kernel
theorem dX10_readSymbols_9 : decode cX10_readSymbols 9 = .ok (.iconst 0, 1) := by decide +kernel
theorem dX10_readSymbols_10 : decode cX10_readSymbols 10 = .ok (.istore_n 2, 1) := by decide +kernel
theorem dX10_readSymbols_11 : decode cX10_readSymbols 11 = .ok (.iload_n 2, 1) := by decide +kernel
theorem dX10_readSymbols_12 : decode cX10_readSymbols 12 = .ok (.aload_n 0, 1) := by decide +kernel
theorem dX10_readSymbols_13 : decode cX10_readSymbols 13 = .ok (.getfield 192, 3) := by decide +kernel
theorem dX10_readSymbols_16 : decode cX10_readSymbols 16 = .ok (.if_icmp .ge 148, 3) := by decide +kernel
theorem dX10_readSymbols_19 : decode cX10_readSymbols 19 = .ok (.aload_n 0, 1) := by decide +kernel
theorem dX10_readSymbols_20 : decode cX10_readSymbols 20 = .ok (.getfield 110, 3) := by decide +kernel
theorem dX10_readSymbols_23 : decode cX10_readSymbols 23 = .ok (.aload_n 0, 1) := by decide +kernel
theorem dX10_readSymbols_24 : decode cX10_readSymbols 24 = .ok (.iload_n 1, 1) := by decide +kernel
theorem dX10_readSymbols_25 : decode cX10_readSymbols 25 = .ok (.bipush 10, 2) := by decide +kernel
theorem dX10_readSymbols_27 : decode cX10_readSymbols 27 = .ok (.idiv, 1) := by decide +kernel
theorem dX10_readSymbols_28 : decode cX10_readSymbols 28 = .ok (.invokevirtual 195, 3) := by decide +kernel
theorem dX10_readSymbols_31 : decode cX10_readSymbols 31 = .ok (.iadd, 1) := by decide +kernel
theorem dX10_readSymbols_32 : decode cX10_readSymbols 32 = .ok (.bipush 12, 2) := by decide +kernel
theorem dX10_readSymbols_34 : decode cX10_readSymbols 34 = .ok (.irem, 1) := by decide +kernel
theorem dX10_readSymbols_35 : decode cX10_readSymbols 35 = .ok (.istore_n 3, 1) := by decide +kernel
theorem dX10_readSymbols_36 : decode cX10_readSymbols 36 = .ok (.bipush 24, 2) := by decide +kernel
theorem dX10_readSymbols_38 : decode cX10_readSymbols 38 = .ok (.iload_n 1, 1) := by decide +kernel
theorem dX10_readSymbols_39 : decode cX10_readSymbols 39 = .ok (.imul, 1) := by decide +kernel
theorem dX10_readSymbols_40 : decode cX10_readSymbols 40 = .ok (.iload_n 2, 1) := by decide +kernel
theorem dX10_readSymbols_41 : decode cX10_readSymbols 41 = .ok (.iadd, 1) := by decide +kernel
theorem dX10_readSymbols_42 : decode cX10_readSymbols 42 = .ok (.istore 4, 2) := by decide +kernel
theorem dX10_readSymbols_44 : decode cX10_readSymbols 44 = .ok (.aload_n 0, 1) := by decide +kernel
theorem dX10_readSymbols_45 : decode cX10_readSymbols 45 = .ok (.getfield 71, 3) := by decide +kernel
theorem dX10_readSymbols_48 : decode cX10_readSymbols 48 = .ok (.iload 4, 2) := by decide +kernel
theorem dX10_readSymbols_50 : decode cX10_readSymbols 50 = .ok (.iconst (-1), 1) := by decide +kernel
theorem dX10_readSymbols_51 : decode cX10_readSymbols 51 = .ok (.iastore, 1) := by decide +kernel
theorem dX10_readSymbols_52 : decode cX10_readSymbols 52 = .ok (.aload_n 0, 1) := by decide +kernel
theorem dX10_readSymbols_53 : decode cX10_readSymbols 53 = .ok (.getfield 74, 3) := by decide +kernel
theorem dX10_readSymbols_56 : decode cX10_readSymbols 56 = .ok (.iload 4, 2) := by decide +kernel
theorem dX10_readSymbols_58 : decode cX10_readSymbols 58 = .ok (.iconst 0, 1) := by decide +kernel
theorem dX10_readSymbols_59 : decode cX10_readSymbols 59 = .ok (.iastore, 1) := by decide +kernel
theorem dX10_readSymbols_60 : decode cX10_readSymbols 60 = .ok (.iconst 0, 1) := by decide +kernel
theorem dX10_readSymbols_61 : decode cX10_readSymbols 61 = .ok (.istore 5, 2) := by decide +kernel
theorem dX10_readSymbols_63 : decode cX10_readSymbols 63 = .ok (.iload 5, 2) := by decide +kernel
theorem dX10_readSymbols_65 : decode cX10_readSymbols 65 = .ok (.bipush 9, 2) := by decide +kernel
theorem dX10_readSymbols_67 : decode cX10_readSymbols 67 = .ok (.if_icmp .ge 91, 3) := by decide +kernel
theorem dX10_readSymbols_70 : decode cX10_readSymbols 70 = .ok (.iload_n 1, 1) := by decide +kernel
theorem dX10_readSymbols_71 : decode cX10_readSymbols 71 = .ok (.bipush 10, 2) := by decide +kernel
theorem dX10_readSymbols_73 : decode cX10_readSymbols 73 = .ok (.irem, 1) := by decide +kernel
theorem dX10_readSymbols_74 : decode cX10_readSymbols 74 = .ok (.ifCond .eq 14, 3) := by decide +kernel
theorem dX10_readSymbols_77 : decode cX10_readSymbols 77 = .ok (.iload_n 1, 1) := by decide +kernel
theorem dX10_readSymbols_78 : decode cX10_readSymbols 78 = .ok (.bipush 10, 2) := by decide +kernel
theorem dX10_readSymbols_80 : decode cX10_readSymbols 80 = .ok (.irem, 1) := by decide +kernel
theorem dX10_readSymbols_81 : decode cX10_readSymbols 81 = .ok (.iload 5, 2) := by decide +kernel
theorem dX10_readSymbols_83 : decode cX10_readSymbols 83 = .ok (.iconst 1, 1) := by decide +kernel
theorem dX10_readSymbols_84 : decode cX10_readSymbols 84 = .ok (.iadd, 1) := by decide +kernel
theorem dX10_readSymbols_85 : decode cX10_readSymbols 85 = .ok (.if_icmp .ne 14, 3) := by decide +kernel
theorem dX10_readSymbols_88 : decode cX10_readSymbols 88 = .ok (.aload_n 0, 1) := by decide +kernel
theorem dX10_readSymbols_89 : decode cX10_readSymbols 89 = .ok (.iload_n 2, 1) := by decide +kernel
theorem dX10_readSymbols_90 : decode cX10_readSymbols 90 = .ok (.iload_n 3, 1) := by decide +kernel
theorem dX10_readSymbols_91 : decode cX10_readSymbols 91 = .ok (.iload 5, 2) := by decide +kernel
theorem dX10_readSymbols_93 : decode cX10_readSymbols 93 = .ok (.invokevirtual 188, 3) := by decide +kernel
theorem dX10_readSymbols_96 : decode cX10_readSymbols 96 = .ok (.goto 4, 3) := by decide +kernel
theorem dX10_readSymbols_99 : decode cX10_readSymbols 99 = .ok (.iconst (-1), 1) := by decide +kernel
theorem dX10_readSymbols_100 : decode cX10_readSymbols 100 = .ok (.istore 6, 2) := by decide +kernel
theorem dX10_readSymbols_102 : decode cX10_readSymbols 102 = .ok (.iload 6, 2) := by decide +kernel
theorem dX10_readSymbols_104 : decode cX10_readSymbols 104 = .ok (.ifCond .lt 48, 3) := by decide +kernel
theorem dX10_readSymbols_107 : decode cX10_readSymbols 107 = .ok (.aload_n 0, 1) := by decide +kernel
theorem dX10_readSymbols_108 : decode cX10_readSymbols 108 = .ok (.getfield 71, 3) := by decide +kernel
theorem dX10_readSymbols_111 : decode cX10_readSymbols 111 = .ok (.iload 4, 2) := by decide +kernel
theorem dX10_readSymbols_113 : decode cX10_readSymbols 113 = .ok (.iaload, 1) := by decide +kernel
theorem dX10_readSymbols_114 : decode cX10_readSymbols 114 = .ok (.ifCond .lt 15, 3) := by decide +kernel
theorem dX10_readSymbols_117 : decode cX10_readSymbols 117 = .ok (.iload 6, 2) := by decide +kernel
theorem dX10_readSymbols_119 : decode cX10_readSymbols 119 = .ok (.aload_n 0, 1) := by decide +kernel
theorem dX10_readSymbols_120 : decode cX10_readSymbols 120 = .ok (.getfield 74, 3) := by decide +kernel
theorem dX10_readSymbols_123 : decode cX10_readSymbols 123 = .ok (.iload 4, 2) := by decide +kernel
theorem dX10_readSymbols_125 : decode cX10_readSymbols 125 = .ok (.iaload, 1) := by decide +kernel
theorem dX10_readSymbols_126 : decode cX10_readSymbols 126 = .ok (.if_icmp .ge 26, 3) := by decide +kernel
theorem dX10_readSymbols_129 : decode cX10_readSymbols 129 = .ok (.aload_n 0, 1) := by decide +kernel
theorem dX10_readSymbols_130 : decode cX10_readSymbols 130 = .ok (.getfield 71, 3) := by decide +kernel
theorem dX10_readSymbols_133 : decode cX10_readSymbols 133 = .ok (.iload 4, 2) := by decide +kernel
theorem dX10_readSymbols_135 : decode cX10_readSymbols 135 = .ok (.bipush 12, 2) := by decide +kernel
theorem dX10_readSymbols_137 : decode cX10_readSymbols 137 = .ok (.iload 5, 2) := by decide +kernel
theorem dX10_readSymbols_139 : decode cX10_readSymbols 139 = .ok (.imul, 1) := by decide +kernel
theorem dX10_readSymbols_140 : decode cX10_readSymbols 140 = .ok (.iload_n 3, 1) := by decide +kernel
theorem dX10_readSymbols_141 : decode cX10_readSymbols 141 = .ok (.iadd, 1) := by decide +kernel
theorem dX10_readSymbols_142 : decode cX10_readSymbols 142 = .ok (.iastore, 1) := by decide +kernel
theorem dX10_readSymbols_143 : decode cX10_readSymbols 143 = .ok (.aload_n 0, 1) := by decide +kernel
theorem dX10_readSymbols_144 : decode cX10_readSymbols 144 = .ok (.getfield 74, 3) := by decide +kernel
theorem dX10_readSymbols_147 : decode cX10_readSymbols 147 = .ok (.iload 4, 2) := by decide +kernel
theorem dX10_readSymbols_149 : decode cX10_readSymbols 149 = .ok (.iload 6, 2) := by decide +kernel
theorem dX10_readSymbols_151 : decode cX10_readSymbols 151 = .ok (.iastore, 1) := by decide +kernel
theorem dX10_readSymbols_152 : decode cX10_readSymbols 152 = .ok (.iinc 5 1, 3) := by decide +kernel
theorem dX10_readSymbols_155 : decode cX10_readSymbols 155 = .ok (.goto (-92), 3) := by decide +kernel
theorem dX10_readSymbols_158 : decode cX10_readSymbols 158 = .ok (.iinc 2 1, 3) := by decide +kernel
theorem dX10_readSymbols_161 : decode cX10_readSymbols 161 = .ok (.goto (-150), 3) := by decide +kernel
theorem dX10_readSymbols_164 : decode cX10_readSymbols 164 = .ok (.iinc 1 1, 3) := by decide +kernel
theorem dX10_readSymbols_167 : decode cX10_readSymbols 167 = .ok (.goto (-164), 3) := by decide +kernel
theorem dX10_readSymbols_170 : decode cX10_readSymbols 170 = .ok (.return_, 1) := by decide +kernel
theorem dX10_cellOf_0 : decode cX10_cellOf 0 = .ok (.sipush 300, 3) := by decide +kernel
theorem dX10_cellOf_3 : decode cX10_cellOf 3 = .ok (.iload_n 0, 1) := by decide +kernel
theorem dX10_cellOf_4 : decode cX10_cellOf 4 = .ok (.imul, 1) := by decide +kernel
theorem dX10_cellOf_5 : decode cX10_cellOf 5 = .ok (.iload_n 2, 1) := by decide +kernel
theorem dX10_cellOf_6 : decode cX10_cellOf 6 = .ok (.iload_n 2, 1) := by decide +kernel
theorem dX10_cellOf_7 : decode cX10_cellOf 7 = .ok (.iconst 1, 1) := by decide +kernel
theorem dX10_cellOf_8 : decode cX10_cellOf 8 = .ok (.iadd, 1) := by decide +kernel
theorem dX10_cellOf_9 : decode cX10_cellOf 9 = .ok (.imul, 1) := by decide +kernel
theorem dX10_cellOf_10 : decode cX10_cellOf 10 = .ok (.iconst 2, 1) := by decide +kernel
theorem dX10_cellOf_11 : decode cX10_cellOf 11 = .ok (.idiv, 1) := by decide +kernel
theorem dX10_cellOf_12 : decode cX10_cellOf 12 = .ok (.iadd, 1) := by decide +kernel
theorem dX10_cellOf_13 : decode cX10_cellOf 13 = .ok (.iload_n 1, 1) := by decide +kernel
theorem dX10_cellOf_14 : decode cX10_cellOf 14 = .ok (.iadd, 1) := by decide +kernel
theorem dX10_cellOf_15 : decode cX10_cellOf 15 = .ok (.ireturn, 1) := by decide +kernel
theorem dX10_itemSize_0 : decode cX10_itemSize 0 = .ok (.iload_n 1, 1) := by decide +kernel
theorem dX10_itemSize_1 : decode cX10_itemSize 1 = .ok (.bipush 100, 2) := by decide +kernel
theorem dX10_itemSize_3 : decode cX10_itemSize 3 = .ok (.if_icmp .ge 15, 3) := by decide +kernel
theorem dX10_itemSize_6 : decode cX10_itemSize 6 = .ok (.aload_n 0, 1) := by decide +kernel
theorem dX10_itemSize_7 : decode cX10_itemSize 7 = .ok (.getfield 77, 3) := by decide +kernel
theorem dX10_itemSize_10 : decode cX10_itemSize 10 = .ok (.iload_n 1, 1) := by decide +kernel
theorem dX10_itemSize_11 : decode cX10_itemSize 11 = .ok (.iload_n 2, 1) := by decide +kernel
theorem dX10_itemSize_12 : decode cX10_itemSize 12 = .ok (.iload_n 3, 1) := by decide +kernel
theorem dX10_itemSize_13 : decode cX10_itemSize 13 = .ok (.invokestatic 198, 3) := by decide +kernel
theorem dX10_itemSize_16 : decode cX10_itemSize 16 = .ok (.iaload, 1) := by decide +kernel
theorem dX10_itemSize_17 : decode cX10_itemSize 17 = .ok (.ireturn, 1) := by decide +kernel
theorem dX10_itemSize_18 : decode cX10_itemSize 18 = .ok (.iload_n 2, 1) := by decide +kernel
theorem dX10_itemSize_19 : decode cX10_itemSize 19 = .ok (.iload_n 3, 1) := by decide +kernel
theorem dX10_itemSize_20 : decode cX10_itemSize 20 = .ok (.if_icmp .ne 24, 3) := by decide +kernel
theorem dX10_itemSize_23 : decode cX10_itemSize 23 = .ok (.aload_n 0, 1) := by decide +kernel
theorem dX10_itemSize_24 : decode cX10_itemSize 24 = .ok (.getfield 71, 3) := by decide +kernel
theorem dX10_itemSize_27 : decode cX10_itemSize 27 = .ok (.bipush 24, 2) := by decide +kernel
theorem dX10_itemSize_29 : decode cX10_itemSize 29 = .ok (.iload_n 1, 1) := by decide +kernel
theorem dX10_itemSize_30 : decode cX10_itemSize 30 = .ok (.bipush 100, 2) := by decide +kernel
theorem dX10_itemSize_32 : decode cX10_itemSize 32 = .ok (.isub, 1) := by decide +kernel
theorem dX10_itemSize_33 : decode cX10_itemSize 33 = .ok (.imul, 1) := by decide +kernel
theorem dX10_itemSize_34 : decode cX10_itemSize 34 = .ok (.iload_n 2, 1) := by decide +kernel
theorem dX10_itemSize_35 : decode cX10_itemSize 35 = .ok (.iadd, 1) := by decide +kernel
theorem dX10_itemSize_36 : decode cX10_itemSize 36 = .ok (.iaload, 1) := by decide +kernel
theorem dX10_itemSize_37 : decode cX10_itemSize 37 = .ok (.ifCond .lt 7, 3) := by decide +kernel
theorem dX10_itemSize_40 : decode cX10_itemSize 40 = .ok (.iconst 1, 1) := by decide +kernel
theorem dX10_itemSize_41 : decode cX10_itemSize 41 = .ok (.goto 4, 3) := by decide +kernel
theorem dX10_itemSize_44 : decode cX10_itemSize 44 = .ok (.iconst 0, 1) := by decide +kernel
theorem dX10_itemSize_45 : decode cX10_itemSize 45 = .ok (.ireturn, 1) := by decide +kernel
theorem dX10_itemCount_0 : decode cX10_itemCount 0 = .ok (.iload_n 1, 1) := by decide +kernel
theorem dX10_itemCount_1 : decode cX10_itemCount 1 = .ok (.bipush 100, 2) := by decide +kernel
theorem dX10_itemCount_3 : decode cX10_itemCount 3 = .ok (.if_icmp .ge 17, 3) := by decide +kernel
theorem dX10_itemCount_6 : decode cX10_itemCount 6 = .ok (.aload_n 0, 1) := by decide +kernel
theorem dX10_itemCount_7 : decode cX10_itemCount 7 = .ok (.getfield 80, 3) := by decide +kernel
theorem dX10_itemCount_10 : decode cX10_itemCount 10 = .ok (.iload_n 1, 1) := by decide +kernel
theorem dX10_itemCount_11 : decode cX10_itemCount 11 = .ok (.iload_n 2, 1) := by decide +kernel
theorem dX10_itemCount_12 : decode cX10_itemCount 12 = .ok (.iload_n 3, 1) := by decide +kernel
theorem dX10_itemCount_13 : decode cX10_itemCount 13 = .ok (.invokestatic 198, 3) := by decide +kernel
theorem dX10_itemCount_16 : decode cX10_itemCount 16 = .ok (.laload, 1) := by decide +kernel
theorem dX10_itemCount_17 : decode cX10_itemCount 17 = .ok (.goto 11, 3) := by decide +kernel
theorem dX10_itemCount_20 : decode cX10_itemCount 20 = .ok (.aload_n 0, 1) := by decide +kernel
theorem dX10_itemCount_21 : decode cX10_itemCount 21 = .ok (.iload_n 1, 1) := by decide +kernel
theorem dX10_itemCount_22 : decode cX10_itemCount 22 = .ok (.iload_n 2, 1) := by decide +kernel
theorem dX10_itemCount_23 : decode cX10_itemCount 23 = .ok (.iload_n 3, 1) := by decide +kernel
theorem dX10_itemCount_24 : decode cX10_itemCount 24 = .ok (.invokevirtual 201, 3) := by decide +kernel
theorem dX10_itemCount_27 : decode cX10_itemCount 27 = .ok (.i2l, 1) := by decide +kernel
theorem dX10_itemCount_28 : decode cX10_itemCount 28 = .ok (.lreturn, 1) := by decide +kernel
theorem dX10_itemCost_0 : decode cX10_itemCost 0 = .ok (.iload_n 1, 1) := by decide +kernel
theorem dX10_itemCost_1 : decode cX10_itemCost 1 = .ok (.bipush 100, 2) := by decide +kernel
theorem dX10_itemCost_3 : decode cX10_itemCost 3 = .ok (.if_icmp .ge 23, 3) := by decide +kernel
theorem dX10_itemCost_6 : decode cX10_itemCost 6 = .ok (.aload_n 0, 1) := by decide +kernel
theorem dX10_itemCost_7 : decode cX10_itemCost 7 = .ok (.getfield 85, 3) := by decide +kernel
theorem dX10_itemCost_10 : decode cX10_itemCost 10 = .ok (.bipush 30, 2) := by decide +kernel
theorem dX10_itemCost_12 : decode cX10_itemCost 12 = .ok (.iload_n 1, 1) := by decide +kernel
theorem dX10_itemCost_13 : decode cX10_itemCost 13 = .ok (.iload_n 2, 1) := by decide +kernel
theorem dX10_itemCost_14 : decode cX10_itemCost 14 = .ok (.iload_n 3, 1) := by decide +kernel
theorem dX10_itemCost_15 : decode cX10_itemCost 15 = .ok (.invokestatic 198, 3) := by decide +kernel
theorem dX10_itemCost_18 : decode cX10_itemCost 18 = .ok (.imul, 1) := by decide +kernel
theorem dX10_itemCost_19 : decode cX10_itemCost 19 = .ok (.iload 4, 2) := by decide +kernel
theorem dX10_itemCost_21 : decode cX10_itemCost 21 = .ok (.iadd, 1) := by decide +kernel
theorem dX10_itemCost_22 : decode cX10_itemCost 22 = .ok (.iaload, 1) := by decide +kernel
theorem dX10_itemCost_23 : decode cX10_itemCost 23 = .ok (.goto 17, 3) := by decide +kernel
theorem dX10_itemCost_26 : decode cX10_itemCost 26 = .ok (.aload_n 0, 1) := by decide +kernel
theorem dX10_itemCost_27 : decode cX10_itemCost 27 = .ok (.getfield 74, 3) := by decide +kernel
theorem dX10_itemCost_30 : decode cX10_itemCost 30 = .ok (.bipush 24, 2) := by decide +kernel
theorem dX10_itemCost_32 : decode cX10_itemCost 32 = .ok (.iload_n 1, 1) := by decide +kernel
theorem dX10_itemCost_33 : decode cX10_itemCost 33 = .ok (.bipush 100, 2) := by decide +kernel
theorem dX10_itemCost_35 : decode cX10_itemCost 35 = .ok (.isub, 1) := by decide +kernel
theorem dX10_itemCost_36 : decode cX10_itemCost 36 = .ok (.imul, 1) := by decide +kernel
theorem dX10_itemCost_37 : decode cX10_itemCost 37 = .ok (.iload_n 2, 1) := by decide +kernel
theorem dX10_itemCost_38 : decode cX10_itemCost 38 = .ok (.iadd, 1) := by decide +kernel
theorem dX10_itemCost_39 : decode cX10_itemCost 39 = .ok (.iaload, 1) := by decide +kernel
theorem dX10_itemCost_40 : decode cX10_itemCost 40 = .ok (.ireturn, 1) := by decide +kernel
theorem dX10_comes_0 : decode cX10_comes 0 = .ok (.aload_n 0, 1) := by decide +kernel
theorem dX10_comes_1 : decode cX10_comes 1 = .ok (.getfield 77, 3) := by decide +kernel
theorem dX10_comes_4 : decode cX10_comes 4 = .ok (.iload_n 1, 1) := by decide +kernel
theorem dX10_comes_5 : decode cX10_comes 5 = .ok (.iaload, 1) := by decide +kernel
theorem dX10_comes_6 : decode cX10_comes 6 = .ok (.istore 4, 2) := by decide +kernel
theorem dX10_comes_8 : decode cX10_comes 8 = .ok (.bipush 30, 2) := by decide +kernel
theorem dX10_comes_10 : decode cX10_comes 10 = .ok (.iload_n 1, 1) := by decide +kernel
theorem dX10_comes_11 : decode cX10_comes 11 = .ok (.imul, 1) := by decide +kernel
theorem dX10_comes_12 : decode cX10_comes 12 = .ok (.istore 5, 2) := by decide +kernel
theorem dX10_comes_14 : decode cX10_comes 14 = .ok (.iload 4, 2) := by decide +kernel
theorem dX10_comes_16 : decode cX10_comes 16 = .ok (.bipush 30, 2) := by decide +kernel
theorem dX10_comes_18 : decode cX10_comes 18 = .ok (.if_icmp .ne 53, 3) := by decide +kernel
theorem dX10_comes_21 : decode cX10_comes 21 = .ok (.aload_n 0, 1) := by decide +kernel
theorem dX10_comes_22 : decode cX10_comes 22 = .ok (.getfield 85, 3) := by decide +kernel
theorem dX10_comes_25 : decode cX10_comes 25 = .ok (.iload 5, 2) := by decide +kernel
theorem dX10_comes_27 : decode cX10_comes 27 = .ok (.iload 4, 2) := by decide +kernel
theorem dX10_comes_29 : decode cX10_comes 29 = .ok (.iadd, 1) := by decide +kernel
theorem dX10_comes_30 : decode cX10_comes 30 = .ok (.iconst 1, 1) := by decide +kernel
theorem dX10_comes_31 : decode cX10_comes 31 = .ok (.isub, 1) := by decide +kernel
theorem dX10_comes_32 : decode cX10_comes 32 = .ok (.iaload, 1) := by decide +kernel
theorem dX10_comes_33 : decode cX10_comes 33 = .ok (.iload_n 2, 1) := by decide +kernel
theorem dX10_comes_34 : decode cX10_comes 34 = .ok (.if_icmp .lt 35, 3) := by decide +kernel
theorem dX10_comes_37 : decode cX10_comes 37 = .ok (.aload_n 0, 1) := by decide +kernel
theorem dX10_comes_38 : decode cX10_comes 38 = .ok (.getfield 85, 3) := by decide +kernel
theorem dX10_comes_41 : decode cX10_comes 41 = .ok (.iload 5, 2) := by decide +kernel
theorem dX10_comes_43 : decode cX10_comes 43 = .ok (.iload 4, 2) := by decide +kernel
theorem dX10_comes_45 : decode cX10_comes 45 = .ok (.iadd, 1) := by decide +kernel
theorem dX10_comes_46 : decode cX10_comes 46 = .ok (.iconst 1, 1) := by decide +kernel
theorem dX10_comes_47 : decode cX10_comes 47 = .ok (.isub, 1) := by decide +kernel
theorem dX10_comes_48 : decode cX10_comes 48 = .ok (.iaload, 1) := by decide +kernel
theorem dX10_comes_49 : decode cX10_comes 49 = .ok (.iload_n 2, 1) := by decide +kernel
theorem dX10_comes_50 : decode cX10_comes 50 = .ok (.if_icmp .ne 21, 3) := by decide +kernel
theorem dX10_comes_53 : decode cX10_comes 53 = .ok (.aload_n 0, 1) := by decide +kernel
theorem dX10_comes_54 : decode cX10_comes 54 = .ok (.getfield 88, 3) := by decide +kernel
theorem dX10_comes_57 : decode cX10_comes 57 = .ok (.iload 5, 2) := by decide +kernel
theorem dX10_comes_59 : decode cX10_comes 59 = .ok (.iload 4, 2) := by decide +kernel
theorem dX10_comes_61 : decode cX10_comes 61 = .ok (.iadd, 1) := by decide +kernel
theorem dX10_comes_62 : decode cX10_comes 62 = .ok (.iconst 1, 1) := by decide +kernel
theorem dX10_comes_63 : decode cX10_comes 63 = .ok (.isub, 1) := by decide +kernel
theorem dX10_comes_64 : decode cX10_comes 64 = .ok (.iaload, 1) := by decide +kernel
theorem dX10_comes_65 : decode cX10_comes 65 = .ok (.iload_n 3, 1) := by decide +kernel
theorem dX10_comes_66 : decode cX10_comes 66 = .ok (.if_icmp .ge 5, 3) := by decide +kernel
theorem dX10_comes_69 : decode cX10_comes 69 = .ok (.iconst 0, 1) := by decide +kernel
theorem dX10_comes_70 : decode cX10_comes 70 = .ok (.ireturn, 1) := by decide +kernel
theorem dX10_comes_71 : decode cX10_comes 71 = .ok (.iload 4, 2) := by decide +kernel
theorem dX10_comes_73 : decode cX10_comes 73 = .ok (.bipush 30, 2) := by decide +kernel
theorem dX10_comes_75 : decode cX10_comes 75 = .ok (.if_icmp .ne 10, 3) := by decide +kernel
theorem dX10_comes_78 : decode cX10_comes 78 = .ok (.iload 4, 2) := by decide +kernel
theorem dX10_comes_80 : decode cX10_comes 80 = .ok (.iconst 1, 1) := by decide +kernel
theorem dX10_comes_81 : decode cX10_comes 81 = .ok (.isub, 1) := by decide +kernel
theorem dX10_comes_82 : decode cX10_comes 82 = .ok (.goto 5, 3) := by decide +kernel
theorem dX10_comes_85 : decode cX10_comes 85 = .ok (.iload 4, 2) := by decide +kernel
theorem dX10_comes_87 : decode cX10_comes 87 = .ok (.istore 6, 2) := by decide +kernel
theorem dX10_comes_89 : decode cX10_comes 89 = .ok (.iload 6, 2) := by decide +kernel
theorem dX10_comes_91 : decode cX10_comes 91 = .ok (.ifCond .le 101, 3) := by decide +kernel
theorem dX10_comes_94 : decode cX10_comes 94 = .ok (.aload_n 0, 1) := by decide +kernel
theorem dX10_comes_95 : decode cX10_comes 95 = .ok (.getfield 85, 3) := by decide +kernel
theorem dX10_comes_98 : decode cX10_comes 98 = .ok (.iload 5, 2) := by decide +kernel
theorem dX10_comes_100 : decode cX10_comes 100 = .ok (.iload 6, 2) := by decide +kernel
theorem dX10_comes_102 : decode cX10_comes 102 = .ok (.iadd, 1) := by decide +kernel
theorem dX10_comes_103 : decode cX10_comes 103 = .ok (.iconst 1, 1) := by decide +kernel
theorem dX10_comes_104 : decode cX10_comes 104 = .ok (.isub, 1) := by decide +kernel
theorem dX10_comes_105 : decode cX10_comes 105 = .ok (.iaload, 1) := by decide +kernel
theorem dX10_comes_106 : decode cX10_comes 106 = .ok (.iload_n 2, 1) := by decide +kernel
theorem dX10_comes_107 : decode cX10_comes 107 = .ok (.if_icmp .gt 35, 3) := by decide +kernel
theorem dX10_comes_110 : decode cX10_comes 110 = .ok (.aload_n 0, 1) := by decide +kernel
theorem dX10_comes_111 : decode cX10_comes 111 = .ok (.getfield 85, 3) := by decide +kernel
theorem dX10_comes_114 : decode cX10_comes 114 = .ok (.iload 5, 2) := by decide +kernel
theorem dX10_comes_116 : decode cX10_comes 116 = .ok (.iload 6, 2) := by decide +kernel
theorem dX10_comes_118 : decode cX10_comes 118 = .ok (.iadd, 1) := by decide +kernel
theorem dX10_comes_119 : decode cX10_comes 119 = .ok (.iconst 1, 1) := by decide +kernel
theorem dX10_comes_120 : decode cX10_comes 120 = .ok (.isub, 1) := by decide +kernel
theorem dX10_comes_121 : decode cX10_comes 121 = .ok (.iaload, 1) := by decide +kernel
theorem dX10_comes_122 : decode cX10_comes 122 = .ok (.iload_n 2, 1) := by decide +kernel
theorem dX10_comes_123 : decode cX10_comes 123 = .ok (.if_icmp .ne 69, 3) := by decide +kernel
theorem dX10_comes_126 : decode cX10_comes 126 = .ok (.aload_n 0, 1) := by decide +kernel
theorem dX10_comes_127 : decode cX10_comes 127 = .ok (.getfield 88, 3) := by decide +kernel
theorem dX10_comes_130 : decode cX10_comes 130 = .ok (.iload 5, 2) := by decide +kernel
theorem dX10_comes_132 : decode cX10_comes 132 = .ok (.iload 6, 2) := by decide +kernel
theorem dX10_comes_134 : decode cX10_comes 134 = .ok (.iadd, 1) := by decide +kernel
theorem dX10_comes_135 : decode cX10_comes 135 = .ok (.iconst 1, 1) := by decide +kernel
theorem dX10_comes_136 : decode cX10_comes 136 = .ok (.isub, 1) := by decide +kernel
theorem dX10_comes_137 : decode cX10_comes 137 = .ok (.iaload, 1) := by decide +kernel
theorem dX10_comes_138 : decode cX10_comes 138 = .ok (.iload_n 3, 1) := by decide +kernel
theorem dX10_comes_139 : decode cX10_comes 139 = .ok (.if_icmp .le 53, 3) := by decide +kernel
theorem dX10_comes_142 : decode cX10_comes 142 = .ok (.aload_n 0, 1) := by decide +kernel
theorem dX10_comes_143 : decode cX10_comes 143 = .ok (.getfield 85, 3) := by decide +kernel
theorem dX10_comes_146 : decode cX10_comes 146 = .ok (.iload 5, 2) := by decide +kernel
theorem dX10_comes_148 : decode cX10_comes 148 = .ok (.iload 6, 2) := by decide +kernel
theorem dX10_comes_150 : decode cX10_comes 150 = .ok (.iadd, 1) := by decide +kernel
theorem dX10_comes_151 : decode cX10_comes 151 = .ok (.aload_n 0, 1) := by decide +kernel
theorem dX10_comes_152 : decode cX10_comes 152 = .ok (.getfield 85, 3) := by decide +kernel
theorem dX10_comes_155 : decode cX10_comes 155 = .ok (.iload 5, 2) := by decide +kernel
theorem dX10_comes_157 : decode cX10_comes 157 = .ok (.iload 6, 2) := by decide +kernel
theorem dX10_comes_159 : decode cX10_comes 159 = .ok (.iadd, 1) := by decide +kernel
theorem dX10_comes_160 : decode cX10_comes 160 = .ok (.iconst 1, 1) := by decide +kernel
theorem dX10_comes_161 : decode cX10_comes 161 = .ok (.isub, 1) := by decide +kernel
theorem dX10_comes_162 : decode cX10_comes 162 = .ok (.iaload, 1) := by decide +kernel
theorem dX10_comes_163 : decode cX10_comes 163 = .ok (.iastore, 1) := by decide +kernel
theorem dX10_comes_164 : decode cX10_comes 164 = .ok (.aload_n 0, 1) := by decide +kernel
theorem dX10_comes_165 : decode cX10_comes 165 = .ok (.getfield 88, 3) := by decide +kernel
theorem dX10_comes_168 : decode cX10_comes 168 = .ok (.iload 5, 2) := by decide +kernel
theorem dX10_comes_170 : decode cX10_comes 170 = .ok (.iload 6, 2) := by decide +kernel
theorem dX10_comes_172 : decode cX10_comes 172 = .ok (.iadd, 1) := by decide +kernel
theorem dX10_comes_173 : decode cX10_comes 173 = .ok (.aload_n 0, 1) := by decide +kernel
theorem dX10_comes_174 : decode cX10_comes 174 = .ok (.getfield 88, 3) := by decide +kernel
theorem dX10_comes_177 : decode cX10_comes 177 = .ok (.iload 5, 2) := by decide +kernel
theorem dX10_comes_179 : decode cX10_comes 179 = .ok (.iload 6, 2) := by decide +kernel
theorem dX10_comes_181 : decode cX10_comes 181 = .ok (.iadd, 1) := by decide +kernel
theorem dX10_comes_182 : decode cX10_comes 182 = .ok (.iconst 1, 1) := by decide +kernel
theorem dX10_comes_183 : decode cX10_comes 183 = .ok (.isub, 1) := by decide +kernel
theorem dX10_comes_184 : decode cX10_comes 184 = .ok (.iaload, 1) := by decide +kernel
theorem dX10_comes_185 : decode cX10_comes 185 = .ok (.iastore, 1) := by decide +kernel
theorem dX10_comes_186 : decode cX10_comes 186 = .ok (.iinc 6 (-1), 3) := by decide +kernel
theorem dX10_comes_189 : decode cX10_comes 189 = .ok (.goto (-100), 3) := by decide +kernel
theorem dX10_comes_192 : decode cX10_comes 192 = .ok (.aload_n 0, 1) := by decide +kernel
theorem dX10_comes_193 : decode cX10_comes 193 = .ok (.getfield 85, 3) := by decide +kernel
theorem dX10_comes_196 : decode cX10_comes 196 = .ok (.iload 5, 2) := by decide +kernel
theorem dX10_comes_198 : decode cX10_comes 198 = .ok (.iload 6, 2) := by decide +kernel
theorem dX10_comes_200 : decode cX10_comes 200 = .ok (.iadd, 1) := by decide +kernel
theorem dX10_comes_201 : decode cX10_comes 201 = .ok (.iload_n 2, 1) := by decide +kernel
theorem dX10_comes_202 : decode cX10_comes 202 = .ok (.iastore, 1) := by decide +kernel
theorem dX10_comes_203 : decode cX10_comes 203 = .ok (.aload_n 0, 1) := by decide +kernel
theorem dX10_comes_204 : decode cX10_comes 204 = .ok (.getfield 88, 3) := by decide +kernel
theorem dX10_comes_207 : decode cX10_comes 207 = .ok (.iload 5, 2) := by decide +kernel
theorem dX10_comes_209 : decode cX10_comes 209 = .ok (.iload 6, 2) := by decide +kernel
theorem dX10_comes_211 : decode cX10_comes 211 = .ok (.iadd, 1) := by decide +kernel
theorem dX10_comes_212 : decode cX10_comes 212 = .ok (.iload_n 3, 1) := by decide +kernel
theorem dX10_comes_213 : decode cX10_comes 213 = .ok (.iastore, 1) := by decide +kernel
theorem dX10_comes_214 : decode cX10_comes 214 = .ok (.aload_n 0, 1) := by decide +kernel
theorem dX10_comes_215 : decode cX10_comes 215 = .ok (.getfield 77, 3) := by decide +kernel
theorem dX10_comes_218 : decode cX10_comes 218 = .ok (.iload_n 1, 1) := by decide +kernel
theorem dX10_comes_219 : decode cX10_comes 219 = .ok (.iload 4, 2) := by decide +kernel
theorem dX10_comes_221 : decode cX10_comes 221 = .ok (.bipush 30, 2) := by decide +kernel
theorem dX10_comes_223 : decode cX10_comes 223 = .ok (.if_icmp .ne 8, 3) := by decide +kernel
theorem dX10_comes_226 : decode cX10_comes 226 = .ok (.iload 4, 2) := by decide +kernel
theorem dX10_comes_228 : decode cX10_comes 228 = .ok (.goto 7, 3) := by decide +kernel
theorem dX10_comes_231 : decode cX10_comes 231 = .ok (.iload 4, 2) := by decide +kernel
theorem dX10_comes_233 : decode cX10_comes 233 = .ok (.iconst 1, 1) := by decide +kernel
theorem dX10_comes_234 : decode cX10_comes 234 = .ok (.iadd, 1) := by decide +kernel
theorem dX10_comes_235 : decode cX10_comes 235 = .ok (.iastore, 1) := by decide +kernel
theorem dX10_comes_236 : decode cX10_comes 236 = .ok (.iconst 1, 1) := by decide +kernel
theorem dX10_comes_237 : decode cX10_comes 237 = .ok (.ireturn, 1) := by decide +kernel
theorem dX10_one_0 : decode cX10_one 0 = .ok (.aload_n 0, 1) := by decide +kernel
theorem dX10_one_1 : decode cX10_one 1 = .ok (.aload_n 0, 1) := by decide +kernel
theorem dX10_one_2 : decode cX10_one 2 = .ok (.getfield 59, 3) := by decide +kernel
theorem dX10_one_5 : decode cX10_one 5 = .ok (.iload_n 2, 1) := by decide +kernel
theorem dX10_one_6 : decode cX10_one 6 = .ok (.iaload, 1) := by decide +kernel
theorem dX10_one_7 : decode cX10_one 7 = .ok (.iload_n 3, 1) := by decide +kernel
theorem dX10_one_8 : decode cX10_one 8 = .ok (.iload 4, 2) := by decide +kernel
theorem dX10_one_10 : decode cX10_one 10 = .ok (.invokevirtual 201, 3) := by decide +kernel
theorem dX10_one_13 : decode cX10_one 13 = .ok (.istore 5, 2) := by decide +kernel
theorem dX10_one_15 : decode cX10_one 15 = .ok (.aload_n 0, 1) := by decide +kernel
theorem dX10_one_16 : decode cX10_one 16 = .ok (.getfield 80, 3) := by decide +kernel
theorem dX10_one_19 : decode cX10_one 19 = .ok (.iload_n 1, 1) := by decide +kernel
theorem dX10_one_20 : decode cX10_one 20 = .ok (.dup2, 1) := by decide +kernel
theorem dX10_one_21 : decode cX10_one 21 = .ok (.laload, 1) := by decide +kernel
theorem dX10_one_22 : decode cX10_one 22 = .ok (.aload_n 0, 1) := by decide +kernel
theorem dX10_one_23 : decode cX10_one 23 = .ok (.aload_n 0, 1) := by decide +kernel
theorem dX10_one_24 : decode cX10_one 24 = .ok (.getfield 59, 3) := by decide +kernel
theorem dX10_one_27 : decode cX10_one 27 = .ok (.iload_n 2, 1) := by decide +kernel
theorem dX10_one_28 : decode cX10_one 28 = .ok (.iaload, 1) := by decide +kernel
theorem dX10_one_29 : decode cX10_one 29 = .ok (.iload_n 3, 1) := by decide +kernel
theorem dX10_one_30 : decode cX10_one 30 = .ok (.iload 4, 2) := by decide +kernel
theorem dX10_one_32 : decode cX10_one 32 = .ok (.invokevirtual 204, 3) := by decide +kernel
theorem dX10_one_35 : decode cX10_one 35 = .ok (.ladd, 1) := by decide +kernel
theorem dX10_one_36 : decode cX10_one 36 = .ok (.lastore, 1) := by decide +kernel
theorem dX10_one_37 : decode cX10_one 37 = .ok (.iconst 0, 1) := by decide +kernel
theorem dX10_one_38 : decode cX10_one 38 = .ok (.istore 6, 2) := by decide +kernel
theorem dX10_one_40 : decode cX10_one 40 = .ok (.iload 6, 2) := by decide +kernel
theorem dX10_one_42 : decode cX10_one 42 = .ok (.iload 5, 2) := by decide +kernel
theorem dX10_one_44 : decode cX10_one 44 = .ok (.if_icmp .ge 47, 3) := by decide +kernel
theorem dX10_one_47 : decode cX10_one 47 = .ok (.aload_n 0, 1) := by decide +kernel
theorem dX10_one_48 : decode cX10_one 48 = .ok (.iload_n 1, 1) := by decide +kernel
theorem dX10_one_49 : decode cX10_one 49 = .ok (.aload_n 0, 1) := by decide +kernel
theorem dX10_one_50 : decode cX10_one 50 = .ok (.getfield 65, 3) := by decide +kernel
theorem dX10_one_53 : decode cX10_one 53 = .ok (.iload_n 2, 1) := by decide +kernel
theorem dX10_one_54 : decode cX10_one 54 = .ok (.iaload, 1) := by decide +kernel
theorem dX10_one_55 : decode cX10_one 55 = .ok (.aload_n 0, 1) := by decide +kernel
theorem dX10_one_56 : decode cX10_one 56 = .ok (.aload_n 0, 1) := by decide +kernel
theorem dX10_one_57 : decode cX10_one 57 = .ok (.getfield 59, 3) := by decide +kernel
theorem dX10_one_60 : decode cX10_one 60 = .ok (.iload_n 2, 1) := by decide +kernel
theorem dX10_one_61 : decode cX10_one 61 = .ok (.iaload, 1) := by decide +kernel
theorem dX10_one_62 : decode cX10_one 62 = .ok (.iload_n 3, 1) := by decide +kernel
theorem dX10_one_63 : decode cX10_one 63 = .ok (.iload 4, 2) := by decide +kernel
theorem dX10_one_65 : decode cX10_one 65 = .ok (.iload 6, 2) := by decide +kernel
theorem dX10_one_67 : decode cX10_one 67 = .ok (.invokevirtual 208, 3) := by decide +kernel
theorem dX10_one_70 : decode cX10_one 70 = .ok (.iadd, 1) := by decide +kernel
theorem dX10_one_71 : decode cX10_one 71 = .ok (.iload_n 2, 1) := by decide +kernel
theorem dX10_one_72 : decode cX10_one 72 = .ok (.bipush 15, 2) := by decide +kernel
theorem dX10_one_74 : decode cX10_one 74 = .ok (.ishl, 1) := by decide +kernel
theorem dX10_one_75 : decode cX10_one 75 = .ok (.iload 6, 2) := by decide +kernel
theorem dX10_one_77 : decode cX10_one 77 = .ok (.iconst 5, 1) := by decide +kernel
theorem dX10_one_78 : decode cX10_one 78 = .ok (.ishl, 1) := by decide +kernel
theorem dX10_one_79 : decode cX10_one 79 = .ok (.iadd, 1) := by decide +kernel
theorem dX10_one_80 : decode cX10_one 80 = .ok (.invokevirtual 212, 3) := by decide +kernel
theorem dX10_one_83 : decode cX10_one 83 = .ok (.istore 7, 2) := by decide +kernel
theorem dX10_one_85 : decode cX10_one 85 = .ok (.iinc 6 1, 3) := by decide +kernel
theorem dX10_one_88 : decode cX10_one 88 = .ok (.goto (-48), 3) := by decide +kernel
theorem dX10_one_91 : decode cX10_one 91 = .ok (.return_, 1) := by decide +kernel
theorem dX10_two_0 : decode cX10_two 0 = .ok (.iconst 1, 1) := by decide +kernel
theorem dX10_two_1 : decode cX10_two 1 = .ok (.istore 5, 2) := by decide +kernel
theorem dX10_two_3 : decode cX10_two 3 = .ok (.iload 5, 2) := by decide +kernel
theorem dX10_two_5 : decode cX10_two 5 = .ok (.iload 4, 2) := by decide +kernel
theorem dX10_two_7 : decode cX10_two 7 = .ok (.iload_n 3, 1) := by decide +kernel
theorem dX10_two_8 : decode cX10_two 8 = .ok (.isub, 1) := by decide +kernel
theorem dX10_two_9 : decode cX10_two 9 = .ok (.if_icmp .gt 242, 3) := by decide +kernel
theorem dX10_two_12 : decode cX10_two 12 = .ok (.aload_n 0, 1) := by decide +kernel
theorem dX10_two_13 : decode cX10_two 13 = .ok (.aload_n 0, 1) := by decide +kernel
theorem dX10_two_14 : decode cX10_two 14 = .ok (.getfield 59, 3) := by decide +kernel
theorem dX10_two_17 : decode cX10_two 17 = .ok (.iload_n 2, 1) := by decide +kernel
theorem dX10_two_18 : decode cX10_two 18 = .ok (.iaload, 1) := by decide +kernel
theorem dX10_two_19 : decode cX10_two 19 = .ok (.iload_n 3, 1) := by decide +kernel
theorem dX10_two_20 : decode cX10_two 20 = .ok (.iload_n 3, 1) := by decide +kernel
theorem dX10_two_21 : decode cX10_two 21 = .ok (.iload 5, 2) := by decide +kernel
theorem dX10_two_23 : decode cX10_two 23 = .ok (.iadd, 1) := by decide +kernel
theorem dX10_two_24 : decode cX10_two 24 = .ok (.iconst 1, 1) := by decide +kernel
theorem dX10_two_25 : decode cX10_two 25 = .ok (.isub, 1) := by decide +kernel
theorem dX10_two_26 : decode cX10_two 26 = .ok (.invokevirtual 201, 3) := by decide +kernel
theorem dX10_two_29 : decode cX10_two 29 = .ok (.istore 6, 2) := by decide +kernel
theorem dX10_two_31 : decode cX10_two 31 = .ok (.aload_n 0, 1) := by decide +kernel
theorem dX10_two_32 : decode cX10_two 32 = .ok (.aload_n 0, 1) := by decide +kernel
theorem dX10_two_33 : decode cX10_two 33 = .ok (.getfield 62, 3) := by decide +kernel
theorem dX10_two_36 : decode cX10_two 36 = .ok (.iload_n 2, 1) := by decide +kernel
theorem dX10_two_37 : decode cX10_two 37 = .ok (.iaload, 1) := by decide +kernel
theorem dX10_two_38 : decode cX10_two 38 = .ok (.iload_n 3, 1) := by decide +kernel
theorem dX10_two_39 : decode cX10_two 39 = .ok (.iload 5, 2) := by decide +kernel
theorem dX10_two_41 : decode cX10_two 41 = .ok (.iadd, 1) := by decide +kernel
theorem dX10_two_42 : decode cX10_two 42 = .ok (.iload 4, 2) := by decide +kernel
theorem dX10_two_44 : decode cX10_two 44 = .ok (.invokevirtual 201, 3) := by decide +kernel
theorem dX10_two_47 : decode cX10_two 47 = .ok (.istore 7, 2) := by decide +kernel
theorem dX10_two_49 : decode cX10_two 49 = .ok (.aload_n 0, 1) := by decide +kernel
theorem dX10_two_50 : decode cX10_two 50 = .ok (.getfield 80, 3) := by decide +kernel
theorem dX10_two_53 : decode cX10_two 53 = .ok (.iload_n 1, 1) := by decide +kernel
theorem dX10_two_54 : decode cX10_two 54 = .ok (.dup2, 1) := by decide +kernel
theorem dX10_two_55 : decode cX10_two 55 = .ok (.laload, 1) := by decide +kernel
theorem dX10_two_56 : decode cX10_two 56 = .ok (.aload_n 0, 1) := by decide +kernel
theorem dX10_two_57 : decode cX10_two 57 = .ok (.aload_n 0, 1) := by decide +kernel
theorem dX10_two_58 : decode cX10_two 58 = .ok (.getfield 59, 3) := by decide +kernel
theorem dX10_two_61 : decode cX10_two 61 = .ok (.iload_n 2, 1) := by decide +kernel
theorem dX10_two_62 : decode cX10_two 62 = .ok (.iaload, 1) := by decide +kernel
theorem dX10_two_63 : decode cX10_two 63 = .ok (.iload_n 3, 1) := by decide +kernel
theorem dX10_two_64 : decode cX10_two 64 = .ok (.iload_n 3, 1) := by decide +kernel
theorem dX10_two_65 : decode cX10_two 65 = .ok (.iload 5, 2) := by decide +kernel
theorem dX10_two_67 : decode cX10_two 67 = .ok (.iadd, 1) := by decide +kernel
theorem dX10_two_68 : decode cX10_two 68 = .ok (.iconst 1, 1) := by decide +kernel
theorem dX10_two_69 : decode cX10_two 69 = .ok (.isub, 1) := by decide +kernel
theorem dX10_two_70 : decode cX10_two 70 = .ok (.invokevirtual 204, 3) := by decide +kernel
theorem dX10_two_73 : decode cX10_two 73 = .ok (.aload_n 0, 1) := by decide +kernel
theorem dX10_two_74 : decode cX10_two 74 = .ok (.aload_n 0, 1) := by decide +kernel
theorem dX10_two_75 : decode cX10_two 75 = .ok (.getfield 62, 3) := by decide +kernel
theorem dX10_two_78 : decode cX10_two 78 = .ok (.iload_n 2, 1) := by decide +kernel
theorem dX10_two_79 : decode cX10_two 79 = .ok (.iaload, 1) := by decide +kernel
theorem dX10_two_80 : decode cX10_two 80 = .ok (.iload_n 3, 1) := by decide +kernel
theorem dX10_two_81 : decode cX10_two 81 = .ok (.iload 5, 2) := by decide +kernel
theorem dX10_two_83 : decode cX10_two 83 = .ok (.iadd, 1) := by decide +kernel
theorem dX10_two_84 : decode cX10_two 84 = .ok (.iload 4, 2) := by decide +kernel
theorem dX10_two_86 : decode cX10_two 86 = .ok (.invokevirtual 204, 3) := by decide +kernel
theorem dX10_two_89 : decode cX10_two 89 = .ok (.lmul, 1) := by decide +kernel
theorem dX10_two_90 : decode cX10_two 90 = .ok (.ladd, 1) := by decide +kernel
theorem dX10_two_91 : decode cX10_two 91 = .ok (.lastore, 1) := by decide +kernel
theorem dX10_two_92 : decode cX10_two 92 = .ok (.iconst 1, 1) := by decide +kernel
theorem dX10_two_93 : decode cX10_two 93 = .ok (.istore 8, 2) := by decide +kernel
theorem dX10_two_95 : decode cX10_two 95 = .ok (.iconst 0, 1) := by decide +kernel
theorem dX10_two_96 : decode cX10_two 96 = .ok (.istore 9, 2) := by decide +kernel
theorem dX10_two_98 : decode cX10_two 98 = .ok (.iload 9, 2) := by decide +kernel
theorem dX10_two_100 : decode cX10_two 100 = .ok (.iload 6, 2) := by decide +kernel
theorem dX10_two_102 : decode cX10_two 102 = .ok (.if_icmp .ge 143, 3) := by decide +kernel
theorem dX10_two_105 : decode cX10_two 105 = .ok (.iload 8, 2) := by decide +kernel
theorem dX10_two_107 : decode cX10_two 107 = .ok (.ifCond .eq 138, 3) := by decide +kernel
theorem dX10_two_110 : decode cX10_two 110 = .ok (.iconst 1, 1) := by decide +kernel
theorem dX10_two_111 : decode cX10_two 111 = .ok (.istore 10, 2) := by decide +kernel
theorem dX10_two_113 : decode cX10_two 113 = .ok (.iconst 0, 1) := by decide +kernel
theorem dX10_two_114 : decode cX10_two 114 = .ok (.istore 11, 2) := by decide +kernel
theorem dX10_two_116 : decode cX10_two 116 = .ok (.iload 11, 2) := by decide +kernel
theorem dX10_two_118 : decode cX10_two 118 = .ok (.iload 7, 2) := by decide +kernel
theorem dX10_two_120 : decode cX10_two 120 = .ok (.if_icmp .ge 119, 3) := by decide +kernel
theorem dX10_two_123 : decode cX10_two 123 = .ok (.iload 10, 2) := by decide +kernel
theorem dX10_two_125 : decode cX10_two 125 = .ok (.ifCond .eq 114, 3) := by decide +kernel
theorem dX10_two_128 : decode cX10_two 128 = .ok (.iload 9, 2) := by decide +kernel
theorem dX10_two_130 : decode cX10_two 130 = .ok (.iconst 1, 1) := by decide +kernel
theorem dX10_two_131 : decode cX10_two 131 = .ok (.iadd, 1) := by decide +kernel
theorem dX10_two_132 : decode cX10_two 132 = .ok (.iload 11, 2) := by decide +kernel
theorem dX10_two_134 : decode cX10_two 134 = .ok (.iconst 1, 1) := by decide +kernel
theorem dX10_two_135 : decode cX10_two 135 = .ok (.iadd, 1) := by decide +kernel
theorem dX10_two_136 : decode cX10_two 136 = .ok (.imul, 1) := by decide +kernel
theorem dX10_two_137 : decode cX10_two 137 = .ok (.bipush 30, 2) := by decide +kernel
theorem dX10_two_139 : decode cX10_two 139 = .ok (.if_icmp .gt 100, 3) := by decide +kernel
theorem dX10_two_142 : decode cX10_two 142 = .ok (.aload_n 0, 1) := by decide +kernel
theorem dX10_two_143 : decode cX10_two 143 = .ok (.getfield 65, 3) := by decide +kernel
theorem dX10_two_146 : decode cX10_two 146 = .ok (.iload_n 2, 1) := by decide +kernel
theorem dX10_two_147 : decode cX10_two 147 = .ok (.iaload, 1) := by decide +kernel
theorem dX10_two_148 : decode cX10_two 148 = .ok (.aload_n 0, 1) := by decide +kernel
theorem dX10_two_149 : decode cX10_two 149 = .ok (.aload_n 0, 1) := by decide +kernel
theorem dX10_two_150 : decode cX10_two 150 = .ok (.getfield 59, 3) := by decide +kernel
theorem dX10_two_153 : decode cX10_two 153 = .ok (.iload_n 2, 1) := by decide +kernel
theorem dX10_two_154 : decode cX10_two 154 = .ok (.iaload, 1) := by decide +kernel
theorem dX10_two_155 : decode cX10_two 155 = .ok (.iload_n 3, 1) := by decide +kernel
theorem dX10_two_156 : decode cX10_two 156 = .ok (.iload_n 3, 1) := by decide +kernel
theorem dX10_two_157 : decode cX10_two 157 = .ok (.iload 5, 2) := by decide +kernel
theorem dX10_two_159 : decode cX10_two 159 = .ok (.iadd, 1) := by decide +kernel
theorem dX10_two_160 : decode cX10_two 160 = .ok (.iconst 1, 1) := by decide +kernel
theorem dX10_two_161 : decode cX10_two 161 = .ok (.isub, 1) := by decide +kernel
theorem dX10_two_162 : decode cX10_two 162 = .ok (.iload 9, 2) := by decide +kernel
theorem dX10_two_164 : decode cX10_two 164 = .ok (.invokevirtual 208, 3) := by decide +kernel
theorem dX10_two_167 : decode cX10_two 167 = .ok (.iadd, 1) := by decide +kernel
theorem dX10_two_168 : decode cX10_two 168 = .ok (.aload_n 0, 1) := by decide +kernel
theorem dX10_two_169 : decode cX10_two 169 = .ok (.aload_n 0, 1) := by decide +kernel
theorem dX10_two_170 : decode cX10_two 170 = .ok (.getfield 62, 3) := by decide +kernel
theorem dX10_two_173 : decode cX10_two 173 = .ok (.iload_n 2, 1) := by decide +kernel
theorem dX10_two_174 : decode cX10_two 174 = .ok (.iaload, 1) := by decide +kernel
theorem dX10_two_175 : decode cX10_two 175 = .ok (.iload_n 3, 1) := by decide +kernel
theorem dX10_two_176 : decode cX10_two 176 = .ok (.iload 5, 2) := by decide +kernel
theorem dX10_two_178 : decode cX10_two 178 = .ok (.iadd, 1) := by decide +kernel
theorem dX10_two_179 : decode cX10_two 179 = .ok (.iload 4, 2) := by decide +kernel
theorem dX10_two_181 : decode cX10_two 181 = .ok (.iload 11, 2) := by decide +kernel
theorem dX10_two_183 : decode cX10_two 183 = .ok (.invokevirtual 208, 3) := by decide +kernel
theorem dX10_two_186 : decode cX10_two 186 = .ok (.iadd, 1) := by decide +kernel
theorem dX10_two_187 : decode cX10_two 187 = .ok (.istore 12, 2) := by decide +kernel
theorem dX10_two_189 : decode cX10_two 189 = .ok (.aload_n 0, 1) := by decide +kernel
theorem dX10_two_190 : decode cX10_two 190 = .ok (.iload_n 1, 1) := by decide +kernel
theorem dX10_two_191 : decode cX10_two 191 = .ok (.iload 12, 2) := by decide +kernel
theorem dX10_two_193 : decode cX10_two 193 = .ok (.iload_n 2, 1) := by decide +kernel
theorem dX10_two_194 : decode cX10_two 194 = .ok (.bipush 15, 2) := by decide +kernel
theorem dX10_two_196 : decode cX10_two 196 = .ok (.ishl, 1) := by decide +kernel
theorem dX10_two_197 : decode cX10_two 197 = .ok (.iload 5, 2) := by decide +kernel
theorem dX10_two_199 : decode cX10_two 199 = .ok (.bipush 10, 2) := by decide +kernel
theorem dX10_two_201 : decode cX10_two 201 = .ok (.ishl, 1) := by decide +kernel
theorem dX10_two_202 : decode cX10_two 202 = .ok (.iadd, 1) := by decide +kernel
theorem dX10_two_203 : decode cX10_two 203 = .ok (.iload 9, 2) := by decide +kernel
theorem dX10_two_205 : decode cX10_two 205 = .ok (.iconst 5, 1) := by decide +kernel
theorem dX10_two_206 : decode cX10_two 206 = .ok (.ishl, 1) := by decide +kernel
theorem dX10_two_207 : decode cX10_two 207 = .ok (.iadd, 1) := by decide +kernel
theorem dX10_two_208 : decode cX10_two 208 = .ok (.iload 11, 2) := by decide +kernel
theorem dX10_two_210 : decode cX10_two 210 = .ok (.iadd, 1) := by decide +kernel
theorem dX10_two_211 : decode cX10_two 211 = .ok (.invokevirtual 212, 3) := by decide +kernel
theorem dX10_two_214 : decode cX10_two 214 = .ok (.istore 10, 2) := by decide +kernel
theorem dX10_two_216 : decode cX10_two 216 = .ok (.iload 10, 2) := by decide +kernel
theorem dX10_two_218 : decode cX10_two 218 = .ok (.ifCond .ne 8, 3) := by decide +kernel
theorem dX10_two_221 : decode cX10_two 221 = .ok (.iload 11, 2) := by decide +kernel
theorem dX10_two_223 : decode cX10_two 223 = .ok (.ifCond .le 7, 3) := by decide +kernel
theorem dX10_two_226 : decode cX10_two 226 = .ok (.iconst 1, 1) := by decide +kernel
theorem dX10_two_227 : decode cX10_two 227 = .ok (.goto 4, 3) := by decide +kernel
theorem dX10_two_230 : decode cX10_two 230 = .ok (.iconst 0, 1) := by decide +kernel
theorem dX10_two_231 : decode cX10_two 231 = .ok (.istore 8, 2) := by decide +kernel
theorem dX10_two_233 : decode cX10_two 233 = .ok (.iinc 11 1, 3) := by decide +kernel
theorem dX10_two_236 : decode cX10_two 236 = .ok (.goto (-120), 3) := by decide +kernel
theorem dX10_two_239 : decode cX10_two 239 = .ok (.iinc 9 1, 3) := by decide +kernel
theorem dX10_two_242 : decode cX10_two 242 = .ok (.goto (-144), 3) := by decide +kernel
theorem dX10_two_245 : decode cX10_two 245 = .ok (.iinc 5 1, 3) := by decide +kernel
theorem dX10_two_248 : decode cX10_two 248 = .ok (.goto (-245), 3) := by decide +kernel
theorem dX10_two_251 : decode cX10_two 251 = .ok (.return_, 1) := by decide +kernel
theorem dX10_order_0 : decode cX10_order 0 = .ok (.iconst 0, 1) := by decide +kernel
theorem dX10_order_1 : decode cX10_order 1 = .ok (.istore_n 1, 1) := by decide +kernel
theorem dX10_order_2 : decode cX10_order 2 = .ok (.iload_n 1, 1) := by decide +kernel
theorem dX10_order_3 : decode cX10_order 3 = .ok (.bipush 26, 2) := by decide +kernel
theorem dX10_order_5 : decode cX10_order 5 = .ok (.if_icmp .ge 16, 3) := by decide +kernel
theorem dX10_order_8 : decode cX10_order 8 = .ok (.aload_n 0, 1) := by decide +kernel
theorem dX10_order_9 : decode cX10_order 9 = .ok (.getfield 91, 3) := by decide +kernel
theorem dX10_order_12 : decode cX10_order 12 = .ok (.iload_n 1, 1) := by decide +kernel
theorem dX10_order_13 : decode cX10_order 13 = .ok (.iconst (-1), 1) := by decide +kernel
theorem dX10_order_14 : decode cX10_order 14 = .ok (.iastore, 1) := by decide +kernel
theorem dX10_order_15 : decode cX10_order 15 = .ok (.iinc 1 1, 3) := by decide +kernel
theorem dX10_order_18 : decode cX10_order 18 = .ok (.goto (-16), 3) := by decide +kernel
theorem dX10_order_21 : decode cX10_order 21 = .ok (.iconst 0, 1) := by decide +kernel
theorem dX10_order_22 : decode cX10_order 22 = .ok (.istore_n 1, 1) := by decide +kernel
theorem dX10_order_23 : decode cX10_order 23 = .ok (.iload_n 1, 1) := by decide +kernel
theorem dX10_order_24 : decode cX10_order 24 = .ok (.bipush 26, 2) := by decide +kernel
theorem dX10_order_26 : decode cX10_order 26 = .ok (.if_icmp .ge 124, 3) := by decide +kernel
theorem dX10_order_29 : decode cX10_order 29 = .ok (.iconst 0, 1) := by decide +kernel
theorem dX10_order_30 : decode cX10_order 30 = .ok (.istore_n 2, 1) := by decide +kernel
theorem dX10_order_31 : decode cX10_order 31 = .ok (.iload_n 2, 1) := by decide +kernel
theorem dX10_order_32 : decode cX10_order 32 = .ok (.bipush 26, 2) := by decide +kernel
theorem dX10_order_34 : decode cX10_order 34 = .ok (.if_icmp .ge 113, 3) := by decide +kernel
theorem dX10_order_37 : decode cX10_order 37 = .ok (.aload_n 0, 1) := by decide +kernel
theorem dX10_order_38 : decode cX10_order 38 = .ok (.getfield 91, 3) := by decide +kernel
theorem dX10_order_41 : decode cX10_order 41 = .ok (.iload_n 2, 1) := by decide +kernel
theorem dX10_order_42 : decode cX10_order 42 = .ok (.iaload, 1) := by decide +kernel
theorem dX10_order_43 : decode cX10_order 43 = .ok (.ifCond .ge 7, 3) := by decide +kernel
theorem dX10_order_46 : decode cX10_order 46 = .ok (.iconst 1, 1) := by decide +kernel
theorem dX10_order_47 : decode cX10_order 47 = .ok (.goto 4, 3) := by decide +kernel
theorem dX10_order_50 : decode cX10_order 50 = .ok (.iconst 0, 1) := by decide +kernel
theorem dX10_order_51 : decode cX10_order 51 = .ok (.istore_n 3, 1) := by decide +kernel
theorem dX10_order_52 : decode cX10_order 52 = .ok (.iconst 0, 1) := by decide +kernel
theorem dX10_order_53 : decode cX10_order 53 = .ok (.istore 4, 2) := by decide +kernel
theorem dX10_order_55 : decode cX10_order 55 = .ok (.iload 4, 2) := by decide +kernel
theorem dX10_order_57 : decode cX10_order 57 = .ok (.aload_n 0, 1) := by decide +kernel
theorem dX10_order_58 : decode cX10_order 58 = .ok (.getfield 216, 3) := by decide +kernel
theorem dX10_order_61 : decode cX10_order 61 = .ok (.if_icmp .ge 66, 3) := by decide +kernel
theorem dX10_order_64 : decode cX10_order 64 = .ok (.iload_n 3, 1) := by decide +kernel
theorem dX10_order_65 : decode cX10_order 65 = .ok (.aload_n 0, 1) := by decide +kernel
theorem dX10_order_66 : decode cX10_order 66 = .ok (.getfield 56, 3) := by decide +kernel
theorem dX10_order_69 : decode cX10_order 69 = .ok (.iload 4, 2) := by decide +kernel
theorem dX10_order_71 : decode cX10_order 71 = .ok (.iaload, 1) := by decide +kernel
theorem dX10_order_72 : decode cX10_order 72 = .ok (.iload_n 2, 1) := by decide +kernel
theorem dX10_order_73 : decode cX10_order 73 = .ok (.if_icmp .ne 41, 3) := by decide +kernel
theorem dX10_order_76 : decode cX10_order 76 = .ok (.aload_n 0, 1) := by decide +kernel
theorem dX10_order_77 : decode cX10_order 77 = .ok (.getfield 62, 3) := by decide +kernel
theorem dX10_order_80 : decode cX10_order 80 = .ok (.iload 4, 2) := by decide +kernel
theorem dX10_order_82 : decode cX10_order 82 = .ok (.iaload, 1) := by decide +kernel
theorem dX10_order_83 : decode cX10_order 83 = .ok (.iconst (-1), 1) := by decide +kernel
theorem dX10_order_84 : decode cX10_order 84 = .ok (.if_icmp .ne 30, 3) := by decide +kernel
theorem dX10_order_87 : decode cX10_order 87 = .ok (.aload_n 0, 1) := by decide +kernel
theorem dX10_order_88 : decode cX10_order 88 = .ok (.getfield 59, 3) := by decide +kernel
theorem dX10_order_91 : decode cX10_order 91 = .ok (.iload 4, 2) := by decide +kernel
theorem dX10_order_93 : decode cX10_order 93 = .ok (.iaload, 1) := by decide +kernel
theorem dX10_order_94 : decode cX10_order 94 = .ok (.bipush 100, 2) := by decide +kernel
theorem dX10_order_96 : decode cX10_order 96 = .ok (.if_icmp .ge 18, 3) := by decide +kernel
theorem dX10_order_99 : decode cX10_order 99 = .ok (.aload_n 0, 1) := by decide +kernel
theorem dX10_order_100 : decode cX10_order 100 = .ok (.getfield 91, 3) := by decide +kernel
theorem dX10_order_103 : decode cX10_order 103 = .ok (.aload_n 0, 1) := by decide +kernel
theorem dX10_order_104 : decode cX10_order 104 = .ok (.getfield 59, 3) := by decide +kernel
theorem dX10_order_107 : decode cX10_order 107 = .ok (.iload 4, 2) := by decide +kernel
theorem dX10_order_109 : decode cX10_order 109 = .ok (.iaload, 1) := by decide +kernel
theorem dX10_order_110 : decode cX10_order 110 = .ok (.iaload, 1) := by decide +kernel
theorem dX10_order_111 : decode cX10_order 111 = .ok (.ifCond .lt 7, 3) := by decide +kernel
theorem dX10_order_114 : decode cX10_order 114 = .ok (.iconst 1, 1) := by decide +kernel
theorem dX10_order_115 : decode cX10_order 115 = .ok (.goto 4, 3) := by decide +kernel
theorem dX10_order_118 : decode cX10_order 118 = .ok (.iconst 0, 1) := by decide +kernel
theorem dX10_order_119 : decode cX10_order 119 = .ok (.iand, 1) := by decide +kernel
theorem dX10_order_120 : decode cX10_order 120 = .ok (.istore_n 3, 1) := by decide +kernel
theorem dX10_order_121 : decode cX10_order 121 = .ok (.iinc 4 1, 3) := by decide +kernel
theorem dX10_order_124 : decode cX10_order 124 = .ok (.goto (-69), 3) := by decide +kernel
theorem dX10_order_127 : decode cX10_order 127 = .ok (.iload_n 3, 1) := by decide +kernel
theorem dX10_order_128 : decode cX10_order 128 = .ok (.ifCond .eq 13, 3) := by decide +kernel
theorem dX10_order_131 : decode cX10_order 131 = .ok (.aload_n 0, 1) := by decide +kernel
theorem dX10_order_132 : decode cX10_order 132 = .ok (.getfield 91, 3) := by decide +kernel
theorem dX10_order_135 : decode cX10_order 135 = .ok (.iload_n 2, 1) := by decide +kernel
theorem dX10_order_136 : decode cX10_order 136 = .ok (.iload_n 1, 1) := by decide +kernel
theorem dX10_order_137 : decode cX10_order 137 = .ok (.iastore, 1) := by decide +kernel
theorem dX10_order_138 : decode cX10_order 138 = .ok (.iinc 1 1, 3) := by decide +kernel
theorem dX10_order_141 : decode cX10_order 141 = .ok (.iinc 2 1, 3) := by decide +kernel
theorem dX10_order_144 : decode cX10_order 144 = .ok (.goto (-113), 3) := by decide +kernel
theorem dX10_order_147 : decode cX10_order 147 = .ok (.goto (-124), 3) := by decide +kernel
theorem dX10_order_150 : decode cX10_order 150 = .ok (.return_, 1) := by decide +kernel
theorem dX10_nameAt_0 : decode cX10_nameAt 0 = .ok (.iconst 0, 1) := by decide +kernel
theorem dX10_nameAt_1 : decode cX10_nameAt 1 = .ok (.istore_n 2, 1) := by decide +kernel
theorem dX10_nameAt_2 : decode cX10_nameAt 2 = .ok (.aload_n 0, 1) := by decide +kernel
theorem dX10_nameAt_3 : decode cX10_nameAt 3 = .ok (.getfield 91, 3) := by decide +kernel
theorem dX10_nameAt_6 : decode cX10_nameAt 6 = .ok (.iload_n 2, 1) := by decide +kernel
theorem dX10_nameAt_7 : decode cX10_nameAt 7 = .ok (.iaload, 1) := by decide +kernel
theorem dX10_nameAt_8 : decode cX10_nameAt 8 = .ok (.iload_n 1, 1) := by decide +kernel
theorem dX10_nameAt_9 : decode cX10_nameAt 9 = .ok (.if_icmp .eq 9, 3) := by decide +kernel
theorem dX10_nameAt_12 : decode cX10_nameAt 12 = .ok (.iinc 2 1, 3) := by decide +kernel
theorem dX10_nameAt_15 : decode cX10_nameAt 15 = .ok (.goto (-13), 3) := by decide +kernel
theorem dX10_nameAt_18 : decode cX10_nameAt 18 = .ok (.iload_n 2, 1) := by decide +kernel
theorem dX10_nameAt_19 : decode cX10_nameAt 19 = .ok (.ireturn, 1) := by decide +kernel
theorem dX10_parse_0 : decode cX10_parse 0 = .ok (.aload_n 0, 1) := by decide +kernel
theorem dX10_parse_1 : decode cX10_parse 1 = .ok (.iconst 0, 1) := by decide +kernel
theorem dX10_parse_2 : decode cX10_parse 2 = .ok (.putfield 106, 3) := by decide +kernel
theorem dX10_parse_5 : decode cX10_parse 5 = .ok (.aload_n 0, 1) := by decide +kernel
theorem dX10_parse_6 : decode cX10_parse 6 = .ok (.getfield 172, 3) := by decide +kernel
theorem dX10_parse_9 : decode cX10_parse 9 = .ok (.ifCond .eq 10, 3) := by decide +kernel
theorem dX10_parse_12 : decode cX10_parse 12 = .ok (.aload_n 0, 1) := by decide +kernel
theorem dX10_parse_13 : decode cX10_parse 13 = .ok (.getfield 175, 3) := by decide +kernel
theorem dX10_parse_16 : decode cX10_parse 16 = .ok (.ifCond .ne 5, 3) := by decide +kernel
theorem dX10_parse_19 : decode cX10_parse 19 = .ok (.iconst (-1), 1) := by decide +kernel
theorem dX10_parse_20 : decode cX10_parse 20 = .ok (.ireturn, 1) := by decide +kernel
theorem dX10_parse_21 : decode cX10_parse 21 = .ok (.aload_n 0, 1) := by decide +kernel
theorem dX10_parse_22 : decode cX10_parse 22 = .ok (.iconst 1, 1) := by decide +kernel
theorem dX10_parse_23 : decode cX10_parse 23 = .ok (.putfield 219, 3) := by decide +kernel
theorem dX10_parse_26 : decode cX10_parse 26 = .ok (.aload_n 0, 1) := by decide +kernel
theorem dX10_parse_27 : decode cX10_parse 27 = .ok (.aload_n 0, 1) := by decide +kernel
theorem dX10_parse_28 : decode cX10_parse 28 = .ok (.getfield 175, 3) := by decide +kernel
theorem dX10_parse_31 : decode cX10_parse 31 = .ok (.putfield 192, 3) := by decide +kernel
theorem dX10_parse_34 : decode cX10_parse 34 = .ok (.aload_n 0, 1) := by decide +kernel
theorem dX10_parse_35 : decode cX10_parse 35 = .ok (.aload_n 0, 1) := by decide +kernel
theorem dX10_parse_36 : decode cX10_parse 36 = .ok (.getfield 172, 3) := by decide +kernel
theorem dX10_parse_39 : decode cX10_parse 39 = .ok (.putfield 216, 3) := by decide +kernel
theorem dX10_parse_42 : decode cX10_parse 42 = .ok (.iconst 0, 1) := by decide +kernel
theorem dX10_parse_43 : decode cX10_parse 43 = .ok (.istore_n 1, 1) := by decide +kernel
theorem dX10_parse_44 : decode cX10_parse 44 = .ok (.iload_n 1, 1) := by decide +kernel
theorem dX10_parse_45 : decode cX10_parse 45 = .ok (.aload_n 0, 1) := by decide +kernel
theorem dX10_parse_46 : decode cX10_parse 46 = .ok (.getfield 172, 3) := by decide +kernel
theorem dX10_parse_49 : decode cX10_parse 49 = .ok (.if_icmp .ge 57, 3) := by decide +kernel
theorem dX10_parse_52 : decode cX10_parse 52 = .ok (.aload_n 0, 1) := by decide +kernel
theorem dX10_parse_53 : decode cX10_parse 53 = .ok (.getfield 56, 3) := by decide +kernel
theorem dX10_parse_56 : decode cX10_parse 56 = .ok (.iload_n 1, 1) := by decide +kernel
theorem dX10_parse_57 : decode cX10_parse 57 = .ok (.aload_n 0, 1) := by decide +kernel
theorem dX10_parse_58 : decode cX10_parse 58 = .ok (.getfield 25, 3) := by decide +kernel
theorem dX10_parse_61 : decode cX10_parse 61 = .ok (.iload_n 1, 1) := by decide +kernel
theorem dX10_parse_62 : decode cX10_parse 62 = .ok (.iaload, 1) := by decide +kernel
theorem dX10_parse_63 : decode cX10_parse 63 = .ok (.iastore, 1) := by decide +kernel
theorem dX10_parse_64 : decode cX10_parse 64 = .ok (.aload_n 0, 1) := by decide +kernel
theorem dX10_parse_65 : decode cX10_parse 65 = .ok (.getfield 59, 3) := by decide +kernel
theorem dX10_parse_68 : decode cX10_parse 68 = .ok (.iload_n 1, 1) := by decide +kernel
theorem dX10_parse_69 : decode cX10_parse 69 = .ok (.aload_n 0, 1) := by decide +kernel
theorem dX10_parse_70 : decode cX10_parse 70 = .ok (.getfield 28, 3) := by decide +kernel
theorem dX10_parse_73 : decode cX10_parse 73 = .ok (.iload_n 1, 1) := by decide +kernel
theorem dX10_parse_74 : decode cX10_parse 74 = .ok (.iaload, 1) := by decide +kernel
theorem dX10_parse_75 : decode cX10_parse 75 = .ok (.iastore, 1) := by decide +kernel
theorem dX10_parse_76 : decode cX10_parse 76 = .ok (.aload_n 0, 1) := by decide +kernel
theorem dX10_parse_77 : decode cX10_parse 77 = .ok (.getfield 62, 3) := by decide +kernel
theorem dX10_parse_80 : decode cX10_parse 80 = .ok (.iload_n 1, 1) := by decide +kernel
theorem dX10_parse_81 : decode cX10_parse 81 = .ok (.aload_n 0, 1) := by decide +kernel
theorem dX10_parse_82 : decode cX10_parse 82 = .ok (.getfield 31, 3) := by decide +kernel
theorem dX10_parse_85 : decode cX10_parse 85 = .ok (.iload_n 1, 1) := by decide +kernel
theorem dX10_parse_86 : decode cX10_parse 86 = .ok (.iaload, 1) := by decide +kernel
theorem dX10_parse_87 : decode cX10_parse 87 = .ok (.iastore, 1) := by decide +kernel
theorem dX10_parse_88 : decode cX10_parse 88 = .ok (.aload_n 0, 1) := by decide +kernel
theorem dX10_parse_89 : decode cX10_parse 89 = .ok (.getfield 65, 3) := by decide +kernel
theorem dX10_parse_92 : decode cX10_parse 92 = .ok (.iload_n 1, 1) := by decide +kernel
theorem dX10_parse_93 : decode cX10_parse 93 = .ok (.aload_n 0, 1) := by decide +kernel
theorem dX10_parse_94 : decode cX10_parse 94 = .ok (.getfield 34, 3) := by decide +kernel
theorem dX10_parse_97 : decode cX10_parse 97 = .ok (.iload_n 1, 1) := by decide +kernel
theorem dX10_parse_98 : decode cX10_parse 98 = .ok (.iaload, 1) := by decide +kernel
theorem dX10_parse_99 : decode cX10_parse 99 = .ok (.iastore, 1) := by decide +kernel
theorem dX10_parse_100 : decode cX10_parse 100 = .ok (.iinc 1 1, 3) := by decide +kernel
theorem dX10_parse_103 : decode cX10_parse 103 = .ok (.goto (-59), 3) := by decide +kernel
theorem dX10_parse_106 : decode cX10_parse 106 = .ok (.iconst 0, 1) := by decide +kernel
theorem dX10_parse_107 : decode cX10_parse 107 = .ok (.istore_n 1, 1) := by decide +kernel
theorem dX10_parse_108 : decode cX10_parse 108 = .ok (.iload_n 1, 1) := by decide +kernel
theorem dX10_parse_109 : decode cX10_parse 109 = .ok (.aload_n 0, 1) := by decide +kernel
theorem dX10_parse_110 : decode cX10_parse 110 = .ok (.getfield 192, 3) := by decide +kernel
theorem dX10_parse_113 : decode cX10_parse 113 = .ok (.if_icmp .ge 21, 3) := by decide +kernel
theorem dX10_parse_116 : decode cX10_parse 116 = .ok (.aload_n 0, 1) := by decide +kernel
theorem dX10_parse_117 : decode cX10_parse 117 = .ok (.getfield 68, 3) := by decide +kernel
theorem dX10_parse_120 : decode cX10_parse 120 = .ok (.iload_n 1, 1) := by decide +kernel
theorem dX10_parse_121 : decode cX10_parse 121 = .ok (.aload_n 0, 1) := by decide +kernel
theorem dX10_parse_122 : decode cX10_parse 122 = .ok (.getfield 22, 3) := by decide +kernel
theorem dX10_parse_125 : decode cX10_parse 125 = .ok (.iload_n 1, 1) := by decide +kernel
theorem dX10_parse_126 : decode cX10_parse 126 = .ok (.iaload, 1) := by decide +kernel
theorem dX10_parse_127 : decode cX10_parse 127 = .ok (.iastore, 1) := by decide +kernel
theorem dX10_parse_128 : decode cX10_parse 128 = .ok (.iinc 1 1, 3) := by decide +kernel
theorem dX10_parse_131 : decode cX10_parse 131 = .ok (.goto (-23), 3) := by decide +kernel
theorem dX10_parse_134 : decode cX10_parse 134 = .ok (.aload_n 0, 1) := by decide +kernel
theorem dX10_parse_135 : decode cX10_parse 135 = .ok (.invokevirtual 222, 3) := by decide +kernel
theorem dX10_parse_138 : decode cX10_parse 138 = .ok (.aload_n 0, 1) := by decide +kernel
theorem dX10_parse_139 : decode cX10_parse 139 = .ok (.invokevirtual 225, 3) := by decide +kernel
theorem dX10_parse_142 : decode cX10_parse 142 = .ok (.iconst 0, 1) := by decide +kernel
theorem dX10_parse_143 : decode cX10_parse 143 = .ok (.istore_n 1, 1) := by decide +kernel
theorem dX10_parse_144 : decode cX10_parse 144 = .ok (.iload_n 1, 1) := by decide +kernel
theorem dX10_parse_145 : decode cX10_parse 145 = .ok (.sipush 7800, 3) := by decide +kernel
theorem dX10_parse_148 : decode cX10_parse 148 = .ok (.if_icmp .ge 23, 3) := by decide +kernel
theorem dX10_parse_151 : decode cX10_parse 151 = .ok (.aload_n 0, 1) := by decide +kernel
theorem dX10_parse_152 : decode cX10_parse 152 = .ok (.getfield 77, 3) := by decide +kernel
theorem dX10_parse_155 : decode cX10_parse 155 = .ok (.iload_n 1, 1) := by decide +kernel
theorem dX10_parse_156 : decode cX10_parse 156 = .ok (.iconst 0, 1) := by decide +kernel
theorem dX10_parse_157 : decode cX10_parse 157 = .ok (.iastore, 1) := by decide +kernel
theorem dX10_parse_158 : decode cX10_parse 158 = .ok (.aload_n 0, 1) := by decide +kernel
theorem dX10_parse_159 : decode cX10_parse 159 = .ok (.getfield 80, 3) := by decide +kernel
theorem dX10_parse_162 : decode cX10_parse 162 = .ok (.iload_n 1, 1) := by decide +kernel
theorem dX10_parse_163 : decode cX10_parse 163 = .ok (.lconst 0, 1) := by decide +kernel
theorem dX10_parse_164 : decode cX10_parse 164 = .ok (.lastore, 1) := by decide +kernel
theorem dX10_parse_165 : decode cX10_parse 165 = .ok (.iinc 1 1, 3) := by decide +kernel
theorem dX10_parse_168 : decode cX10_parse 168 = .ok (.goto (-24), 3) := by decide +kernel
theorem dX10_parse_171 : decode cX10_parse 171 = .ok (.iconst 0, 1) := by decide +kernel
theorem dX10_parse_172 : decode cX10_parse 172 = .ok (.istore_n 1, 1) := by decide +kernel
theorem dX10_parse_173 : decode cX10_parse 173 = .ok (.iload_n 1, 1) := by decide +kernel
theorem dX10_parse_174 : decode cX10_parse 174 = .ok (.aload_n 0, 1) := by decide +kernel
theorem dX10_parse_175 : decode cX10_parse 175 = .ok (.getfield 192, 3) := by decide +kernel
theorem dX10_parse_178 : decode cX10_parse 178 = .ok (.if_icmp .ge 139, 3) := by decide +kernel
theorem dX10_parse_181 : decode cX10_parse 181 = .ok (.iconst 0, 1) := by decide +kernel
theorem dX10_parse_182 : decode cX10_parse 182 = .ok (.istore_n 2, 1) := by decide +kernel
theorem dX10_parse_183 : decode cX10_parse 183 = .ok (.iload_n 2, 1) := by decide +kernel
theorem dX10_parse_184 : decode cX10_parse 184 = .ok (.iload_n 1, 1) := by decide +kernel
theorem dX10_parse_185 : decode cX10_parse 185 = .ok (.iadd, 1) := by decide +kernel
theorem dX10_parse_186 : decode cX10_parse 186 = .ok (.aload_n 0, 1) := by decide +kernel
theorem dX10_parse_187 : decode cX10_parse 187 = .ok (.getfield 192, 3) := by decide +kernel
theorem dX10_parse_190 : decode cX10_parse 190 = .ok (.if_icmp .ge 121, 3) := by decide +kernel
theorem dX10_parse_193 : decode cX10_parse 193 = .ok (.iconst 0, 1) := by decide +kernel
theorem dX10_parse_194 : decode cX10_parse 194 = .ok (.istore_n 3, 1) := by decide +kernel
theorem dX10_parse_195 : decode cX10_parse 195 = .ok (.iload_n 3, 1) := by decide +kernel
theorem dX10_parse_196 : decode cX10_parse 196 = .ok (.bipush 26, 2) := by decide +kernel
theorem dX10_parse_198 : decode cX10_parse 198 = .ok (.if_icmp .ge 107, 3) := by decide +kernel
theorem dX10_parse_201 : decode cX10_parse 201 = .ok (.aload_n 0, 1) := by decide +kernel
theorem dX10_parse_202 : decode cX10_parse 202 = .ok (.iload_n 3, 1) := by decide +kernel
theorem dX10_parse_203 : decode cX10_parse 203 = .ok (.invokevirtual 228, 3) := by decide +kernel
theorem dX10_parse_206 : decode cX10_parse 206 = .ok (.istore 4, 2) := by decide +kernel
theorem dX10_parse_208 : decode cX10_parse 208 = .ok (.iload 4, 2) := by decide +kernel
theorem dX10_parse_210 : decode cX10_parse 210 = .ok (.iload_n 2, 1) := by decide +kernel
theorem dX10_parse_211 : decode cX10_parse 211 = .ok (.iload_n 2, 1) := by decide +kernel
theorem dX10_parse_212 : decode cX10_parse 212 = .ok (.iload_n 1, 1) := by decide +kernel
theorem dX10_parse_213 : decode cX10_parse 213 = .ok (.iadd, 1) := by decide +kernel
theorem dX10_parse_214 : decode cX10_parse 214 = .ok (.invokestatic 198, 3) := by decide +kernel
theorem dX10_parse_217 : decode cX10_parse 217 = .ok (.istore 5, 2) := by decide +kernel
theorem dX10_parse_219 : decode cX10_parse 219 = .ok (.iconst 0, 1) := by decide +kernel
theorem dX10_parse_220 : decode cX10_parse 220 = .ok (.istore 6, 2) := by decide +kernel
theorem dX10_parse_222 : decode cX10_parse 222 = .ok (.iload 6, 2) := by decide +kernel
theorem dX10_parse_224 : decode cX10_parse 224 = .ok (.aload_n 0, 1) := by decide +kernel
theorem dX10_parse_225 : decode cX10_parse 225 = .ok (.getfield 216, 3) := by decide +kernel
theorem dX10_parse_228 : decode cX10_parse 228 = .ok (.if_icmp .ge 71, 3) := by decide +kernel
theorem dX10_parse_231 : decode cX10_parse 231 = .ok (.aload_n 0, 1) := by decide +kernel
theorem dX10_parse_232 : decode cX10_parse 232 = .ok (.getfield 56, 3) := by decide +kernel
theorem dX10_parse_235 : decode cX10_parse 235 = .ok (.iload 6, 2) := by decide +kernel
theorem dX10_parse_237 : decode cX10_parse 237 = .ok (.iaload, 1) := by decide +kernel
theorem dX10_parse_238 : decode cX10_parse 238 = .ok (.iload 4, 2) := by decide +kernel
theorem dX10_parse_240 : decode cX10_parse 240 = .ok (.if_icmp .ne 29, 3) := by decide +kernel
theorem dX10_parse_243 : decode cX10_parse 243 = .ok (.aload_n 0, 1) := by decide +kernel
theorem dX10_parse_244 : decode cX10_parse 244 = .ok (.getfield 62, 3) := by decide +kernel
theorem dX10_parse_247 : decode cX10_parse 247 = .ok (.iload 6, 2) := by decide +kernel
theorem dX10_parse_249 : decode cX10_parse 249 = .ok (.iaload, 1) := by decide +kernel
theorem dX10_parse_250 : decode cX10_parse 250 = .ok (.iconst (-1), 1) := by decide +kernel
theorem dX10_parse_251 : decode cX10_parse 251 = .ok (.if_icmp .ne 18, 3) := by decide +kernel
theorem dX10_parse_254 : decode cX10_parse 254 = .ok (.aload_n 0, 1) := by decide +kernel
