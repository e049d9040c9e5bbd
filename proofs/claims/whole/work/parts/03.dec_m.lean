theorem dX8_init_0 : decode cX8_init 0 = .ok (.aload_n 0, 1) := by decide +kernel
theorem dX8_init_1 : decode cX8_init 1 = .ok (.invokespecial 1, 3) := by decide +kernel
theorem dX8_init_4 : decode cX8_init 4 = .ok (.aload_n 0, 1) := by decide +kernel
theorem dX8_init_5 : decode cX8_init 5 = .ok (.sipush 3108, 3) := by decide +kernel
theorem dX8_init_8 : decode cX8_init 8 = .ok (.newarray .int, 2) := by decide +kernel
theorem dX8_init_10 : decode cX8_init 10 = .ok (.putfield 7, 3) := by decide +kernel
theorem dX8_init_13 : decode cX8_init 13 = .ok (.aload_n 0, 1) := by decide +kernel
theorem dX8_init_14 : decode cX8_init 14 = .ok (.sipush 3108, 3) := by decide +kernel
theorem dX8_init_17 : decode cX8_init 17 = .ok (.newarray .int, 2) := by decide +kernel
theorem dX8_init_19 : decode cX8_init 19 = .ok (.putfield 13, 3) := by decide +kernel
theorem dX8_init_22 : decode cX8_init 22 = .ok (.aload_n 0, 1) := by decide +kernel
theorem dX8_init_23 : decode cX8_init 23 = .ok (.sipush 3108, 3) := by decide +kernel
theorem dX8_init_26 : decode cX8_init 26 = .ok (.newarray .int, 2) := by decide +kernel
theorem dX8_init_28 : decode cX8_init 28 = .ok (.putfield 16, 3) := by decide +kernel
theorem dX8_init_31 : decode cX8_init 31 = .ok (.aload_n 0, 1) := by decide +kernel
theorem dX8_init_32 : decode cX8_init 32 = .ok (.iconst 4, 1) := by decide +kernel
theorem dX8_init_33 : decode cX8_init 33 = .ok (.newarray .int, 2) := by decide +kernel
theorem dX8_init_35 : decode cX8_init 35 = .ok (.putfield 19, 3) := by decide +kernel
theorem dX8_init_38 : decode cX8_init 38 = .ok (.aload_n 0, 1) := by decide +kernel
theorem dX8_init_39 : decode cX8_init 39 = .ok (.iconst 4, 1) := by decide +kernel
theorem dX8_init_40 : decode cX8_init 40 = .ok (.newarray .int, 2) := by decide +kernel
theorem dX8_init_42 : decode cX8_init 42 = .ok (.putfield 22, 3) := by decide +kernel
theorem dX8_init_45 : decode cX8_init 45 = .ok (.aload_n 0, 1) := by decide +kernel
theorem dX8_init_46 : decode cX8_init 46 = .ok (.bipush 96, 2) := by decide +kernel
theorem dX8_init_48 : decode cX8_init 48 = .ok (.newarray .int, 2) := by decide +kernel
theorem dX8_init_50 : decode cX8_init 50 = .ok (.putfield 25, 3) := by decide +kernel
theorem dX8_init_53 : decode cX8_init 53 = .ok (.aload_n 0, 1) := by decide +kernel
theorem dX8_init_54 : decode cX8_init 54 = .ok (.iconst 5, 1) := by decide +kernel
theorem dX8_init_55 : decode cX8_init 55 = .ok (.newarray .int, 2) := by decide +kernel
theorem dX8_init_57 : decode cX8_init 57 = .ok (.putfield 28, 3) := by decide +kernel
theorem dX8_init_60 : decode cX8_init 60 = .ok (.aload_n 0, 1) := by decide +kernel
theorem dX8_init_61 : decode cX8_init 61 = .ok (.iconst 5, 1) := by decide +kernel
theorem dX8_init_62 : decode cX8_init 62 = .ok (.newarray .int, 2) := by decide +kernel
theorem dX8_init_64 : decode cX8_init 64 = .ok (.putfield 31, 3) := by decide +kernel
theorem dX8_init_67 : decode cX8_init 67 = .ok (.aload_n 0, 1) := by decide +kernel
theorem dX8_init_68 : decode cX8_init 68 = .ok (.iconst 5, 1) := by decide +kernel
theorem dX8_init_69 : decode cX8_init 69 = .ok (.newarray .int, 2) := by decide +kernel
theorem dX8_init_71 : decode cX8_init 71 = .ok (.putfield 34, 3) := by decide +kernel
theorem dX8_init_74 : decode cX8_init 74 = .ok (.aload_n 0, 1) := by decide +kernel
theorem dX8_init_75 : decode cX8_init 75 = .ok (.iconst 5, 1) := by decide +kernel
theorem dX8_init_76 : decode cX8_init 76 = .ok (.newarray .int, 2) := by decide +kernel
theorem dX8_init_78 : decode cX8_init 78 = .ok (.putfield 37, 3) := by decide +kernel
theorem dX8_init_81 : decode cX8_init 81 = .ok (.aload_n 0, 1) := by decide +kernel
theorem dX8_init_82 : decode cX8_init 82 = .ok (.bipush 120, 2) := by decide +kernel
theorem dX8_init_84 : decode cX8_init 84 = .ok (.newarray .int, 2) := by decide +kernel
theorem dX8_init_86 : decode cX8_init 86 = .ok (.putfield 40, 3) := by decide +kernel
theorem dX8_init_89 : decode cX8_init 89 = .ok (.aload_n 0, 1) := by decide +kernel
theorem dX8_init_90 : decode cX8_init 90 = .ok (.bipush 8, 2) := by decide +kernel
theorem dX8_init_92 : decode cX8_init 92 = .ok (.newarray .int, 2) := by decide +kernel
theorem dX8_init_94 : decode cX8_init 94 = .ok (.putfield 43, 3) := by decide +kernel
theorem dX8_init_97 : decode cX8_init 97 = .ok (.aload_n 0, 1) := by decide +kernel
theorem dX8_init_98 : decode cX8_init 98 = .ok (.iconst (-1), 1) := by decide +kernel
theorem dX8_init_99 : decode cX8_init 99 = .ok (.putfield 46, 3) := by decide +kernel
theorem dX8_init_102 : decode cX8_init 102 = .ok (.aload_n 0, 1) := by decide +kernel
theorem dX8_init_103 : decode cX8_init 103 = .ok (.bipush 108, 2) := by decide +kernel
theorem dX8_init_105 : decode cX8_init 105 = .ok (.newarray .int, 2) := by decide +kernel
theorem dX8_init_107 : decode cX8_init 107 = .ok (.putfield 50, 3) := by decide +kernel
theorem dX8_init_110 : decode cX8_init 110 = .ok (.aload_n 0, 1) := by decide +kernel
theorem dX8_init_111 : decode cX8_init 111 = .ok (.bipush 96, 2) := by decide +kernel
theorem dX8_init_113 : decode cX8_init 113 = .ok (.newarray .int, 2) := by decide +kernel
theorem dX8_init_115 : decode cX8_init 115 = .ok (.putfield 53, 3) := by decide +kernel
theorem dX8_init_118 : decode cX8_init 118 = .ok (.aload_n 0, 1) := by decide +kernel
theorem dX8_init_119 : decode cX8_init 119 = .ok (.sipush 128, 3) := by decide +kernel
theorem dX8_init_122 : decode cX8_init 122 = .ok (.newarray .int, 2) := by decide +kernel
theorem dX8_init_124 : decode cX8_init 124 = .ok (.putfield 56, 3) := by decide +kernel
theorem dX8_init_127 : decode cX8_init 127 = .ok (.aload_n 0, 1) := by decide +kernel
theorem dX8_init_128 : decode cX8_init 128 = .ok (.bipush 100, 2) := by decide +kernel
theorem dX8_init_130 : decode cX8_init 130 = .ok (.newarray .int, 2) := by decide +kernel
theorem dX8_init_132 : decode cX8_init 132 = .ok (.putfield 59, 3) := by decide +kernel
theorem dX8_init_135 : decode cX8_init 135 = .ok (.aload_n 0, 1) := by decide +kernel
theorem dX8_init_136 : decode cX8_init 136 = .ok (.bipush 24, 2) := by decide +kernel
theorem dX8_init_138 : decode cX8_init 138 = .ok (.newarray .int, 2) := by decide +kernel
theorem dX8_init_140 : decode cX8_init 140 = .ok (.putfield 62, 3) := by decide +kernel
theorem dX8_init_143 : decode cX8_init 143 = .ok (.aload_n 0, 1) := by decide +kernel
theorem dX8_init_144 : decode cX8_init 144 = .ok (.bipush 60, 2) := by decide +kernel
theorem dX8_init_146 : decode cX8_init 146 = .ok (.newarray .int, 2) := by decide +kernel
theorem dX8_init_148 : decode cX8_init 148 = .ok (.putfield 65, 3) := by decide +kernel
theorem dX8_init_151 : decode cX8_init 151 = .ok (.aload_n 0, 1) := by decide +kernel
theorem dX8_init_152 : decode cX8_init 152 = .ok (.bipush 60, 2) := by decide +kernel
theorem dX8_init_154 : decode cX8_init 154 = .ok (.newarray .int, 2) := by decide +kernel
theorem dX8_init_156 : decode cX8_init 156 = .ok (.putfield 68, 3) := by decide +kernel
theorem dX8_init_159 : decode cX8_init 159 = .ok (.aload_n 0, 1) := by decide +kernel
theorem dX8_init_160 : decode cX8_init 160 = .ok (.getfield 7, 3) := by decide +kernel
theorem dX8_init_163 : decode cX8_init 163 = .ok (.iconst 3, 1) := by decide +kernel
theorem dX8_init_164 : decode cX8_init 164 = .ok (.bipush 15, 2) := by decide +kernel
theorem dX8_init_166 : decode cX8_init 166 = .ok (.iastore, 1) := by decide +kernel
theorem dX8_init_167 : decode cX8_init 167 = .ok (.aload_n 0, 1) := by decide +kernel
theorem dX8_init_168 : decode cX8_init 168 = .ok (.getfield 7, 3) := by decide +kernel
theorem dX8_init_171 : decode cX8_init 171 = .ok (.iconst 4, 1) := by decide +kernel
theorem dX8_init_172 : decode cX8_init 172 = .ok (.bipush 9, 2) := by decide +kernel
theorem dX8_init_174 : decode cX8_init 174 = .ok (.iastore, 1) := by decide +kernel
theorem dX8_init_175 : decode cX8_init 175 = .ok (.aload_n 0, 1) := by decide +kernel
theorem dX8_init_176 : decode cX8_init 176 = .ok (.getfield 7, 3) := by decide +kernel
theorem dX8_init_179 : decode cX8_init 179 = .ok (.iconst 5, 1) := by decide +kernel
theorem dX8_init_180 : decode cX8_init 180 = .ok (.iconst 3, 1) := by decide +kernel
theorem dX8_init_181 : decode cX8_init 181 = .ok (.iastore, 1) := by decide +kernel
theorem dX8_init_182 : decode cX8_init 182 = .ok (.aload_n 0, 1) := by decide +kernel
theorem dX8_init_183 : decode cX8_init 183 = .ok (.getfield 7, 3) := by decide +kernel
theorem dX8_init_186 : decode cX8_init 186 = .ok (.bipush 6, 2) := by decide +kernel
theorem dX8_init_188 : decode cX8_init 188 = .ok (.iconst 1, 1) := by decide +kernel
theorem dX8_init_189 : decode cX8_init 189 = .ok (.iastore, 1) := by decide +kernel
theorem dX8_init_190 : decode cX8_init 190 = .ok (.aload_n 0, 1) := by decide +kernel
theorem dX8_init_191 : decode cX8_init 191 = .ok (.getfield 7, 3) := by decide +kernel
theorem dX8_init_194 : decode cX8_init 194 = .ok (.bipush 10, 2) := by decide +kernel
theorem dX8_init_196 : decode cX8_init 196 = .ok (.iconst 1, 1) := by decide +kernel
theorem dX8_init_197 : decode cX8_init 197 = .ok (.iastore, 1) := by decide +kernel
theorem dX8_init_198 : decode cX8_init 198 = .ok (.iconst 0, 1) := by decide +kernel
theorem dX8_init_199 : decode cX8_init 199 = .ok (.istore_n 1, 1) := by decide +kernel
theorem dX8_init_200 : decode cX8_init 200 = .ok (.iload_n 1, 1) := by decide +kernel
theorem dX8_init_201 : decode cX8_init 201 = .ok (.iconst 4, 1) := by decide +kernel
theorem dX8_init_202 : decode cX8_init 202 = .ok (.if_icmp .ge 16, 3) := by decide +kernel
theorem dX8_init_205 : decode cX8_init 205 = .ok (.aload_n 0, 1) := by decide +kernel
theorem dX8_init_206 : decode cX8_init 206 = .ok (.getfield 19, 3) := by decide +kernel
theorem dX8_init_209 : decode cX8_init 209 = .ok (.iload_n 1, 1) := by decide +kernel
theorem dX8_init_210 : decode cX8_init 210 = .ok (.iconst (-1), 1) := by decide +kernel
theorem dX8_init_211 : decode cX8_init 211 = .ok (.iastore, 1) := by decide +kernel
theorem dX8_init_212 : decode cX8_init 212 = .ok (.iinc 1 1, 3) := by decide +kernel
theorem dX8_init_215 : decode cX8_init 215 = .ok (.goto (-15), 3) := by decide +kernel
theorem dX8_init_218 : decode cX8_init 218 = .ok (.return_, 1) := by decide +kernel
theorem dX8_isIn_0 : decode cX8_isIn 0 = .ok (.lload_n 0, 1) := by decide +kernel
theorem dX8_isIn_1 : decode cX8_isIn 1 = .ok (.lload_n 2, 1) := by decide +kernel
theorem dX8_isIn_2 : decode cX8_isIn 2 = .ok (.lcmp, 1) := by decide +kernel
theorem dX8_isIn_3 : decode cX8_isIn 3 = .ok (.ifCond .lt 14, 3) := by decide +kernel
theorem dX8_isIn_6 : decode cX8_isIn 6 = .ok (.lload_n 0, 1) := by decide +kernel
theorem dX8_isIn_7 : decode cX8_isIn 7 = .ok (.lload 4, 2) := by decide +kernel
theorem dX8_isIn_9 : decode cX8_isIn 9 = .ok (.lcmp, 1) := by decide +kernel
theorem dX8_isIn_10 : decode cX8_isIn 10 = .ok (.ifCond .gt 7, 3) := by decide +kernel
theorem dX8_isIn_13 : decode cX8_isIn 13 = .ok (.iconst 1, 1) := by decide +kernel
theorem dX8_isIn_14 : decode cX8_isIn 14 = .ok (.goto 4, 3) := by decide +kernel
theorem dX8_isIn_17 : decode cX8_isIn 17 = .ok (.iconst 0, 1) := by decide +kernel
theorem dX8_isIn_18 : decode cX8_isIn 18 = .ok (.ireturn, 1) := by decide +kernel
theorem dX8_orNone_0 : decode cX8_orNone 0 = .ok (.iload_n 0, 1) := by decide +kernel
theorem dX8_orNone_1 : decode cX8_orNone 1 = .ok (.ifCond .ge 8, 3) := by decide +kernel
theorem dX8_orNone_4 : decode cX8_orNone 4 = .ok (.ldc 71, 2) := by decide +kernel
theorem dX8_orNone_6 : decode cX8_orNone 6 = .ok (.goto 4, 3) := by decide +kernel
theorem dX8_orNone_9 : decode cX8_orNone 9 = .ok (.iload_n 0, 1) := by decide +kernel
theorem dX8_orNone_10 : decode cX8_orNone 10 = .ok (.ireturn, 1) := by decide +kernel
theorem dX8_within_0 : decode cX8_within 0 = .ok (.iload_n 0, 1) := by decide +kernel
theorem dX8_within_1 : decode cX8_within 1 = .ok (.ifCond .ge 7, 3) := by decide +kernel
theorem dX8_within_4 : decode cX8_within 4 = .ok (.iconst 0, 1) := by decide +kernel
theorem dX8_within_5 : decode cX8_within 5 = .ok (.goto 13, 3) := by decide +kernel
theorem dX8_within_8 : decode cX8_within 8 = .ok (.iload_n 0, 1) := by decide +kernel
theorem dX8_within_9 : decode cX8_within 9 = .ok (.iload_n 1, 1) := by decide +kernel
theorem dX8_within_10 : decode cX8_within 10 = .ok (.if_icmp .le 7, 3) := by decide +kernel
theorem dX8_within_13 : decode cX8_within 13 = .ok (.iload_n 1, 1) := by decide +kernel
theorem dX8_within_14 : decode cX8_within 14 = .ok (.goto 4, 3) := by decide +kernel
theorem dX8_within_17 : decode cX8_within 17 = .ok (.iload_n 0, 1) := by decide +kernel
theorem dX8_within_18 : decode cX8_within 18 = .ok (.ireturn, 1) := by decide +kernel
theorem dX8_becomes_0 : decode cX8_becomes 0 = .ok (.aload_n 0, 1) := by decide +kernel
theorem dX8_becomes_1 : decode cX8_becomes 1 = .ok (.getfield 7, 3) := by decide +kernel
theorem dX8_becomes_4 : decode cX8_becomes 4 = .ok (.iload_n 1, 1) := by decide +kernel
theorem dX8_becomes_5 : decode cX8_becomes 5 = .ok (.iaload, 1) := by decide +kernel
theorem dX8_becomes_6 : decode cX8_becomes 6 = .ok (.istore_n 3, 1) := by decide +kernel
theorem dX8_becomes_7 : decode cX8_becomes 7 = .ok (.aload_n 0, 1) := by decide +kernel
theorem dX8_becomes_8 : decode cX8_becomes 8 = .ok (.getfield 7, 3) := by decide +kernel
theorem dX8_becomes_11 : decode cX8_becomes 11 = .ok (.iload_n 1, 1) := by decide +kernel
theorem dX8_becomes_12 : decode cX8_becomes 12 = .ok (.iload_n 2, 1) := by decide +kernel
theorem dX8_becomes_13 : decode cX8_becomes 13 = .ok (.iastore, 1) := by decide +kernel
theorem dX8_becomes_14 : decode cX8_becomes 14 = .ok (.iload_n 3, 1) := by decide +kernel
theorem dX8_becomes_15 : decode cX8_becomes 15 = .ok (.ireturn, 1) := by decide +kernel
theorem dX8_textAt_0 : decode cX8_textAt 0 = .ok (.bipush 108, 2) := by decide +kernel
theorem dX8_textAt_2 : decode cX8_textAt 2 = .ok (.sipush 200, 3) := by decide +kernel
theorem dX8_textAt_5 : decode cX8_textAt 5 = .ok (.iload_n 1, 1) := by decide +kernel
theorem dX8_textAt_6 : decode cX8_textAt 6 = .ok (.imul, 1) := by decide +kernel
theorem dX8_textAt_7 : decode cX8_textAt 7 = .ok (.iadd, 1) := by decide +kernel
theorem dX8_textAt_8 : decode cX8_textAt 8 = .ok (.ireturn, 1) := by decide +kernel
theorem dX8_of_0 : decode cX8_of 0 = .ok (.aload_n 0, 1) := by decide +kernel
theorem dX8_of_1 : decode cX8_of 1 = .ok (.getfield 7, 3) := by decide +kernel
theorem dX8_of_4 : decode cX8_of 4 = .ok (.bipush 12, 2) := by decide +kernel
theorem dX8_of_6 : decode cX8_of 6 = .ok (.bipush 12, 2) := by decide +kernel
theorem dX8_of_8 : decode cX8_of 8 = .ok (.iload_n 1, 1) := by decide +kernel
theorem dX8_of_9 : decode cX8_of 9 = .ok (.imul, 1) := by decide +kernel
theorem dX8_of_10 : decode cX8_of 10 = .ok (.iadd, 1) := by decide +kernel
theorem dX8_of_11 : decode cX8_of 11 = .ok (.iload_n 2, 1) := by decide +kernel
theorem dX8_of_12 : decode cX8_of 12 = .ok (.iadd, 1) := by decide +kernel
theorem dX8_of_13 : decode cX8_of 13 = .ok (.iaload, 1) := by decide +kernel
theorem dX8_of_14 : decode cX8_of 14 = .ok (.ireturn, 1) := by decide +kernel
theorem dX8_sets_0 : decode cX8_sets 0 = .ok (.aload_n 0, 1) := by decide +kernel
theorem dX8_sets_1 : decode cX8_sets 1 = .ok (.getfield 7, 3) := by decide +kernel
theorem dX8_sets_4 : decode cX8_sets 4 = .ok (.bipush 12, 2) := by decide +kernel
theorem dX8_sets_6 : decode cX8_sets 6 = .ok (.bipush 12, 2) := by decide +kernel
theorem dX8_sets_8 : decode cX8_sets 8 = .ok (.iload_n 1, 1) := by decide +kernel
theorem dX8_sets_9 : decode cX8_sets 9 = .ok (.imul, 1) := by decide +kernel
theorem dX8_sets_10 : decode cX8_sets 10 = .ok (.iadd, 1) := by decide +kernel
theorem dX8_sets_11 : decode cX8_sets 11 = .ok (.iload_n 2, 1) := by decide +kernel
theorem dX8_sets_12 : decode cX8_sets 12 = .ok (.iadd, 1) := by decide +kernel
theorem dX8_sets_13 : decode cX8_sets 13 = .ok (.iload_n 3, 1) := by decide +kernel
theorem dX8_sets_14 : decode cX8_sets 14 = .ok (.iastore, 1) := by decide +kernel
theorem dX8_sets_15 : decode cX8_sets 15 = .ok (.return_, 1) := by decide +kernel
theorem dX8_more_0 : decode cX8_more 0 = .ok (.aload_n 0, 1) := by decide +kernel
theorem dX8_more_1 : decode cX8_more 1 = .ok (.getfield 7, 3) := by decide +kernel
theorem dX8_more_4 : decode cX8_more 4 = .ok (.bipush 12, 2) := by decide +kernel
theorem dX8_more_6 : decode cX8_more 6 = .ok (.bipush 12, 2) := by decide +kernel
theorem dX8_more_8 : decode cX8_more 8 = .ok (.iload_n 1, 1) := by decide +kernel
theorem dX8_more_9 : decode cX8_more 9 = .ok (.imul, 1) := by decide +kernel
theorem dX8_more_10 : decode cX8_more 10 = .ok (.iadd, 1) := by decide +kernel
theorem dX8_more_11 : decode cX8_more 11 = .ok (.iload_n 2, 1) := by decide +kernel
theorem dX8_more_12 : decode cX8_more 12 = .ok (.iadd, 1) := by decide +kernel
theorem dX8_more_13 : decode cX8_more 13 = .ok (.dup2, 1) := by decide +kernel
theorem dX8_more_14 : decode cX8_more 14 = .ok (.iaload, 1) := by decide +kernel
theorem dX8_more_15 : decode cX8_more 15 = .ok (.iconst 1, 1) := by decide +kernel
theorem dX8_more_16 : decode cX8_more 16 = .ok (.iadd, 1) := by decide +kernel
theorem dX8_more_17 : decode cX8_more 17 = .ok (.iastore, 1) := by decide +kernel
theorem dX8_more_18 : decode cX8_more 18 = .ok (.return_, 1) := by decide +kernel
theorem dX8_isComer_0 : decode cX8_isComer 0 = .ok (.iload_n 1, 1) := by decide +kernel
theorem dX8_isComer_1 : decode cX8_isComer 1 = .ok (.i2l, 1) := by decide +kernel
theorem dX8_isComer_2 : decode cX8_isComer 2 = .ok (.lconst 0, 1) := by decide +kernel
theorem dX8_isComer_3 : decode cX8_isComer 3 = .ok (.aload_n 0, 1) := by decide +kernel
theorem dX8_isComer_4 : decode cX8_isComer 4 = .ok (.getfield 7, 3) := by decide +kernel
theorem dX8_isComer_7 : decode cX8_isComer 7 = .ok (.iconst 0, 1) := by decide +kernel
theorem dX8_isComer_8 : decode cX8_isComer 8 = .ok (.iaload, 1) := by decide +kernel
theorem dX8_isComer_9 : decode cX8_isComer 9 = .ok (.iconst 1, 1) := by decide +kernel
theorem dX8_isComer_10 : decode cX8_isComer 10 = .ok (.isub, 1) := by decide +kernel
theorem dX8_isComer_11 : decode cX8_isComer 11 = .ok (.i2l, 1) := by decide +kernel
theorem dX8_isComer_12 : decode cX8_isComer 12 = .ok (.invokestatic 72, 3) := by decide +kernel
theorem dX8_isComer_15 : decode cX8_isComer 15 = .ok (.ireturn, 1) := by decide +kernel
theorem dX8_isText_0 : decode cX8_isText 0 = .ok (.iload_n 1, 1) := by decide +kernel
theorem dX8_isText_1 : decode cX8_isText 1 = .ok (.i2l, 1) := by decide +kernel
theorem dX8_isText_2 : decode cX8_isText 2 = .ok (.lconst 0, 1) := by decide +kernel
theorem dX8_isText_3 : decode cX8_isText 3 = .ok (.aload_n 0, 1) := by decide +kernel
theorem dX8_isText_4 : decode cX8_isText 4 = .ok (.getfield 7, 3) := by decide +kernel
theorem dX8_isText_7 : decode cX8_isText 7 = .ok (.iconst 1, 1) := by decide +kernel
theorem dX8_isText_8 : decode cX8_isText 8 = .ok (.iaload, 1) := by decide +kernel
theorem dX8_isText_9 : decode cX8_isText 9 = .ok (.iconst 1, 1) := by decide +kernel
theorem dX8_isText_10 : decode cX8_isText 10 = .ok (.isub, 1) := by decide +kernel
theorem dX8_isText_11 : decode cX8_isText 11 = .ok (.i2l, 1) := by decide +kernel
theorem dX8_isText_12 : decode cX8_isText 12 = .ok (.invokestatic 72, 3) := by decide +kernel
theorem dX8_isText_15 : decode cX8_isText 15 = .ok (.ireturn, 1) := by decide +kernel
theorem dX8_drawn_0 : decode cX8_drawn 0 = .ok (.aload_n 0, 1) := by decide +kernel
theorem dX8_drawn_1 : decode cX8_drawn 1 = .ok (.getfield 7, 3) := by decide +kernel
theorem dX8_drawn_4 : decode cX8_drawn 4 = .ok (.bipush 10, 2) := by decide +kernel
theorem dX8_drawn_6 : decode cX8_drawn 6 = .ok (.aload_n 0, 1) := by decide +kernel
theorem dX8_drawn_7 : decode cX8_drawn 7 = .ok (.getfield 7, 3) := by decide +kernel
theorem dX8_drawn_10 : decode cX8_drawn 10 = .ok (.bipush 10, 2) := by decide +kernel
theorem dX8_drawn_12 : decode cX8_drawn 12 = .ok (.iaload, 1) := by decide +kernel
theorem dX8_drawn_13 : decode cX8_drawn 13 = .ok (.ldc 76, 2) := by decide +kernel
theorem dX8_drawn_15 : decode cX8_drawn 15 = .ok (.imul, 1) := by decide +kernel
theorem dX8_drawn_16 : decode cX8_drawn 16 = .ok (.sipush 12345, 3) := by decide +kernel
theorem dX8_drawn_19 : decode cX8_drawn 19 = .ok (.iadd, 1) := by decide +kernel
theorem dX8_drawn_20 : decode cX8_drawn 20 = .ok (.iastore, 1) := by decide +kernel
theorem dX8_drawn_21 : decode cX8_drawn 21 = .ok (.aload_n 0, 1) := by decide +kernel
theorem dX8_drawn_22 : decode cX8_drawn 22 = .ok (.getfield 7, 3) := by decide +kernel
theorem dX8_drawn_25 : decode cX8_drawn 25 = .ok (.bipush 10, 2) := by decide +kernel
theorem dX8_drawn_27 : decode cX8_drawn 27 = .ok (.iaload, 1) := by decide +kernel
theorem dX8_drawn_28 : decode cX8_drawn 28 = .ok (.bipush 8, 2) := by decide +kernel
theorem dX8_drawn_30 : decode cX8_drawn 30 = .ok (.iushr, 1) := by decide +kernel
theorem dX8_drawn_31 : decode cX8_drawn 31 = .ok (.ireturn, 1) := by decide +kernel
theorem dX8_comes_0 : decode cX8_comes 0 = .ok (.bipush 12, 2) := by decide +kernel
theorem dX8_comes_2 : decode cX8_comes 2 = .ok (.bipush 12, 2) := by decide +kernel
theorem dX8_comes_4 : decode cX8_comes 4 = .ok (.aload_n 0, 1) := by decide +kernel
theorem dX8_comes_5 : decode cX8_comes 5 = .ok (.getfield 7, 3) := by decide +kernel
theorem dX8_comes_8 : decode cX8_comes 8 = .ok (.iconst 0, 1) := by decide +kernel
theorem dX8_comes_9 : decode cX8_comes 9 = .ok (.iaload, 1) := by decide +kernel
theorem dX8_comes_10 : decode cX8_comes 10 = .ok (.imul, 1) := by decide +kernel
theorem dX8_comes_11 : decode cX8_comes 11 = .ok (.iadd, 1) := by decide +kernel
theorem dX8_comes_12 : decode cX8_comes 12 = .ok (.istore 5, 2) := by decide +kernel
theorem dX8_comes_14 : decode cX8_comes 14 = .ok (.iconst 0, 1) := by decide +kernel
theorem dX8_comes_15 : decode cX8_comes 15 = .ok (.istore 6, 2) := by decide +kernel
theorem dX8_comes_17 : decode cX8_comes 17 = .ok (.iload 6, 2) := by decide +kernel
theorem dX8_comes_19 : decode cX8_comes 19 = .ok (.bipush 12, 2) := by decide +kernel
theorem dX8_comes_21 : decode cX8_comes 21 = .ok (.if_icmp .ge 20, 3) := by decide +kernel
theorem dX8_comes_24 : decode cX8_comes 24 = .ok (.aload_n 0, 1) := by decide +kernel
theorem dX8_comes_25 : decode cX8_comes 25 = .ok (.getfield 7, 3) := by decide +kernel
theorem dX8_comes_28 : decode cX8_comes 28 = .ok (.iload 5, 2) := by decide +kernel
theorem dX8_comes_30 : decode cX8_comes 30 = .ok (.iload 6, 2) := by decide +kernel
theorem dX8_comes_32 : decode cX8_comes 32 = .ok (.iadd, 1) := by decide +kernel
theorem dX8_comes_33 : decode cX8_comes 33 = .ok (.iconst 0, 1) := by decide +kernel
theorem dX8_comes_34 : decode cX8_comes 34 = .ok (.iastore, 1) := by decide +kernel
theorem dX8_comes_35 : decode cX8_comes 35 = .ok (.iinc 6 1, 3) := by decide +kernel
theorem dX8_comes_38 : decode cX8_comes 38 = .ok (.goto (-21), 3) := by decide +kernel
theorem dX8_comes_41 : decode cX8_comes 41 = .ok (.aload_n 0, 1) := by decide +kernel
theorem dX8_comes_42 : decode cX8_comes 42 = .ok (.getfield 7, 3) := by decide +kernel
theorem dX8_comes_45 : decode cX8_comes 45 = .ok (.iload 5, 2) := by decide +kernel
theorem dX8_comes_47 : decode cX8_comes 47 = .ok (.iload_n 1, 1) := by decide +kernel
theorem dX8_comes_48 : decode cX8_comes 48 = .ok (.iastore, 1) := by decide +kernel
theorem dX8_comes_49 : decode cX8_comes 49 = .ok (.aload_n 0, 1) := by decide +kernel
theorem dX8_comes_50 : decode cX8_comes 50 = .ok (.getfield 7, 3) := by decide +kernel
theorem dX8_comes_53 : decode cX8_comes 53 = .ok (.iload 5, 2) := by decide +kernel
theorem dX8_comes_55 : decode cX8_comes 55 = .ok (.iconst 1, 1) := by decide +kernel
theorem dX8_comes_56 : decode cX8_comes 56 = .ok (.iadd, 1) := by decide +kernel
theorem dX8_comes_57 : decode cX8_comes 57 = .ok (.iload_n 2, 1) := by decide +kernel
theorem dX8_comes_58 : decode cX8_comes 58 = .ok (.iastore, 1) := by decide +kernel
theorem dX8_comes_59 : decode cX8_comes 59 = .ok (.aload_n 0, 1) := by decide +kernel
theorem dX8_comes_60 : decode cX8_comes 60 = .ok (.getfield 7, 3) := by decide +kernel
theorem dX8_comes_63 : decode cX8_comes 63 = .ok (.iload 5, 2) := by decide +kernel
theorem dX8_comes_65 : decode cX8_comes 65 = .ok (.iconst 2, 1) := by decide +kernel
theorem dX8_comes_66 : decode cX8_comes 66 = .ok (.iadd, 1) := by decide +kernel
theorem dX8_comes_67 : decode cX8_comes 67 = .ok (.iload_n 3, 1) := by decide +kernel
theorem dX8_comes_68 : decode cX8_comes 68 = .ok (.iastore, 1) := by decide +kernel
theorem dX8_comes_69 : decode cX8_comes 69 = .ok (.aload_n 0, 1) := by decide +kernel
theorem dX8_comes_70 : decode cX8_comes 70 = .ok (.getfield 7, 3) := by decide +kernel
theorem dX8_comes_73 : decode cX8_comes 73 = .ok (.iload 5, 2) := by decide +kernel
theorem dX8_comes_75 : decode cX8_comes 75 = .ok (.iconst 3, 1) := by decide +kernel
theorem dX8_comes_76 : decode cX8_comes 76 = .ok (.iadd, 1) := by decide +kernel
theorem dX8_comes_77 : decode cX8_comes 77 = .ok (.iload 4, 2) := by decide +kernel
theorem dX8_comes_79 : decode cX8_comes 79 = .ok (.iastore, 1) := by decide +kernel
theorem dX8_comes_80 : decode cX8_comes 80 = .ok (.aload_n 0, 1) := by decide +kernel
theorem dX8_comes_81 : decode cX8_comes 81 = .ok (.getfield 7, 3) := by decide +kernel
theorem dX8_comes_84 : decode cX8_comes 84 = .ok (.iload 5, 2) := by decide +kernel
theorem dX8_comes_86 : decode cX8_comes 86 = .ok (.iconst 4, 1) := by decide +kernel
theorem dX8_comes_87 : decode cX8_comes 87 = .ok (.iadd, 1) := by decide +kernel
theorem dX8_comes_88 : decode cX8_comes 88 = .ok (.iload 4, 2) := by decide +kernel
theorem dX8_comes_90 : decode cX8_comes 90 = .ok (.iastore, 1) := by decide +kernel
theorem dX8_comes_91 : decode cX8_comes 91 = .ok (.aload_n 0, 1) := by decide +kernel
theorem dX8_comes_92 : decode cX8_comes 92 = .ok (.getfield 7, 3) := by decide +kernel
theorem dX8_comes_95 : decode cX8_comes 95 = .ok (.iconst 0, 1) := by decide +kernel
theorem dX8_comes_96 : decode cX8_comes 96 = .ok (.dup2, 1) := by decide +kernel
theorem dX8_comes_97 : decode cX8_comes 97 = .ok (.iaload, 1) := by decide +kernel
theorem dX8_comes_98 : decode cX8_comes 98 = .ok (.iconst 1, 1) := by decide +kernel
theorem dX8_comes_99 : decode cX8_comes 99 = .ok (.iadd, 1) := by decide +kernel
theorem dX8_comes_100 : decode cX8_comes 100 = .ok (.iastore, 1) := by decide +kernel
theorem dX8_comes_101 : decode cX8_comes 101 = .ok (.return_, 1) := by decide +kernel
theorem dX8_comer_0 : decode cX8_comer 0 = .ok (.iload_n 1, 1) := by decide +kernel
theorem dX8_comer_1 : decode cX8_comer 1 = .ok (.i2l, 1) := by decide +kernel
theorem dX8_comer_2 : decode cX8_comer 2 = .ok (.lconst 0, 1) := by decide +kernel
theorem dX8_comer_3 : decode cX8_comer 3 = .ok (.ldc2_w 77, 3) := by decide +kernel
theorem dX8_comer_6 : decode cX8_comer 6 = .ok (.invokestatic 72, 3) := by decide +kernel
theorem dX8_comer_9 : decode cX8_comer 9 = .ok (.ifCond .eq 40, 3) := by decide +kernel
theorem dX8_comer_12 : decode cX8_comer 12 = .ok (.iload_n 2, 1) := by decide +kernel
theorem dX8_comer_13 : decode cX8_comer 13 = .ok (.i2l, 1) := by decide +kernel
theorem dX8_comer_14 : decode cX8_comer 14 = .ok (.lconst 0, 1) := by decide +kernel
theorem dX8_comer_15 : decode cX8_comer 15 = .ok (.ldc2_w 79, 3) := by decide +kernel
theorem dX8_comer_18 : decode cX8_comer 18 = .ok (.invokestatic 72, 3) := by decide +kernel
theorem dX8_comer_21 : decode cX8_comer 21 = .ok (.ifCond .eq 28, 3) := by decide +kernel
theorem dX8_comer_24 : decode cX8_comer 24 = .ok (.iload_n 3, 1) := by decide +kernel
theorem dX8_comer_25 : decode cX8_comer 25 = .ok (.i2l, 1) := by decide +kernel
theorem dX8_comer_26 : decode cX8_comer 26 = .ok (.lconst 1, 1) := by decide +kernel
theorem dX8_comer_27 : decode cX8_comer 27 = .ok (.ldc2_w 81, 3) := by decide +kernel
theorem dX8_comer_30 : decode cX8_comer 30 = .ok (.invokestatic 72, 3) := by decide +kernel
theorem dX8_comer_33 : decode cX8_comer 33 = .ok (.ifCond .eq 16, 3) := by decide +kernel
theorem dX8_comer_36 : decode cX8_comer 36 = .ok (.iload 4, 2) := by decide +kernel
theorem dX8_comer_38 : decode cX8_comer 38 = .ok (.i2l, 1) := by decide +kernel
theorem dX8_comer_39 : decode cX8_comer 39 = .ok (.lconst 0, 1) := by decide +kernel
theorem dX8_comer_40 : decode cX8_comer 40 = .ok (.ldc2_w 83, 3) := by decide +kernel
theorem dX8_comer_43 : decode cX8_comer 43 = .ok (.invokestatic 72, 3) := by decide +kernel
theorem dX8_comer_46 : decode cX8_comer 46 = .ok (.ifCond .ne 6, 3) := by decide +kernel
theorem dX8_comer_49 : decode cX8_comer 49 = .ok (.ldc 85, 2) := by decide +kernel
theorem dX8_comer_51 : decode cX8_comer 51 = .ok (.ireturn, 1) := by decide +kernel
theorem dX8_comer_52 : decode cX8_comer 52 = .ok (.aload_n 0, 1) := by decide +kernel
theorem dX8_comer_53 : decode cX8_comer 53 = .ok (.getfield 7, 3) := by decide +kernel
theorem dX8_comer_56 : decode cX8_comer 56 = .ok (.iconst 0, 1) := by decide +kernel
theorem dX8_comer_57 : decode cX8_comer 57 = .ok (.iaload, 1) := by decide +kernel
theorem dX8_comer_58 : decode cX8_comer 58 = .ok (.bipush 8, 2) := by decide +kernel
theorem dX8_comer_60 : decode cX8_comer 60 = .ok (.if_icmp .ne 6, 3) := by decide +kernel
theorem dX8_comer_63 : decode cX8_comer 63 = .ok (.ldc 86, 2) := by decide +kernel
theorem dX8_comer_65 : decode cX8_comer 65 = .ok (.ireturn, 1) := by decide +kernel
theorem dX8_comer_66 : decode cX8_comer 66 = .ok (.aload_n 0, 1) := by decide +kernel
theorem dX8_comer_67 : decode cX8_comer 67 = .ok (.iload_n 1, 1) := by decide +kernel
theorem dX8_comer_68 : decode cX8_comer 68 = .ok (.iload_n 2, 1) := by decide +kernel
theorem dX8_comer_69 : decode cX8_comer 69 = .ok (.iload_n 3, 1) := by decide +kernel
theorem dX8_comer_70 : decode cX8_comer 70 = .ok (.iload 4, 2) := by decide +kernel
theorem dX8_comer_72 : decode cX8_comer 72 = .ok (.invokevirtual 87, 3) := by decide +kernel
theorem dX8_comer_75 : decode cX8_comer 75 = .ok (.aload_n 0, 1) := by decide +kernel
theorem dX8_comer_76 : decode cX8_comer 76 = .ok (.getfield 7, 3) := by decide +kernel
theorem dX8_comer_79 : decode cX8_comer 79 = .ok (.iconst 0, 1) := by decide +kernel
theorem dX8_comer_80 : decode cX8_comer 80 = .ok (.iaload, 1) := by decide +kernel
theorem dX8_comer_81 : decode cX8_comer 81 = .ok (.iconst 1, 1) := by decide +kernel
theorem dX8_comer_82 : decode cX8_comer 82 = .ok (.isub, 1) := by decide +kernel
theorem dX8_comer_83 : decode cX8_comer 83 = .ok (.ireturn, 1) := by decide +kernel
theorem dX8_standing_0 : decode cX8_standing 0 = .ok (.iconst 0, 1) := by decide +kernel
theorem dX8_standing_1 : decode cX8_standing 1 = .ok (.istore_n 1, 1) := by decide +kernel
theorem dX8_standing_2 : decode cX8_standing 2 = .ok (.iconst 0, 1) := by decide +kernel
theorem dX8_standing_3 : decode cX8_standing 3 = .ok (.istore_n 2, 1) := by decide +kernel
theorem dX8_standing_4 : decode cX8_standing 4 = .ok (.iload_n 2, 1) := by decide +kernel
theorem dX8_standing_5 : decode cX8_standing 5 = .ok (.aload_n 0, 1) := by decide +kernel
theorem dX8_standing_6 : decode cX8_standing 6 = .ok (.getfield 7, 3) := by decide +kernel
theorem dX8_standing_9 : decode cX8_standing 9 = .ok (.iconst 0, 1) := by decide +kernel
theorem dX8_standing_10 : decode cX8_standing 10 = .ok (.iaload, 1) := by decide +kernel
theorem dX8_standing_11 : decode cX8_standing 11 = .ok (.if_icmp .ge 27, 3) := by decide +kernel
theorem dX8_standing_14 : decode cX8_standing 14 = .ok (.iload_n 1, 1) := by decide +kernel
theorem dX8_standing_15 : decode cX8_standing 15 = .ok (.aload_n 0, 1) := by decide +kernel
theorem dX8_standing_16 : decode cX8_standing 16 = .ok (.iload_n 2, 1) := by decide +kernel
theorem dX8_standing_17 : decode cX8_standing 17 = .ok (.iconst 5, 1) := by decide +kernel
theorem dX8_standing_18 : decode cX8_standing 18 = .ok (.invokevirtual 91, 3) := by decide +kernel
theorem dX8_standing_21 : decode cX8_standing 21 = .ok (.iconst 2, 1) := by decide +kernel
theorem dX8_standing_22 : decode cX8_standing 22 = .ok (.if_icmp .ne 7, 3) := by decide +kernel
theorem dX8_standing_25 : decode cX8_standing 25 = .ok (.iconst 1, 1) := by decide +kernel
theorem dX8_standing_26 : decode cX8_standing 26 = .ok (.goto 4, 3) := by decide +kernel
theorem dX8_standing_29 : decode cX8_standing 29 = .ok (.iconst 0, 1) := by decide +kernel
theorem dX8_standing_30 : decode cX8_standing 30 = .ok (.iadd, 1) := by decide +kernel
theorem dX8_standing_31 : decode cX8_standing 31 = .ok (.istore_n 1, 1) := by decide +kernel
theorem dX8_standing_32 : decode cX8_standing 32 = .ok (.iinc 2 1, 3) := by decide +kernel
theorem dX8_standing_35 : decode cX8_standing 35 = .ok (.goto (-31), 3) := by decide +kernel
theorem dX8_standing_38 : decode cX8_standing 38 = .ok (.iload_n 1, 1) := by decide +kernel
theorem dX8_standing_39 : decode cX8_standing 39 = .ok (.ireturn, 1) := by decide +kernel
theorem dX8_plainLeaves_0 : decode cX8_plainLeaves 0 = .ok (.aload_n 0, 1) := by decide +kernel
theorem dX8_plainLeaves_1 : decode cX8_plainLeaves 1 = .ok (.iconst 0, 1) := by decide +kernel
theorem dX8_plainLeaves_2 : decode cX8_plainLeaves 2 = .ok (.invokevirtual 95, 3) := by decide +kernel
theorem dX8_plainLeaves_5 : decode cX8_plainLeaves 5 = .ok (.istore_n 2, 1) := by decide +kernel
theorem dX8_plainLeaves_6 : decode cX8_plainLeaves 6 = .ok (.iload_n 2, 1) := by decide +kernel
theorem dX8_plainLeaves_7 : decode cX8_plainLeaves 7 = .ok (.ifCond .ge 27, 3) := by decide +kernel
theorem dX8_plainLeaves_10 : decode cX8_plainLeaves 10 = .ok (.aload_n 0, 1) := by decide +kernel
theorem dX8_plainLeaves_11 : decode cX8_plainLeaves 11 = .ok (.getfield 7, 3) := by decide +kernel
theorem dX8_plainLeaves_14 : decode cX8_plainLeaves 14 = .ok (.iconst 2, 1) := by decide +kernel
theorem dX8_plainLeaves_15 : decode cX8_plainLeaves 15 = .ok (.iaload, 1) := by decide +kernel
theorem dX8_plainLeaves_16 : decode cX8_plainLeaves 16 = .ok (.bipush 60, 2) := by decide +kernel
theorem dX8_plainLeaves_18 : decode cX8_plainLeaves 18 = .ok (.irem, 1) := by decide +kernel
theorem dX8_plainLeaves_19 : decode cX8_plainLeaves 19 = .ok (.aload_n 0, 1) := by decide +kernel
theorem dX8_plainLeaves_20 : decode cX8_plainLeaves 20 = .ok (.iload_n 1, 1) := by decide +kernel
theorem dX8_plainLeaves_21 : decode cX8_plainLeaves 21 = .ok (.iconst 1, 1) := by decide +kernel
theorem dX8_plainLeaves_22 : decode cX8_plainLeaves 22 = .ok (.invokevirtual 91, 3) := by decide +kernel
theorem dX8_plainLeaves_25 : decode cX8_plainLeaves 25 = .ok (.if_icmp .ne 7, 3) := by decide +kernel
theorem dX8_plainLeaves_28 : decode cX8_plainLeaves 28 = .ok (.iconst 1, 1) := by decide +kernel
theorem dX8_plainLeaves_29 : decode cX8_plainLeaves 29 = .ok (.goto 4, 3) := by decide +kernel
theorem dX8_plainLeaves_32 : decode cX8_plainLeaves 32 = .ok (.iconst 0, 1) := by decide +kernel
theorem dX8_plainLeaves_33 : decode cX8_plainLeaves 33 = .ok (.ireturn, 1) := by decide +kernel
theorem dX8_plainLeaves_34 : decode cX8_plainLeaves 34 = .ok (.aload_n 0, 1) := by decide +kernel
theorem dX8_plainLeaves_35 : decode cX8_plainLeaves 35 = .ok (.getfield 56, 3) := by decide +kernel
theorem dX8_plainLeaves_38 : decode cX8_plainLeaves 38 = .ok (.bipush 116, 2) := by decide +kernel
theorem dX8_plainLeaves_40 : decode cX8_plainLeaves 40 = .ok (.aload_n 0, 1) := by decide +kernel
theorem dX8_plainLeaves_41 : decode cX8_plainLeaves 41 = .ok (.getfield 7, 3) := by decide +kernel
theorem dX8_plainLeaves_44 : decode cX8_plainLeaves 44 = .ok (.iconst 2, 1) := by decide +kernel
theorem dX8_plainLeaves_45 : decode cX8_plainLeaves 45 = .ok (.iaload, 1) := by decide +kernel
theorem dX8_plainLeaves_46 : decode cX8_plainLeaves 46 = .ok (.sipush 1440, 3) := by decide +kernel
theorem dX8_plainLeaves_49 : decode cX8_plainLeaves 49 = .ok (.irem, 1) := by decide +kernel
theorem dX8_plainLeaves_50 : decode cX8_plainLeaves 50 = .ok (.iastore, 1) := by decide +kernel
theorem dX8_plainLeaves_51 : decode cX8_plainLeaves 51 = .ok (.aload_n 0, 1) := by decide +kernel
theorem dX8_plainLeaves_52 : decode cX8_plainLeaves 52 = .ok (.getfield 56, 3) := by decide +kernel
theorem dX8_plainLeaves_55 : decode cX8_plainLeaves 55 = .ok (.bipush 115, 2) := by decide +kernel
theorem dX8_plainLeaves_57 : decode cX8_plainLeaves 57 = .ok (.aload_n 0, 1) := by decide +kernel
theorem dX8_plainLeaves_58 : decode cX8_plainLeaves 58 = .ok (.iload_n 1, 1) := by decide +kernel
theorem dX8_plainLeaves_59 : decode cX8_plainLeaves 59 = .ok (.bipush 8, 2) := by decide +kernel
theorem dX8_plainLeaves_61 : decode cX8_plainLeaves 61 = .ok (.invokevirtual 91, 3) := by decide +kernel
theorem dX8_plainLeaves_64 : decode cX8_plainLeaves 64 = .ok (.iastore, 1) := by decide +kernel
theorem dX8_plainLeaves_65 : decode cX8_plainLeaves 65 = .ok (.aload_n 0, 1) := by decide +kernel
theorem dX8_plainLeaves_66 : decode cX8_plainLeaves 66 = .ok (.getfield 56, 3) := by decide +kernel
theorem dX8_plainLeaves_69 : decode cX8_plainLeaves 69 = .ok (.bipush 97, 2) := by decide +kernel
theorem dX8_plainLeaves_71 : decode cX8_plainLeaves 71 = .ok (.aload_n 0, 1) := by decide +kernel
theorem dX8_plainLeaves_72 : decode cX8_plainLeaves 72 = .ok (.iload_n 1, 1) := by decide +kernel
theorem dX8_plainLeaves_73 : decode cX8_plainLeaves 73 = .ok (.iconst 1, 1) := by decide +kernel
theorem dX8_plainLeaves_74 : decode cX8_plainLeaves 74 = .ok (.invokevirtual 91, 3) := by decide +kernel
theorem dX8_plainLeaves_77 : decode cX8_plainLeaves 77 = .ok (.iastore, 1) := by decide +kernel
theorem dX8_plainLeaves_78 : decode cX8_plainLeaves 78 = .ok (.aload_n 0, 1) := by decide +kernel
theorem dX8_plainLeaves_79 : decode cX8_plainLeaves 79 = .ok (.iload_n 2, 1) := by decide +kernel
theorem dX8_plainLeaves_80 : decode cX8_plainLeaves 80 = .ok (.invokevirtual 99, 3) := by decide +kernel
theorem dX8_plainLeaves_83 : decode cX8_plainLeaves 83 = .ok (.ifCond .eq 7, 3) := by decide +kernel
theorem dX8_plainLeaves_86 : decode cX8_plainLeaves 86 = .ok (.iconst 1, 1) := by decide +kernel
theorem dX8_plainLeaves_87 : decode cX8_plainLeaves 87 = .ok (.goto 4, 3) := by decide +kernel
theorem dX8_plainLeaves_90 : decode cX8_plainLeaves 90 = .ok (.iconst 0, 1) := by decide +kernel
theorem dX8_plainLeaves_91 : decode cX8_plainLeaves 91 = .ok (.ireturn, 1) := by decide +kernel
theorem dX8_wouldLeave_0 : decode cX8_wouldLeave 0 = .ok (.aload_n 0, 1) := by decide +kernel
theorem dX8_wouldLeave_1 : decode cX8_wouldLeave 1 = .ok (.iload_n 1, 1) := by decide +kernel
theorem dX8_wouldLeave_2 : decode cX8_wouldLeave 2 = .ok (.iconst 0, 1) := by decide +kernel
theorem dX8_wouldLeave_3 : decode cX8_wouldLeave 3 = .ok (.invokevirtual 91, 3) := by decide +kernel
theorem dX8_wouldLeave_6 : decode cX8_wouldLeave 6 = .ok (.tableswitch 108 1 5 #[34, 108, 56, 108, 87], 34) := by decide +kernel
theorem dX8_wouldLeave_40 : decode cX8_wouldLeave 40 = .ok (.aload_n 0, 1) := by decide +kernel
theorem dX8_wouldLeave_41 : decode cX8_wouldLeave 41 = .ok (.iload_n 1, 1) := by decide +kernel
theorem dX8_wouldLeave_42 : decode cX8_wouldLeave 42 = .ok (.bipush 8, 2) := by decide +kernel
theorem dX8_wouldLeave_44 : decode cX8_wouldLeave 44 = .ok (.invokevirtual 91, 3) := by decide +kernel
theorem dX8_wouldLeave_47 : decode cX8_wouldLeave 47 = .ok (.aload_n 0, 1) := by decide +kernel
theorem dX8_wouldLeave_48 : decode cX8_wouldLeave 48 = .ok (.iload_n 1, 1) := by decide +kernel
theorem dX8_wouldLeave_49 : decode cX8_wouldLeave 49 = .ok (.iconst 1, 1) := by decide +kernel
theorem dX8_wouldLeave_50 : decode cX8_wouldLeave 50 = .ok (.invokevirtual 91, 3) := by decide +kernel
theorem dX8_wouldLeave_53 : decode cX8_wouldLeave 53 = .ok (.if_icmp .lt 7, 3) := by decide +kernel
theorem dX8_wouldLeave_56 : decode cX8_wouldLeave 56 = .ok (.iconst 1, 1) := by decide +kernel
theorem dX8_wouldLeave_57 : decode cX8_wouldLeave 57 = .ok (.goto 4, 3) := by decide +kernel
theorem dX8_wouldLeave_60 : decode cX8_wouldLeave 60 = .ok (.iconst 0, 1) := by decide +kernel
theorem dX8_wouldLeave_61 : decode cX8_wouldLeave 61 = .ok (.ireturn, 1) := by decide +kernel
theorem dX8_wouldLeave_62 : decode cX8_wouldLeave 62 = .ok (.aload_n 0, 1) := by decide +kernel
theorem dX8_wouldLeave_63 : decode cX8_wouldLeave 63 = .ok (.iload_n 1, 1) := by decide +kernel
theorem dX8_wouldLeave_64 : decode cX8_wouldLeave 64 = .ok (.bipush 8, 2) := by decide +kernel
theorem dX8_wouldLeave_66 : decode cX8_wouldLeave 66 = .ok (.invokevirtual 91, 3) := by decide +kernel
theorem dX8_wouldLeave_69 : decode cX8_wouldLeave 69 = .ok (.aload_n 0, 1) := by decide +kernel
theorem dX8_wouldLeave_70 : decode cX8_wouldLeave 70 = .ok (.iload_n 1, 1) := by decide +kernel
theorem dX8_wouldLeave_71 : decode cX8_wouldLeave 71 = .ok (.iconst 1, 1) := by decide +kernel
theorem dX8_wouldLeave_72 : decode cX8_wouldLeave 72 = .ok (.invokevirtual 91, 3) := by decide +kernel
theorem dX8_wouldLeave_75 : decode cX8_wouldLeave 75 = .ok (.if_icmp .lt 16, 3) := by decide +kernel
theorem dX8_wouldLeave_78 : decode cX8_wouldLeave 78 = .ok (.aload_n 0, 1) := by decide +kernel
theorem dX8_wouldLeave_79 : decode cX8_wouldLeave 79 = .ok (.getfield 7, 3) := by decide +kernel
theorem dX8_wouldLeave_82 : decode cX8_wouldLeave 82 = .ok (.iconst 5, 1) := by decide +kernel
theorem dX8_wouldLeave_83 : decode cX8_wouldLeave 83 = .ok (.iaload, 1) := by decide +kernel
theorem dX8_wouldLeave_84 : decode cX8_wouldLeave 84 = .ok (.ifCond .le 7, 3) := by decide +kernel
theorem dX8_wouldLeave_87 : decode cX8_wouldLeave 87 = .ok (.iconst 1, 1) := by decide +kernel
theorem dX8_wouldLeave_88 : decode cX8_wouldLeave 88 = .ok (.goto 4, 3) := by decide +kernel
theorem dX8_wouldLeave_91 : decode cX8_wouldLeave 91 = .ok (.iconst 0, 1) := by decide +kernel
theorem dX8_wouldLeave_92 : decode cX8_wouldLeave 92 = .ok (.ireturn, 1) := by decide +kernel
theorem dX8_wouldLeave_93 : decode cX8_wouldLeave 93 = .ok (.aload_n 0, 1) := by decide +kernel
theorem dX8_wouldLeave_94 : decode cX8_wouldLeave 94 = .ok (.iload_n 1, 1) := by decide +kernel
theorem dX8_wouldLeave_95 : decode cX8_wouldLeave 95 = .ok (.invokevirtual 102, 3) := by decide +kernel
theorem dX8_wouldLeave_98 : decode cX8_wouldLeave 98 = .ok (.ifCond .eq 14, 3) := by decide +kernel
theorem dX8_wouldLeave_101 : decode cX8_wouldLeave 101 = .ok (.aload_n 0, 1) := by decide +kernel
theorem dX8_wouldLeave_102 : decode cX8_wouldLeave 102 = .ok (.invokevirtual 106, 3) := by decide +kernel
theorem dX8_wouldLeave_105 : decode cX8_wouldLeave 105 = .ok (.ifCond .ne 7, 3) := by decide +kernel
theorem dX8_wouldLeave_108 : decode cX8_wouldLeave 108 = .ok (.iconst 1, 1) := by decide +kernel
theorem dX8_wouldLeave_109 : decode cX8_wouldLeave 109 = .ok (.goto 4, 3) := by decide +kernel
theorem dX8_wouldLeave_112 : decode cX8_wouldLeave 112 = .ok (.iconst 0, 1) := by decide +kernel
theorem dX8_wouldLeave_113 : decode cX8_wouldLeave 113 = .ok (.ireturn, 1) := by decide +kernel
theorem dX8_wouldLeave_114 : decode cX8_wouldLeave 114 = .ok (.aload_n 0, 1) := by decide +kernel
theorem dX8_wouldLeave_115 : decode cX8_wouldLeave 115 = .ok (.iload_n 1, 1) := by decide +kernel
theorem dX8_wouldLeave_116 : decode cX8_wouldLeave 116 = .ok (.invokevirtual 102, 3) := by decide +kernel
theorem dX8_wouldLeave_119 : decode cX8_wouldLeave 119 = .ok (.ireturn, 1) := by decide +kernel
theorem dX8_stays_0 : decode cX8_stays 0 = .ok (.iconst 0, 1) := by decide +kernel
theorem dX8_stays_1 : decode cX8_stays 1 = .ok (.istore_n 2, 1) := by decide +kernel
theorem dX8_stays_2 : decode cX8_stays 2 = .ok (.aload_n 0, 1) := by decide +kernel
theorem dX8_stays_3 : decode cX8_stays 3 = .ok (.iconst 1, 1) := by decide +kernel
theorem dX8_stays_4 : decode cX8_stays 4 = .ok (.invokevirtual 95, 3) := by decide +kernel
theorem dX8_stays_7 : decode cX8_stays 7 = .ok (.istore_n 3, 1) := by decide +kernel
theorem dX8_stays_8 : decode cX8_stays 8 = .ok (.iload_n 3, 1) := by decide +kernel
theorem dX8_stays_9 : decode cX8_stays 9 = .ok (.ifCond .lt 51, 3) := by decide +kernel
theorem dX8_stays_12 : decode cX8_stays 12 = .ok (.aload_n 0, 1) := by decide +kernel
theorem dX8_stays_13 : decode cX8_stays 13 = .ok (.getfield 56, 3) := by decide +kernel
theorem dX8_stays_16 : decode cX8_stays 16 = .ok (.bipush 97, 2) := by decide +kernel
theorem dX8_stays_18 : decode cX8_stays 18 = .ok (.aload_n 0, 1) := by decide +kernel
theorem dX8_stays_19 : decode cX8_stays 19 = .ok (.iload_n 1, 1) := by decide +kernel
theorem dX8_stays_20 : decode cX8_stays 20 = .ok (.iconst 1, 1) := by decide +kernel
theorem dX8_stays_21 : decode cX8_stays 21 = .ok (.invokevirtual 91, 3) := by decide +kernel
theorem dX8_stays_24 : decode cX8_stays 24 = .ok (.iastore, 1) := by decide +kernel
theorem dX8_stays_25 : decode cX8_stays 25 = .ok (.aload_n 0, 1) := by decide +kernel
theorem dX8_stays_26 : decode cX8_stays 26 = .ok (.getfield 56, 3) := by decide +kernel
theorem dX8_stays_29 : decode cX8_stays 29 = .ok (.bipush 119, 2) := by decide +kernel
theorem dX8_stays_31 : decode cX8_stays 31 = .ok (.aload_n 0, 1) := by decide +kernel
theorem dX8_stays_32 : decode cX8_stays 32 = .ok (.getfield 7, 3) := by decide +kernel
theorem dX8_stays_35 : decode cX8_stays 35 = .ok (.iconst 5, 1) := by decide +kernel
theorem dX8_stays_36 : decode cX8_stays 36 = .ok (.iaload, 1) := by decide +kernel
theorem dX8_stays_37 : decode cX8_stays 37 = .ok (.iastore, 1) := by decide +kernel
theorem dX8_stays_38 : decode cX8_stays 38 = .ok (.aload_n 0, 1) := by decide +kernel
theorem dX8_stays_39 : decode cX8_stays 39 = .ok (.getfield 56, 3) := by decide +kernel
theorem dX8_stays_42 : decode cX8_stays 42 = .ok (.bipush 110, 2) := by decide +kernel
theorem dX8_stays_44 : decode cX8_stays 44 = .ok (.aload_n 0, 1) := by decide +kernel
theorem dX8_stays_45 : decode cX8_stays 45 = .ok (.invokevirtual 106, 3) := by decide +kernel
theorem dX8_stays_48 : decode cX8_stays 48 = .ok (.iastore, 1) := by decide +kernel
theorem dX8_stays_49 : decode cX8_stays 49 = .ok (.aload_n 0, 1) := by decide +kernel
theorem dX8_stays_50 : decode cX8_stays 50 = .ok (.iload_n 3, 1) := by decide +kernel
theorem dX8_stays_51 : decode cX8_stays 51 = .ok (.invokevirtual 99, 3) := by decide +kernel
theorem dX8_stays_54 : decode cX8_stays 54 = .ok (.bipush 99, 2) := by decide +kernel
theorem dX8_stays_56 : decode cX8_stays 56 = .ok (.invokestatic 110, 3) := by decide +kernel
theorem dX8_stays_59 : decode cX8_stays 59 = .ok (.istore_n 2, 1) := by decide +kernel
theorem dX8_stays_60 : decode cX8_stays 60 = .ok (.aload_n 0, 1) := by decide +kernel
theorem dX8_stays_61 : decode cX8_stays 61 = .ok (.iload_n 1, 1) := by decide +kernel
theorem dX8_stays_62 : decode cX8_stays 62 = .ok (.iconst 0, 1) := by decide +kernel
theorem dX8_stays_63 : decode cX8_stays 63 = .ok (.invokevirtual 91, 3) := by decide +kernel
theorem dX8_stays_66 : decode cX8_stays 66 = .ok (.istore 4, 2) := by decide +kernel
theorem dX8_stays_68 : decode cX8_stays 68 = .ok (.iload 4, 2) := by decide +kernel
theorem dX8_stays_70 : decode cX8_stays 70 = .ok (.iconst 2, 1) := by decide +kernel
theorem dX8_stays_71 : decode cX8_stays 71 = .ok (.if_icmp .ne 14, 3) := by decide +kernel
theorem dX8_stays_74 : decode cX8_stays 74 = .ok (.iload_n 2, 1) := by decide +kernel
theorem dX8_stays_75 : decode cX8_stays 75 = .ok (.aload_n 0, 1) := by decide +kernel
theorem dX8_stays_76 : decode cX8_stays 76 = .ok (.iload_n 1, 1) := by decide +kernel
theorem dX8_stays_77 : decode cX8_stays 77 = .ok (.iconst 1, 1) := by decide +kernel
theorem dX8_stays_78 : decode cX8_stays 78 = .ok (.invokevirtual 91, 3) := by decide +kernel
theorem dX8_stays_81 : decode cX8_stays 81 = .ok (.iadd, 1) := by decide +kernel
theorem dX8_stays_82 : decode cX8_stays 82 = .ok (.goto 23, 3) := by decide +kernel
theorem dX8_stays_85 : decode cX8_stays 85 = .ok (.iload 4, 2) := by decide +kernel
theorem dX8_stays_87 : decode cX8_stays 87 = .ok (.iconst 4, 1) := by decide +kernel
theorem dX8_stays_88 : decode cX8_stays 88 = .ok (.if_icmp .ne 16, 3) := by decide +kernel
theorem dX8_stays_91 : decode cX8_stays 91 = .ok (.iconst 2, 1) := by decide +kernel
theorem dX8_stays_92 : decode cX8_stays 92 = .ok (.iload_n 2, 1) := by decide +kernel
theorem dX8_stays_93 : decode cX8_stays 93 = .ok (.aload_n 0, 1) := by decide +kernel
theorem dX8_stays_94 : decode cX8_stays 94 = .ok (.iload_n 1, 1) := by decide +kernel
theorem dX8_stays_95 : decode cX8_stays 95 = .ok (.iconst 1, 1) := by decide +kernel
theorem dX8_stays_96 : decode cX8_stays 96 = .ok (.invokevirtual 91, 3) := by decide +kernel
theorem dX8_stays_99 : decode cX8_stays 99 = .ok (.iadd, 1) := by decide +kernel
theorem dX8_stays_100 : decode cX8_stays 100 = .ok (.imul, 1) := by decide +kernel
theorem dX8_stays_101 : decode cX8_stays 101 = .ok (.goto 4, 3) := by decide +kernel
theorem dX8_stays_104 : decode cX8_stays 104 = .ok (.iload_n 2, 1) := by decide +kernel
theorem dX8_stays_105 : decode cX8_stays 105 = .ok (.ireturn, 1) := by decide +kernel
theorem dX8_worth_0 : decode cX8_worth 0 = .ok (.aload_n 0, 1) := by decide +kernel
theorem dX8_worth_1 : decode cX8_worth 1 = .ok (.iload_n 1, 1) := by decide +kernel
theorem dX8_worth_2 : decode cX8_worth 2 = .ok (.iconst 1, 1) := by decide +kernel
theorem dX8_worth_3 : decode cX8_worth 3 = .ok (.invokevirtual 91, 3) := by decide +kernel
theorem dX8_worth_6 : decode cX8_worth 6 = .ok (.istore_n 2, 1) := by decide +kernel
theorem dX8_worth_7 : decode cX8_worth 7 = .ok (.aload_n 0, 1) := by decide +kernel
theorem dX8_worth_8 : decode cX8_worth 8 = .ok (.iload_n 1, 1) := by decide +kernel
theorem dX8_worth_9 : decode cX8_worth 9 = .ok (.iconst 0, 1) := by decide +kernel
theorem dX8_worth_10 : decode cX8_worth 10 = .ok (.invokevirtual 91, 3) := by decide +kernel
theorem dX8_worth_13 : decode cX8_worth 13 = .ok (.tableswitch 58 1 5 #[35, 39, 44, 50, 55], 35) := by decide +kernel
theorem dX8_worth_48 : decode cX8_worth 48 = .ok (.iload_n 2, 1) := by decide +kernel
theorem dX8_worth_49 : decode cX8_worth 49 = .ok (.iconst 3, 1) := by decide +kernel
theorem dX8_worth_50 : decode cX8_worth 50 = .ok (.iadd, 1) := by decide +kernel
theorem dX8_worth_51 : decode cX8_worth 51 = .ok (.ireturn, 1) := by decide +kernel
theorem dX8_worth_52 : decode cX8_worth 52 = .ok (.bipush 60, 2) := by decide +kernel
theorem dX8_worth_54 : decode cX8_worth 54 = .ok (.iload_n 2, 1) := by decide +kernel
theorem dX8_worth_55 : decode cX8_worth 55 = .ok (.isub, 1) := by decide +kernel
theorem dX8_worth_56 : decode cX8_worth 56 = .ok (.ireturn, 1) := by decide +kernel
theorem dX8_worth_57 : decode cX8_worth 57 = .ok (.iconst 2, 1) := by decide +kernel
theorem dX8_worth_58 : decode cX8_worth 58 = .ok (.iload_n 2, 1) := by decide +kernel
theorem dX8_worth_59 : decode cX8_worth 59 = .ok (.iconst 3, 1) := by decide +kernel
theorem dX8_worth_60 : decode cX8_worth 60 = .ok (.iadd, 1) := by decide +kernel
theorem dX8_worth_61 : decode cX8_worth 61 = .ok (.imul, 1) := by decide +kernel
theorem dX8_worth_62 : decode cX8_worth 62 = .ok (.ireturn, 1) := by decide +kernel
theorem dX8_worth_63 : decode cX8_worth 63 = .ok (.bipush 55, 2) := by decide +kernel
theorem dX8_worth_65 : decode cX8_worth 65 = .ok (.iload_n 2, 1) := by decide +kernel
theorem dX8_worth_66 : decode cX8_worth 66 = .ok (.isub, 1) := by decide +kernel
theorem dX8_worth_67 : decode cX8_worth 67 = .ok (.ireturn, 1) := by decide +kernel
theorem dX8_worth_68 : decode cX8_worth 68 = .ok (.bipush 30, 2) := by decide +kernel
theorem dX8_worth_70 : decode cX8_worth 70 = .ok (.ireturn, 1) := by decide +kernel
theorem dX8_worth_71 : decode cX8_worth 71 = .ok (.iload_n 2, 1) := by decide +kernel
theorem dX8_worth_72 : decode cX8_worth 72 = .ok (.ireturn, 1) := by decide +kernel
theorem dX8_told_0 : decode cX8_told 0 = .ok (.aload_n 0, 1) := by decide +kernel
theorem dX8_told_1 : decode cX8_told 1 = .ok (.iload_n 1, 1) := by decide +kernel
theorem dX8_told_2 : decode cX8_told 2 = .ok (.invokevirtual 113, 3) := by decide +kernel
theorem dX8_told_5 : decode cX8_told 5 = .ok (.ifCond .eq 15, 3) := by decide +kernel
theorem dX8_told_8 : decode cX8_told 8 = .ok (.iload_n 2, 1) := by decide +kernel
theorem dX8_told_9 : decode cX8_told 9 = .ok (.i2l, 1) := by decide +kernel
theorem dX8_told_10 : decode cX8_told 10 = .ok (.lconst 0, 1) := by decide +kernel
theorem dX8_told_11 : decode cX8_told 11 = .ok (.ldc2_w 116, 3) := by decide +kernel
theorem dX8_told_14 : decode cX8_told 14 = .ok (.invokestatic 72, 3) := by decide +kernel
theorem dX8_told_17 : decode cX8_told 17 = .ok (.ifCond .ne 6, 3) := by decide +kernel
theorem dX8_told_20 : decode cX8_told 20 = .ok (.ldc 85, 2) := by decide +kernel
theorem dX8_told_22 : decode cX8_told 22 = .ok (.ireturn, 1) := by decide +kernel
theorem dX8_told_23 : decode cX8_told 23 = .ok (.iload_n 2, 1) := by decide +kernel
theorem dX8_told_24 : decode cX8_told 24 = .ok (.bipush 12, 2) := by decide +kernel
theorem dX8_told_26 : decode cX8_told 26 = .ok (.if_icmp .ge 12, 3) := by decide +kernel
theorem dX8_told_29 : decode cX8_told 29 = .ok (.aload_n 0, 1) := by decide +kernel
theorem dX8_told_30 : decode cX8_told 30 = .ok (.iload_n 1, 1) := by decide +kernel
theorem dX8_told_31 : decode cX8_told 31 = .ok (.iload_n 2, 1) := by decide +kernel
theorem dX8_told_32 : decode cX8_told 32 = .ok (.invokevirtual 91, 3) := by decide +kernel
theorem dX8_told_35 : decode cX8_told 35 = .ok (.goto 44, 3) := by decide +kernel
theorem dX8_told_38 : decode cX8_told 38 = .ok (.iload_n 2, 1) := by decide +kernel
theorem dX8_told_39 : decode cX8_told 39 = .ok (.bipush 12, 2) := by decide +kernel
theorem dX8_told_41 : decode cX8_told 41 = .ok (.if_icmp .ne 11, 3) := by decide +kernel
theorem dX8_told_44 : decode cX8_told 44 = .ok (.aload_n 0, 1) := by decide +kernel
theorem dX8_told_45 : decode cX8_told 45 = .ok (.iload_n 1, 1) := by decide +kernel
theorem dX8_told_46 : decode cX8_told 46 = .ok (.invokevirtual 118, 3) := by decide +kernel
theorem dX8_told_49 : decode cX8_told 49 = .ok (.goto 30, 3) := by decide +kernel
theorem dX8_told_52 : decode cX8_told 52 = .ok (.iload_n 2, 1) := by decide +kernel
theorem dX8_told_53 : decode cX8_told 53 = .ok (.bipush 14, 2) := by decide +kernel
theorem dX8_told_55 : decode cX8_told 55 = .ok (.if_icmp .ne 11, 3) := by decide +kernel
theorem dX8_told_58 : decode cX8_told 58 = .ok (.aload_n 0, 1) := by decide +kernel
theorem dX8_told_59 : decode cX8_told 59 = .ok (.iload_n 1, 1) := by decide +kernel
theorem dX8_told_60 : decode cX8_told 60 = .ok (.invokevirtual 121, 3) := by decide +kernel
theorem dX8_told_63 : decode cX8_told 63 = .ok (.goto 16, 3) := by decide +kernel
theorem dX8_told_66 : decode cX8_told 66 = .ok (.aload_n 0, 1) := by decide +kernel
theorem dX8_told_67 : decode cX8_told 67 = .ok (.iload_n 1, 1) := by decide +kernel
theorem dX8_told_68 : decode cX8_told 68 = .ok (.invokevirtual 124, 3) := by decide +kernel
theorem dX8_told_71 : decode cX8_told 71 = .ok (.ifCond .eq 7, 3) := by decide +kernel
theorem dX8_told_74 : decode cX8_told 74 = .ok (.iconst 1, 1) := by decide +kernel
theorem dX8_told_75 : decode cX8_told 75 = .ok (.goto 4, 3) := by decide +kernel
theorem dX8_told_78 : decode cX8_told 78 = .ok (.iconst 0, 1) := by decide +kernel
theorem dX8_told_79 : decode cX8_told 79 = .ok (.ireturn, 1) := by decide +kernel
theorem dX8_isOf_0 : decode cX8_isOf 0 = .ok (.iload_n 0, 1) := by decide +kernel
theorem dX8_isOf_1 : decode cX8_isOf 1 = .ok (.iload_n 1, 1) := by decide +kernel
theorem dX8_isOf_2 : decode cX8_isOf 2 = .ok (.if_icmp .eq 27, 3) := by decide +kernel
theorem dX8_isOf_5 : decode cX8_isOf 5 = .ok (.iload_n 1, 1) := by decide +kernel
theorem dX8_isOf_6 : decode cX8_isOf 6 = .ok (.ifCond .eq 23, 3) := by decide +kernel
theorem dX8_isOf_9 : decode cX8_isOf 9 = .ok (.iload_n 1, 1) := by decide +kernel
theorem dX8_isOf_10 : decode cX8_isOf 10 = .ok (.iconst 1, 1) := by decide +kernel
theorem dX8_isOf_11 : decode cX8_isOf 11 = .ok (.if_icmp .ne 8, 3) := by decide +kernel
theorem dX8_isOf_14 : decode cX8_isOf 14 = .ok (.iload_n 0, 1) := by decide +kernel
theorem dX8_isOf_15 : decode cX8_isOf 15 = .ok (.iconst 3, 1) := by decide +kernel
theorem dX8_isOf_16 : decode cX8_isOf 16 = .ok (.if_icmp .eq 13, 3) := by decide +kernel
theorem dX8_isOf_19 : decode cX8_isOf 19 = .ok (.iload_n 1, 1) := by decide +kernel
theorem dX8_isOf_20 : decode cX8_isOf 20 = .ok (.iconst 2, 1) := by decide +kernel
theorem dX8_isOf_21 : decode cX8_isOf 21 = .ok (.if_icmp .ne 12, 3) := by decide +kernel
theorem dX8_isOf_24 : decode cX8_isOf 24 = .ok (.iload_n 0, 1) := by decide +kernel
theorem dX8_isOf_25 : decode cX8_isOf 25 = .ok (.iconst 4, 1) := by decide +kernel
theorem dX8_isOf_26 : decode cX8_isOf 26 = .ok (.if_icmp .ne 7, 3) := by decide +kernel
theorem dX8_isOf_29 : decode cX8_isOf 29 = .ok (.iconst 1, 1) := by decide +kernel
theorem dX8_isOf_30 : decode cX8_isOf 30 = .ok (.goto 4, 3) := by decide +kernel
theorem dX8_isOf_33 : decode cX8_isOf 33 = .ok (.iconst 0, 1) := by decide +kernel
theorem dX8_isOf_34 : decode cX8_isOf 34 = .ok (.ireturn, 1) := by decide +kernel
theorem dX8_as_0 : decode cX8_as 0 = .ok (.aload_n 0, 1) := by decide +kernel
theorem dX8_as_1 : decode cX8_as 1 = .ok (.iload_n 1, 1) := by decide +kernel
theorem dX8_as_2 : decode cX8_as 2 = .ok (.invokevirtual 113, 3) := by decide +kernel
theorem dX8_as_5 : decode cX8_as 5 = .ok (.ifCond .eq 15, 3) := by decide +kernel
theorem dX8_as_8 : decode cX8_as 8 = .ok (.iload_n 2, 1) := by decide +kernel
theorem dX8_as_9 : decode cX8_as 9 = .ok (.i2l, 1) := by decide +kernel
theorem dX8_as_10 : decode cX8_as 10 = .ok (.lconst 0, 1) := by decide +kernel
theorem dX8_as_11 : decode cX8_as 11 = .ok (.ldc2_w 77, 3) := by decide +kernel
theorem dX8_as_14 : decode cX8_as 14 = .ok (.invokestatic 72, 3) := by decide +kernel
theorem dX8_as_17 : decode cX8_as 17 = .ok (.ifCond .ne 6, 3) := by decide +kernel
theorem dX8_as_20 : decode cX8_as 20 = .ok (.ldc 85, 2) := by decide +kernel
theorem dX8_as_22 : decode cX8_as 22 = .ok (.ireturn, 1) := by decide +kernel
theorem dX8_as_23 : decode cX8_as 23 = .ok (.aload_n 0, 1) := by decide +kernel
theorem dX8_as_24 : decode cX8_as 24 = .ok (.iload_n 1, 1) := by decide +kernel
theorem dX8_as_25 : decode cX8_as 25 = .ok (.iconst 0, 1) := by decide +kernel
theorem dX8_as_26 : decode cX8_as 26 = .ok (.invokevirtual 91, 3) := by decide +kernel
theorem dX8_as_29 : decode cX8_as 29 = .ok (.iload_n 2, 1) := by decide +kernel
theorem dX8_as_30 : decode cX8_as 30 = .ok (.invokestatic 127, 3) := by decide +kernel
theorem dX8_as_33 : decode cX8_as 33 = .ok (.ifCond .eq 12, 3) := by decide +kernel
theorem dX8_as_36 : decode cX8_as 36 = .ok (.aload_n 0, 1) := by decide +kernel
theorem dX8_as_37 : decode cX8_as 37 = .ok (.iload_n 1, 1) := by decide +kernel
theorem dX8_as_38 : decode cX8_as 38 = .ok (.iconst 1, 1) := by decide +kernel
theorem dX8_as_39 : decode cX8_as 39 = .ok (.invokevirtual 91, 3) := by decide +kernel
theorem dX8_as_42 : decode cX8_as 42 = .ok (.goto 5, 3) := by decide +kernel
theorem dX8_as_45 : decode cX8_as 45 = .ok (.ldc 131, 2) := by decide +kernel
theorem dX8_as_47 : decode cX8_as 47 = .ok (.ireturn, 1) := by decide +kernel
theorem dX8_turns_0 : decode cX8_turns 0 = .ok (.aload_n 0, 1) := by decide +kernel
theorem dX8_turns_1 : decode cX8_turns 1 = .ok (.iload_n 1, 1) := by decide +kernel
theorem dX8_turns_2 : decode cX8_turns 2 = .ok (.invokevirtual 113, 3) := by decide +kernel
theorem dX8_turns_5 : decode cX8_turns 5 = .ok (.ifCond .eq 30, 3) := by decide +kernel
theorem dX8_turns_8 : decode cX8_turns 8 = .ok (.iload_n 2, 1) := by decide +kernel
theorem dX8_turns_9 : decode cX8_turns 9 = .ok (.i2l, 1) := by decide +kernel
theorem dX8_turns_10 : decode cX8_turns 10 = .ok (.lconst 0, 1) := by decide +kernel
theorem dX8_turns_11 : decode cX8_turns 11 = .ok (.ldc2_w 77, 3) := by decide +kernel
theorem dX8_turns_14 : decode cX8_turns 14 = .ok (.invokestatic 72, 3) := by decide +kernel
theorem dX8_turns_17 : decode cX8_turns 17 = .ok (.ifCond .eq 18, 3) := by decide +kernel
theorem dX8_turns_20 : decode cX8_turns 20 = .ok (.aload_n 0, 1) := by decide +kernel
theorem dX8_turns_21 : decode cX8_turns 21 = .ok (.bipush 12, 2) := by decide +kernel
theorem dX8_turns_23 : decode cX8_turns 23 = .ok (.bipush 12, 2) := by decide +kernel
theorem dX8_turns_25 : decode cX8_turns 25 = .ok (.iload_n 1, 1) := by decide +kernel
theorem dX8_turns_26 : decode cX8_turns 26 = .ok (.imul, 1) := by decide +kernel
theorem dX8_turns_27 : decode cX8_turns 27 = .ok (.iadd, 1) := by decide +kernel
theorem dX8_turns_28 : decode cX8_turns 28 = .ok (.iload_n 2, 1) := by decide +kernel
theorem dX8_turns_29 : decode cX8_turns 29 = .ok (.invokevirtual 132, 3) := by decide +kernel
theorem dX8_turns_32 : decode cX8_turns 32 = .ok (.goto 5, 3) := by decide +kernel
theorem dX8_turns_35 : decode cX8_turns 35 = .ok (.ldc 85, 2) := by decide +kernel
theorem dX8_turns_37 : decode cX8_turns 37 = .ok (.ireturn, 1) := by decide +kernel
theorem dX8_set_0 : decode cX8_set 0 = .ok (.aload_n 0, 1) := by decide +kernel
theorem dX8_set_1 : decode cX8_set 1 = .ok (.iload_n 1, 1) := by decide +kernel
theorem dX8_set_2 : decode cX8_set 2 = .ok (.invokevirtual 113, 3) := by decide +kernel
theorem dX8_set_5 : decode cX8_set 5 = .ok (.ifCond .eq 58, 3) := by decide +kernel
theorem dX8_set_8 : decode cX8_set 8 = .ok (.iload_n 2, 1) := by decide +kernel
theorem dX8_set_9 : decode cX8_set 9 = .ok (.i2l, 1) := by decide +kernel
theorem dX8_set_10 : decode cX8_set 10 = .ok (.lconst 1, 1) := by decide +kernel
theorem dX8_set_11 : decode cX8_set 11 = .ok (.ldc2_w 135, 3) := by decide +kernel
theorem dX8_set_14 : decode cX8_set 14 = .ok (.invokestatic 72, 3) := by decide +kernel
theorem dX8_set_17 : decode cX8_set 17 = .ok (.ifCond .eq 46, 3) := by decide +kernel
theorem dX8_set_20 : decode cX8_set 20 = .ok (.iload_n 3, 1) := by decide +kernel
theorem dX8_set_21 : decode cX8_set 21 = .ok (.i2l, 1) := by decide +kernel
theorem dX8_set_22 : decode cX8_set 22 = .ok (.iload_n 2, 1) := by decide +kernel
theorem dX8_set_23 : decode cX8_set 23 = .ok (.iconst 2, 1) := by decide +kernel
theorem dX8_set_24 : decode cX8_set 24 = .ok (.if_icmp .ne 7, 3) := by decide +kernel
theorem dX8_set_27 : decode cX8_set 27 = .ok (.lconst 1, 1) := by decide +kernel
theorem dX8_set_28 : decode cX8_set 28 = .ok (.goto 4, 3) := by decide +kernel
theorem dX8_set_31 : decode cX8_set 31 = .ok (.lconst 0, 1) := by decide +kernel
theorem dX8_set_32 : decode cX8_set 32 = .ok (.iload_n 2, 1) := by decide +kernel
theorem dX8_set_33 : decode cX8_set 33 = .ok (.iconst 1, 1) := by decide +kernel
theorem dX8_set_34 : decode cX8_set 34 = .ok (.if_icmp .ne 9, 3) := by decide +kernel
theorem dX8_set_37 : decode cX8_set 37 = .ok (.ldc2_w 79, 3) := by decide +kernel
theorem dX8_set_40 : decode cX8_set 40 = .ok (.goto 17, 3) := by decide +kernel
theorem dX8_set_43 : decode cX8_set 43 = .ok (.iload_n 2, 1) := by decide +kernel
theorem dX8_set_44 : decode cX8_set 44 = .ok (.iconst 2, 1) := by decide +kernel
theorem dX8_set_45 : decode cX8_set 45 = .ok (.if_icmp .ne 9, 3) := by decide +kernel
theorem dX8_set_48 : decode cX8_set 48 = .ok (.ldc2_w 81, 3) := by decide +kernel
theorem dX8_set_51 : decode cX8_set 51 = .ok (.goto 6, 3) := by decide +kernel
theorem dX8_set_54 : decode cX8_set 54 = .ok (.ldc2_w 83, 3) := by decide +kernel
theorem dX8_set_57 : decode cX8_set 57 = .ok (.invokestatic 72, 3) := by decide +kernel
theorem dX8_set_60 : decode cX8_set 60 = .ok (.ifCond .ne 6, 3) := by decide +kernel
theorem dX8_set_63 : decode cX8_set 63 = .ok (.ldc 85, 2) := by decide +kernel
theorem dX8_set_65 : decode cX8_set 65 = .ok (.ireturn, 1) := by decide +kernel
theorem dX8_set_66 : decode cX8_set 66 = .ok (.aload_n 0, 1) := by decide +kernel
theorem dX8_set_67 : decode cX8_set 67 = .ok (.bipush 12, 2) := by decide +kernel
theorem dX8_set_69 : decode cX8_set 69 = .ok (.bipush 12, 2) := by decide +kernel
theorem dX8_set_71 : decode cX8_set 71 = .ok (.iload_n 1, 1) := by decide +kernel
theorem dX8_set_72 : decode cX8_set 72 = .ok (.imul, 1) := by decide +kernel
theorem dX8_set_73 : decode cX8_set 73 = .ok (.iadd, 1) := by decide +kernel
theorem dX8_set_74 : decode cX8_set 74 = .ok (.iload_n 2, 1) := by decide +kernel
theorem dX8_set_75 : decode cX8_set 75 = .ok (.iadd, 1) := by decide +kernel
theorem dX8_set_76 : decode cX8_set 76 = .ok (.iload_n 3, 1) := by decide +kernel
theorem dX8_set_77 : decode cX8_set 77 = .ok (.invokevirtual 132, 3) := by decide +kernel
theorem dX8_set_80 : decode cX8_set 80 = .ok (.ireturn, 1) := by decide +kernel
theorem dX8_mayBe_0 : decode cX8_mayBe 0 = .ok (.iload_n 0, 1) := by decide +kernel
theorem dX8_mayBe_1 : decode cX8_mayBe 1 = .ok (.tableswitch 75 0 4 #[35, 45, 45, 55, 65], 35) := by decide +kernel
theorem dX8_mayBe_36 : decode cX8_mayBe 36 = .ok (.iload_n 1, 1) := by decide +kernel
theorem dX8_mayBe_37 : decode cX8_mayBe 37 = .ok (.i2l, 1) := by decide +kernel
theorem dX8_mayBe_38 : decode cX8_mayBe 38 = .ok (.lconst 1, 1) := by decide +kernel
theorem dX8_mayBe_39 : decode cX8_mayBe 39 = .ok (.ldc2_w 137, 3) := by decide +kernel
theorem dX8_mayBe_42 : decode cX8_mayBe 42 = .ok (.invokestatic 72, 3) := by decide +kernel
theorem dX8_mayBe_45 : decode cX8_mayBe 45 = .ok (.ireturn, 1) := by decide +kernel
theorem dX8_mayBe_46 : decode cX8_mayBe 46 = .ok (.iload_n 1, 1) := by decide +kernel
theorem dX8_mayBe_47 : decode cX8_mayBe 47 = .ok (.i2l, 1) := by decide +kernel
theorem dX8_mayBe_48 : decode cX8_mayBe 48 = .ok (.lconst 0, 1) := by decide +kernel
theorem dX8_mayBe_49 : decode cX8_mayBe 49 = .ok (.ldc2_w 139, 3) := by decide +kernel
theorem dX8_mayBe_52 : decode cX8_mayBe 52 = .ok (.invokestatic 72, 3) := by decide +kernel
theorem dX8_mayBe_55 : decode cX8_mayBe 55 = .ok (.ireturn, 1) := by decide +kernel
theorem dX8_mayBe_56 : decode cX8_mayBe 56 = .ok (.iload_n 1, 1) := by decide +kernel
theorem dX8_mayBe_57 : decode cX8_mayBe 57 = .ok (.i2l, 1) := by decide +kernel
theorem dX8_mayBe_58 : decode cX8_mayBe 58 = .ok (.lconst 1, 1) := by decide +kernel
theorem dX8_mayBe_59 : decode cX8_mayBe 59 = .ok (.ldc2_w 83, 3) := by decide +kernel
theorem dX8_mayBe_62 : decode cX8_mayBe 62 = .ok (.invokestatic 72, 3) := by decide +kernel
theorem dX8_mayBe_65 : decode cX8_mayBe 65 = .ok (.ireturn, 1) := by decide +kernel
theorem dX8_mayBe_66 : decode cX8_mayBe 66 = .ok (.iload_n 1, 1) := by decide +kernel
theorem dX8_mayBe_67 : decode cX8_mayBe 67 = .ok (.i2l, 1) := by decide +kernel
theorem dX8_mayBe_68 : decode cX8_mayBe 68 = .ok (.lconst 0, 1) := by decide +kernel
theorem dX8_mayBe_69 : decode cX8_mayBe 69 = .ok (.ldc2_w 141, 3) := by decide +kernel
theorem dX8_mayBe_72 : decode cX8_mayBe 72 = .ok (.invokestatic 72, 3) := by decide +kernel
theorem dX8_mayBe_75 : decode cX8_mayBe 75 = .ok (.ireturn, 1) := by decide +kernel
theorem dX8_mayBe_76 : decode cX8_mayBe 76 = .ok (.iconst 0, 1) := by decide +kernel
theorem dX8_mayBe_77 : decode cX8_mayBe 77 = .ok (.ireturn, 1) := by decide +kernel
theorem dX8_well_0 : decode cX8_well 0 = .ok (.iload_n 1, 1) := by decide +kernel
theorem dX8_well_1 : decode cX8_well 1 = .ok (.iload_n 2, 1) := by decide +kernel
theorem dX8_well_2 : decode cX8_well 2 = .ok (.invokestatic 143, 3) := by decide +kernel
theorem dX8_well_5 : decode cX8_well 5 = .ok (.ifCond .eq 14, 3) := by decide +kernel
theorem dX8_well_8 : decode cX8_well 8 = .ok (.aload_n 0, 1) := by decide +kernel
theorem dX8_well_9 : decode cX8_well 9 = .ok (.iconst 3, 1) := by decide +kernel
theorem dX8_well_10 : decode cX8_well 10 = .ok (.iload_n 1, 1) := by decide +kernel
theorem dX8_well_11 : decode cX8_well 11 = .ok (.iadd, 1) := by decide +kernel
theorem dX8_well_12 : decode cX8_well 12 = .ok (.iload_n 2, 1) := by decide +kernel
theorem dX8_well_13 : decode cX8_well 13 = .ok (.invokevirtual 132, 3) := by decide +kernel
theorem dX8_well_16 : decode cX8_well 16 = .ok (.goto 5, 3) := by decide +kernel
theorem dX8_well_19 : decode cX8_well 19 = .ok (.ldc 85, 2) := by decide +kernel
theorem dX8_well_21 : decode cX8_well 21 = .ok (.ireturn, 1) := by decide +kernel
theorem dX8_deal_0 : decode cX8_deal 0 = .ok (.iload_n 1, 1) := by decide +kernel
theorem dX8_deal_1 : decode cX8_deal 1 = .ok (.i2l, 1) := by decide +kernel
theorem dX8_deal_2 : decode cX8_deal 2 = .ok (.lconst 1, 1) := by decide +kernel
theorem dX8_deal_3 : decode cX8_deal 3 = .ok (.ldc2_w 146, 3) := by decide +kernel
theorem dX8_deal_6 : decode cX8_deal 6 = .ok (.invokestatic 72, 3) := by decide +kernel
theorem dX8_deal_9 : decode cX8_deal 9 = .ok (.ifCond .ne 6, 3) := by decide +kernel
theorem dX8_deal_12 : decode cX8_deal 12 = .ok (.ldc 85, 2) := by decide +kernel
theorem dX8_deal_14 : decode cX8_deal 14 = .ok (.ireturn, 1) := by decide +kernel
theorem dX8_deal_15 : decode cX8_deal 15 = .ok (.iconst 0, 1) := by decide +kernel
theorem dX8_deal_16 : decode cX8_deal 16 = .ok (.istore_n 2, 1) := by decide +kernel
theorem dX8_deal_17 : decode cX8_deal 17 = .ok (.iload_n 2, 1) := by decide +kernel
theorem dX8_deal_18 : decode cX8_deal 18 = .ok (.iload_n 1, 1) := by decide +kernel
theorem dX8_deal_19 : decode cX8_deal 19 = .ok (.if_icmp .ge 64, 3) := by decide +kernel
theorem dX8_deal_22 : decode cX8_deal 22 = .ok (.aload_n 0, 1) := by decide +kernel
theorem dX8_deal_23 : decode cX8_deal 23 = .ok (.getfield 7, 3) := by decide +kernel
theorem dX8_deal_26 : decode cX8_deal 26 = .ok (.iconst 0, 1) := by decide +kernel
theorem dX8_deal_27 : decode cX8_deal 27 = .ok (.iaload, 1) := by decide +kernel
theorem dX8_deal_28 : decode cX8_deal 28 = .ok (.bipush 8, 2) := by decide +kernel
theorem dX8_deal_30 : decode cX8_deal 30 = .ok (.if_icmp .ge 53, 3) := by decide +kernel
theorem dX8_deal_33 : decode cX8_deal 33 = .ok (.aload_n 0, 1) := by decide +kernel
theorem dX8_deal_34 : decode cX8_deal 34 = .ok (.invokevirtual 148, 3) := by decide +kernel
theorem dX8_deal_37 : decode cX8_deal 37 = .ok (.bipush 6, 2) := by decide +kernel
theorem dX8_deal_39 : decode cX8_deal 39 = .ok (.irem, 1) := by decide +kernel
theorem dX8_deal_40 : decode cX8_deal 40 = .ok (.istore_n 3, 1) := by decide +kernel
theorem dX8_deal_41 : decode cX8_deal 41 = .ok (.aload_n 0, 1) := by decide +kernel
theorem dX8_deal_42 : decode cX8_deal 42 = .ok (.invokevirtual 148, 3) := by decide +kernel
theorem dX8_deal_45 : decode cX8_deal 45 = .ok (.bipush 60, 2) := by decide +kernel
theorem dX8_deal_47 : decode cX8_deal 47 = .ok (.irem, 1) := by decide +kernel
theorem dX8_deal_48 : decode cX8_deal 48 = .ok (.istore 4, 2) := by decide +kernel
theorem dX8_deal_50 : decode cX8_deal 50 = .ok (.iconst 1, 1) := by decide +kernel
theorem dX8_deal_51 : decode cX8_deal 51 = .ok (.aload_n 0, 1) := by decide +kernel
theorem dX8_deal_52 : decode cX8_deal 52 = .ok (.invokevirtual 148, 3) := by decide +kernel
theorem dX8_deal_55 : decode cX8_deal 55 = .ok (.bipush 30, 2) := by decide +kernel
theorem dX8_deal_57 : decode cX8_deal 57 = .ok (.irem, 1) := by decide +kernel
theorem dX8_deal_58 : decode cX8_deal 58 = .ok (.iadd, 1) := by decide +kernel
theorem dX8_deal_59 : decode cX8_deal 59 = .ok (.istore 5, 2) := by decide +kernel
theorem dX8_deal_61 : decode cX8_deal 61 = .ok (.aload_n 0, 1) := by decide +kernel
theorem dX8_deal_62 : decode cX8_deal 62 = .ok (.iload_n 3, 1) := by decide +kernel
theorem dX8_deal_63 : decode cX8_deal 63 = .ok (.iload 4, 2) := by decide +kernel
theorem dX8_deal_65 : decode cX8_deal 65 = .ok (.iload 5, 2) := by decide +kernel
theorem dX8_deal_67 : decode cX8_deal 67 = .ok (.aload_n 0, 1) := by decide +kernel
theorem dX8_deal_68 : decode cX8_deal 68 = .ok (.invokevirtual 148, 3) := by decide +kernel
theorem dX8_deal_71 : decode cX8_deal 71 = .ok (.bipush 10, 2) := by decide +kernel
theorem dX8_deal_73 : decode cX8_deal 73 = .ok (.irem, 1) := by decide +kernel
theorem dX8_deal_74 : decode cX8_deal 74 = .ok (.invokevirtual 87, 3) := by decide +kernel
theorem dX8_deal_77 : decode cX8_deal 77 = .ok (.iinc 2 1, 3) := by decide +kernel
theorem dX8_deal_80 : decode cX8_deal 80 = .ok (.goto (-63), 3) := by decide +kernel
theorem dX8_deal_83 : decode cX8_deal 83 = .ok (.iload_n 2, 1) := by decide +kernel
theorem dX8_deal_84 : decode cX8_deal 84 = .ok (.ireturn, 1) := by decide +kernel
theorem dX8_seed_0 : decode cX8_seed 0 = .ok (.aload_n 0, 1) := by decide +kernel
theorem dX8_seed_1 : decode cX8_seed 1 = .ok (.bipush 10, 2) := by decide +kernel
theorem dX8_seed_3 : decode cX8_seed 3 = .ok (.iload_n 1, 1) := by decide +kernel
theorem dX8_seed_4 : decode cX8_seed 4 = .ok (.invokevirtual 132, 3) := by decide +kernel
theorem dX8_seed_7 : decode cX8_seed 7 = .ok (.ireturn, 1) := by decide +kernel
theorem dX8_goesBack_0 : decode cX8_goesBack 0 = .ok (.aload_n 0, 1) := by decide +kernel
theorem dX8_goesBack_1 : decode cX8_goesBack 1 = .ok (.iload_n 1, 1) := by decide +kernel
theorem dX8_goesBack_2 : decode cX8_goesBack 2 = .ok (.iconst 5, 1) := by decide +kernel
theorem dX8_goesBack_3 : decode cX8_goesBack 3 = .ok (.iconst 3, 1) := by decide +kernel
theorem dX8_goesBack_4 : decode cX8_goesBack 4 = .ok (.invokevirtual 151, 3) := by decide +kernel
theorem dX8_goesBack_7 : decode cX8_goesBack 7 = .ok (.aload_n 0, 1) := by decide +kernel
theorem dX8_goesBack_8 : decode cX8_goesBack 8 = .ok (.iload_n 1, 1) := by decide +kernel
theorem dX8_goesBack_9 : decode cX8_goesBack 9 = .ok (.bipush 6, 2) := by decide +kernel
theorem dX8_goesBack_11 : decode cX8_goesBack 11 = .ok (.aload_n 0, 1) := by decide +kernel
theorem dX8_goesBack_12 : decode cX8_goesBack 12 = .ok (.iload_n 1, 1) := by decide +kernel
theorem dX8_goesBack_13 : decode cX8_goesBack 13 = .ok (.iconst 2, 1) := by decide +kernel
theorem dX8_goesBack_14 : decode cX8_goesBack 14 = .ok (.invokevirtual 91, 3) := by decide +kernel
theorem dX8_goesBack_17 : decode cX8_goesBack 17 = .ok (.invokevirtual 151, 3) := by decide +kernel
theorem dX8_goesBack_20 : decode cX8_goesBack 20 = .ok (.return_, 1) := by decide +kernel
theorem dX8_isThere_0 : decode cX8_isThere 0 = .ok (.aload_n 0, 1) := by decide +kernel
theorem dX8_isThere_1 : decode cX8_isThere 1 = .ok (.iload_n 1, 1) := by decide +kernel
theorem dX8_isThere_2 : decode cX8_isThere 2 = .ok (.bipush 11, 2) := by decide +kernel
theorem dX8_isThere_4 : decode cX8_isThere 4 = .ok (.invokevirtual 155, 3) := by decide +kernel
theorem dX8_isThere_7 : decode cX8_isThere 7 = .ok (.aload_n 0, 1) := by decide +kernel
theorem dX8_isThere_8 : decode cX8_isThere 8 = .ok (.invokevirtual 106, 3) := by decide +kernel
theorem dX8_isThere_11 : decode cX8_isThere 11 = .ok (.ifCond .ne 110, 3) := by decide +kernel
theorem dX8_isThere_14 : decode cX8_isThere 14 = .ok (.aload_n 0, 1) := by decide +kernel
theorem dX8_isThere_15 : decode cX8_isThere 15 = .ok (.getfield 7, 3) := by decide +kernel
theorem dX8_isThere_18 : decode cX8_isThere 18 = .ok (.iconst 5, 1) := by decide +kernel
theorem dX8_isThere_19 : decode cX8_isThere 19 = .ok (.iaload, 1) := by decide +kernel
theorem dX8_isThere_20 : decode cX8_isThere 20 = .ok (.ifCond .le 101, 3) := by decide +kernel
theorem dX8_isThere_23 : decode cX8_isThere 23 = .ok (.aload_n 0, 1) := by decide +kernel
theorem dX8_isThere_24 : decode cX8_isThere 24 = .ok (.getfield 7, 3) := by decide +kernel
theorem dX8_isThere_27 : decode cX8_isThere 27 = .ok (.bipush 6, 2) := by decide +kernel
theorem dX8_isThere_29 : decode cX8_isThere 29 = .ok (.iaload, 1) := by decide +kernel
theorem dX8_isThere_30 : decode cX8_isThere 30 = .ok (.istore_n 2, 1) := by decide +kernel
theorem dX8_isThere_31 : decode cX8_isThere 31 = .ok (.aload_n 0, 1) := by decide +kernel
theorem dX8_isThere_32 : decode cX8_isThere 32 = .ok (.iload_n 1, 1) := by decide +kernel
theorem dX8_isThere_33 : decode cX8_isThere 33 = .ok (.iconst 4, 1) := by decide +kernel
theorem dX8_isThere_34 : decode cX8_isThere 34 = .ok (.invokevirtual 91, 3) := by decide +kernel
theorem dX8_isThere_37 : decode cX8_isThere 37 = .ok (.iload_n 2, 1) := by decide +kernel
theorem dX8_isThere_38 : decode cX8_isThere 38 = .ok (.if_icmp .ge 12, 3) := by decide +kernel
theorem dX8_isThere_41 : decode cX8_isThere 41 = .ok (.aload_n 0, 1) := by decide +kernel
theorem dX8_isThere_42 : decode cX8_isThere 42 = .ok (.iload_n 1, 1) := by decide +kernel
theorem dX8_isThere_43 : decode cX8_isThere 43 = .ok (.iconst 4, 1) := by decide +kernel
theorem dX8_isThere_44 : decode cX8_isThere 44 = .ok (.invokevirtual 91, 3) := by decide +kernel
theorem dX8_isThere_47 : decode cX8_isThere 47 = .ok (.goto 4, 3) := by decide +kernel
theorem dX8_isThere_50 : decode cX8_isThere 50 = .ok (.iload_n 2, 1) := by decide +kernel
theorem dX8_isThere_51 : decode cX8_isThere 51 = .ok (.istore_n 2, 1) := by decide +kernel
theorem dX8_isThere_52 : decode cX8_isThere 52 = .ok (.aload_n 0, 1) := by decide +kernel
theorem dX8_isThere_53 : decode cX8_isThere 53 = .ok (.getfield 7, 3) := by decide +kernel
theorem dX8_isThere_56 : decode cX8_isThere 56 = .ok (.iconst 5, 1) := by decide +kernel
theorem dX8_isThere_57 : decode cX8_isThere 57 = .ok (.iaload, 1) := by decide +kernel
theorem dX8_isThere_58 : decode cX8_isThere 58 = .ok (.iload_n 2, 1) := by decide +kernel
theorem dX8_isThere_59 : decode cX8_isThere 59 = .ok (.if_icmp .ge 12, 3) := by decide +kernel
theorem dX8_isThere_62 : decode cX8_isThere 62 = .ok (.aload_n 0, 1) := by decide +kernel
theorem dX8_isThere_63 : decode cX8_isThere 63 = .ok (.getfield 7, 3) := by decide +kernel
theorem dX8_isThere_66 : decode cX8_isThere 66 = .ok (.iconst 5, 1) := by decide +kernel
theorem dX8_isThere_67 : decode cX8_isThere 67 = .ok (.iaload, 1) := by decide +kernel
theorem dX8_isThere_68 : decode cX8_isThere 68 = .ok (.goto 4, 3) := by decide +kernel
theorem dX8_isThere_71 : decode cX8_isThere 71 = .ok (.iload_n 2, 1) := by decide +kernel
theorem dX8_isThere_72 : decode cX8_isThere 72 = .ok (.istore_n 2, 1) := by decide +kernel
theorem dX8_isThere_73 : decode cX8_isThere 73 = .ok (.aload_n 0, 1) := by decide +kernel
theorem dX8_isThere_74 : decode cX8_isThere 74 = .ok (.getfield 7, 3) := by decide +kernel
theorem dX8_isThere_77 : decode cX8_isThere 77 = .ok (.iconst 5, 1) := by decide +kernel
theorem dX8_isThere_78 : decode cX8_isThere 78 = .ok (.dup2, 1) := by decide +kernel
theorem dX8_isThere_79 : decode cX8_isThere 79 = .ok (.iaload, 1) := by decide +kernel
theorem dX8_isThere_80 : decode cX8_isThere 80 = .ok (.iload_n 2, 1) := by decide +kernel
theorem dX8_isThere_81 : decode cX8_isThere 81 = .ok (.isub, 1) := by decide +kernel
theorem dX8_isThere_82 : decode cX8_isThere 82 = .ok (.iastore, 1) := by decide +kernel
theorem dX8_isThere_83 : decode cX8_isThere 83 = .ok (.aload_n 0, 1) := by decide +kernel
theorem dX8_isThere_84 : decode cX8_isThere 84 = .ok (.iload_n 1, 1) := by decide +kernel
theorem dX8_isThere_85 : decode cX8_isThere 85 = .ok (.iconst 4, 1) := by decide +kernel
theorem dX8_isThere_86 : decode cX8_isThere 86 = .ok (.aload_n 0, 1) := by decide +kernel
theorem dX8_isThere_87 : decode cX8_isThere 87 = .ok (.iload_n 1, 1) := by decide +kernel
theorem dX8_isThere_88 : decode cX8_isThere 88 = .ok (.iconst 4, 1) := by decide +kernel
theorem dX8_isThere_89 : decode cX8_isThere 89 = .ok (.invokevirtual 91, 3) := by decide +kernel
theorem dX8_isThere_92 : decode cX8_isThere 92 = .ok (.iload_n 2, 1) := by decide +kernel
theorem dX8_isThere_93 : decode cX8_isThere 93 = .ok (.isub, 1) := by decide +kernel
theorem dX8_isThere_94 : decode cX8_isThere 94 = .ok (.invokevirtual 151, 3) := by decide +kernel
theorem dX8_isThere_97 : decode cX8_isThere 97 = .ok (.aload_n 0, 1) := by decide +kernel
theorem dX8_isThere_98 : decode cX8_isThere 98 = .ok (.iload_n 1, 1) := by decide +kernel
theorem dX8_isThere_99 : decode cX8_isThere 99 = .ok (.bipush 9, 2) := by decide +kernel
theorem dX8_isThere_101 : decode cX8_isThere 101 = .ok (.aload_n 0, 1) := by decide +kernel
theorem dX8_isThere_102 : decode cX8_isThere 102 = .ok (.iload_n 1, 1) := by decide +kernel
theorem dX8_isThere_103 : decode cX8_isThere 103 = .ok (.bipush 9, 2) := by decide +kernel
theorem dX8_isThere_105 : decode cX8_isThere 105 = .ok (.invokevirtual 91, 3) := by decide +kernel
theorem dX8_isThere_108 : decode cX8_isThere 108 = .ok (.iload_n 2, 1) := by decide +kernel
theorem dX8_isThere_109 : decode cX8_isThere 109 = .ok (.iadd, 1) := by decide +kernel
theorem dX8_isThere_110 : decode cX8_isThere 110 = .ok (.invokevirtual 151, 3) := by decide +kernel
theorem dX8_isThere_113 : decode cX8_isThere 113 = .ok (.aload_n 0, 1) := by decide +kernel
theorem dX8_isThere_114 : decode cX8_isThere 114 = .ok (.iload_n 1, 1) := by decide +kernel
theorem dX8_isThere_115 : decode cX8_isThere 115 = .ok (.invokevirtual 159, 3) := by decide +kernel
theorem dX8_isThere_118 : decode cX8_isThere 118 = .ok (.goto 41, 3) := by decide +kernel
theorem dX8_isThere_121 : decode cX8_isThere 121 = .ok (.aload_n 0, 1) := by decide +kernel
theorem dX8_isThere_122 : decode cX8_isThere 122 = .ok (.iload_n 1, 1) := by decide +kernel
theorem dX8_isThere_123 : decode cX8_isThere 123 = .ok (.invokevirtual 121, 3) := by decide +kernel
theorem dX8_isThere_126 : decode cX8_isThere 126 = .ok (.ifCond .le 21, 3) := by decide +kernel
theorem dX8_isThere_129 : decode cX8_isThere 129 = .ok (.aload_n 0, 1) := by decide +kernel
theorem dX8_isThere_130 : decode cX8_isThere 130 = .ok (.iload_n 1, 1) := by decide +kernel
theorem dX8_isThere_131 : decode cX8_isThere 131 = .ok (.iconst 5, 1) := by decide +kernel
theorem dX8_isThere_132 : decode cX8_isThere 132 = .ok (.iconst 2, 1) := by decide +kernel
theorem dX8_isThere_133 : decode cX8_isThere 133 = .ok (.invokevirtual 151, 3) := by decide +kernel
theorem dX8_isThere_136 : decode cX8_isThere 136 = .ok (.aload_n 0, 1) := by decide +kernel
theorem dX8_isThere_137 : decode cX8_isThere 137 = .ok (.iload_n 1, 1) := by decide +kernel
theorem dX8_isThere_138 : decode cX8_isThere 138 = .ok (.bipush 7, 2) := by decide +kernel
theorem dX8_isThere_140 : decode cX8_isThere 140 = .ok (.iconst 0, 1) := by decide +kernel
theorem dX8_isThere_141 : decode cX8_isThere 141 = .ok (.invokevirtual 151, 3) := by decide +kernel
theorem dX8_isThere_144 : decode cX8_isThere 144 = .ok (.goto 15, 3) := by decide +kernel
theorem dX8_isThere_147 : decode cX8_isThere 147 = .ok (.aload_n 0, 1) := by decide +kernel
theorem dX8_isThere_148 : decode cX8_isThere 148 = .ok (.iload_n 1, 1) := by decide +kernel
theorem dX8_isThere_149 : decode cX8_isThere 149 = .ok (.invokevirtual 159, 3) := by decide +kernel
theorem dX8_isThere_152 : decode cX8_isThere 152 = .ok (.aload_n 0, 1) := by decide +kernel
theorem dX8_isThere_153 : decode cX8_isThere 153 = .ok (.iload_n 1, 1) := by decide +kernel
theorem dX8_isThere_154 : decode cX8_isThere 154 = .ok (.bipush 10, 2) := by decide +kernel
theorem dX8_isThere_156 : decode cX8_isThere 156 = .ok (.invokevirtual 155, 3) := by decide +kernel
theorem dX8_isThere_159 : decode cX8_isThere 159 = .ok (.return_, 1) := by decide +kernel
theorem dX8_leaveHome_0 : decode cX8_leaveHome 0 = .ok (.iconst 0, 1) := by decide +kernel
theorem dX8_leaveHome_1 : decode cX8_leaveHome 1 = .ok (.istore_n 1, 1) := by decide +kernel
theorem dX8_leaveHome_2 : decode cX8_leaveHome 2 = .ok (.iload_n 1, 1) := by decide +kernel
theorem dX8_leaveHome_3 : decode cX8_leaveHome 3 = .ok (.aload_n 0, 1) := by decide +kernel
theorem dX8_leaveHome_4 : decode cX8_leaveHome 4 = .ok (.getfield 7, 3) := by decide +kernel
theorem dX8_leaveHome_7 : decode cX8_leaveHome 7 = .ok (.iconst 0, 1) := by decide +kernel
theorem dX8_leaveHome_8 : decode cX8_leaveHome 8 = .ok (.iaload, 1) := by decide +kernel
theorem dX8_leaveHome_9 : decode cX8_leaveHome 9 = .ok (.if_icmp .ge 92, 3) := by decide +kernel
theorem dX8_leaveHome_12 : decode cX8_leaveHome 12 = .ok (.aload_n 0, 1) := by decide +kernel
theorem dX8_leaveHome_13 : decode cX8_leaveHome 13 = .ok (.iload_n 1, 1) := by decide +kernel
theorem dX8_leaveHome_14 : decode cX8_leaveHome 14 = .ok (.iconst 5, 1) := by decide +kernel
theorem dX8_leaveHome_15 : decode cX8_leaveHome 15 = .ok (.invokevirtual 91, 3) := by decide +kernel
theorem dX8_leaveHome_18 : decode cX8_leaveHome 18 = .ok (.ifCond .ne 77, 3) := by decide +kernel
theorem dX8_leaveHome_21 : decode cX8_leaveHome 21 = .ok (.aload_n 0, 1) := by decide +kernel
theorem dX8_leaveHome_22 : decode cX8_leaveHome 22 = .ok (.iload_n 1, 1) := by decide +kernel
theorem dX8_leaveHome_23 : decode cX8_leaveHome 23 = .ok (.iconst 4, 1) := by decide +kernel
theorem dX8_leaveHome_24 : decode cX8_leaveHome 24 = .ok (.invokevirtual 91, 3) := by decide +kernel
theorem dX8_leaveHome_27 : decode cX8_leaveHome 27 = .ok (.ifCond .le 32, 3) := by decide +kernel
theorem dX8_leaveHome_30 : decode cX8_leaveHome 30 = .ok (.aload_n 0, 1) := by decide +kernel
theorem dX8_leaveHome_31 : decode cX8_leaveHome 31 = .ok (.iload_n 1, 1) := by decide +kernel
theorem dX8_leaveHome_32 : decode cX8_leaveHome 32 = .ok (.invokevirtual 124, 3) := by decide +kernel
theorem dX8_leaveHome_35 : decode cX8_leaveHome 35 = .ok (.ifCond .eq 24, 3) := by decide +kernel
theorem dX8_leaveHome_38 : decode cX8_leaveHome 38 = .ok (.aload_n 0, 1) := by decide +kernel
theorem dX8_leaveHome_39 : decode cX8_leaveHome 39 = .ok (.invokevirtual 148, 3) := by decide +kernel
theorem dX8_leaveHome_42 : decode cX8_leaveHome 42 = .ok (.bipush 100, 2) := by decide +kernel
theorem dX8_leaveHome_44 : decode cX8_leaveHome 44 = .ok (.irem, 1) := by decide +kernel
theorem dX8_leaveHome_45 : decode cX8_leaveHome 45 = .ok (.aload_n 0, 1) := by decide +kernel
theorem dX8_leaveHome_46 : decode cX8_leaveHome 46 = .ok (.getfield 7, 3) := by decide +kernel
theorem dX8_leaveHome_49 : decode cX8_leaveHome 49 = .ok (.bipush 7, 2) := by decide +kernel
theorem dX8_leaveHome_51 : decode cX8_leaveHome 51 = .ok (.iaload, 1) := by decide +kernel
theorem dX8_leaveHome_52 : decode cX8_leaveHome 52 = .ok (.if_icmp .lt 7, 3) := by decide +kernel
theorem dX8_leaveHome_55 : decode cX8_leaveHome 55 = .ok (.iconst 1, 1) := by decide +kernel
theorem dX8_leaveHome_56 : decode cX8_leaveHome 56 = .ok (.goto 4, 3) := by decide +kernel
theorem dX8_leaveHome_59 : decode cX8_leaveHome 59 = .ok (.iconst 0, 1) := by decide +kernel
theorem dX8_leaveHome_60 : decode cX8_leaveHome 60 = .ok (.istore_n 2, 1) := by decide +kernel
theorem dX8_leaveHome_61 : decode cX8_leaveHome 61 = .ok (.iload_n 2, 1) := by decide +kernel
theorem dX8_leaveHome_62 : decode cX8_leaveHome 62 = .ok (.ifCond .eq 26, 3) := by decide +kernel
theorem dX8_leaveHome_65 : decode cX8_leaveHome 65 = .ok (.aload_n 0, 1) := by decide +kernel
theorem dX8_leaveHome_66 : decode cX8_leaveHome 66 = .ok (.iload_n 1, 1) := by decide +kernel
theorem dX8_leaveHome_67 : decode cX8_leaveHome 67 = .ok (.iconst 5, 1) := by decide +kernel
theorem dX8_leaveHome_68 : decode cX8_leaveHome 68 = .ok (.iconst 1, 1) := by decide +kernel
theorem dX8_leaveHome_69 : decode cX8_leaveHome 69 = .ok (.invokevirtual 151, 3) := by decide +kernel
theorem dX8_leaveHome_72 : decode cX8_leaveHome 72 = .ok (.aload_n 0, 1) := by decide +kernel
theorem dX8_leaveHome_73 : decode cX8_leaveHome 73 = .ok (.iload_n 1, 1) := by decide +kernel
theorem dX8_leaveHome_74 : decode cX8_leaveHome 74 = .ok (.bipush 6, 2) := by decide +kernel
theorem dX8_leaveHome_76 : decode cX8_leaveHome 76 = .ok (.aload_n 0, 1) := by decide +kernel
theorem dX8_leaveHome_77 : decode cX8_leaveHome 77 = .ok (.iload_n 1, 1) := by decide +kernel
theorem dX8_leaveHome_78 : decode cX8_leaveHome 78 = .ok (.iconst 2, 1) := by decide +kernel
theorem dX8_leaveHome_79 : decode cX8_leaveHome 79 = .ok (.invokevirtual 91, 3) := by decide +kernel
theorem dX8_leaveHome_82 : decode cX8_leaveHome 82 = .ok (.invokevirtual 151, 3) := by decide +kernel
theorem dX8_leaveHome_85 : decode cX8_leaveHome 85 = .ok (.goto 10, 3) := by decide +kernel
theorem dX8_leaveHome_88 : decode cX8_leaveHome 88 = .ok (.aload_n 0, 1) := by decide +kernel
theorem dX8_leaveHome_89 : decode cX8_leaveHome 89 = .ok (.iload_n 1, 1) := by decide +kernel
theorem dX8_leaveHome_90 : decode cX8_leaveHome 90 = .ok (.bipush 8, 2) := by decide +kernel
theorem dX8_leaveHome_92 : decode cX8_leaveHome 92 = .ok (.invokevirtual 155, 3) := by decide +kernel
theorem dX8_leaveHome_95 : decode cX8_leaveHome 95 = .ok (.iinc 1 1, 3) := by decide +kernel
theorem dX8_leaveHome_98 : decode cX8_leaveHome 98 = .ok (.goto (-96), 3) := by decide +kernel
theorem dX8_leaveHome_101 : decode cX8_leaveHome 101 = .ok (.return_, 1) := by decide +kernel
theorem dX8_comeThere_0 : decode cX8_comeThere 0 = .ok (.iconst 0, 1) := by decide +kernel
theorem dX8_comeThere_1 : decode cX8_comeThere 1 = .ok (.istore_n 1, 1) := by decide +kernel
theorem dX8_comeThere_2 : decode cX8_comeThere 2 = .ok (.iconst 0, 1) := by decide +kernel
theorem dX8_comeThere_3 : decode cX8_comeThere 3 = .ok (.istore_n 2, 1) := by decide +kernel
theorem dX8_comeThere_4 : decode cX8_comeThere 4 = .ok (.iload_n 2, 1) := by decide +kernel
theorem dX8_comeThere_5 : decode cX8_comeThere 5 = .ok (.aload_n 0, 1) := by decide +kernel
theorem dX8_comeThere_6 : decode cX8_comeThere 6 = .ok (.getfield 7, 3) := by decide +kernel
theorem dX8_comeThere_9 : decode cX8_comeThere 9 = .ok (.iconst 0, 1) := by decide +kernel
theorem dX8_comeThere_10 : decode cX8_comeThere 10 = .ok (.iaload, 1) := by decide +kernel
theorem dX8_comeThere_11 : decode cX8_comeThere 11 = .ok (.if_icmp .ge 52, 3) := by decide +kernel
theorem dX8_comeThere_14 : decode cX8_comeThere 14 = .ok (.aload_n 0, 1) := by decide +kernel
theorem dX8_comeThere_15 : decode cX8_comeThere 15 = .ok (.iload_n 2, 1) := by decide +kernel
theorem dX8_comeThere_16 : decode cX8_comeThere 16 = .ok (.iconst 5, 1) := by decide +kernel
theorem dX8_comeThere_17 : decode cX8_comeThere 17 = .ok (.invokevirtual 91, 3) := by decide +kernel
theorem dX8_comeThere_20 : decode cX8_comeThere 20 = .ok (.iconst 1, 1) := by decide +kernel
theorem dX8_comeThere_21 : decode cX8_comeThere 21 = .ok (.if_icmp .ne 36, 3) := by decide +kernel
theorem dX8_comeThere_24 : decode cX8_comeThere 24 = .ok (.aload_n 0, 1) := by decide +kernel
theorem dX8_comeThere_25 : decode cX8_comeThere 25 = .ok (.iload_n 2, 1) := by decide +kernel
theorem dX8_comeThere_26 : decode cX8_comeThere 26 = .ok (.bipush 6, 2) := by decide +kernel
theorem dX8_comeThere_28 : decode cX8_comeThere 28 = .ok (.aload_n 0, 1) := by decide +kernel
theorem dX8_comeThere_29 : decode cX8_comeThere 29 = .ok (.iload_n 2, 1) := by decide +kernel
theorem dX8_comeThere_30 : decode cX8_comeThere 30 = .ok (.bipush 6, 2) := by decide +kernel
theorem dX8_comeThere_32 : decode cX8_comeThere 32 = .ok (.invokevirtual 91, 3) := by decide +kernel
theorem dX8_comeThere_35 : decode cX8_comeThere 35 = .ok (.iconst 1, 1) := by decide +kernel
theorem dX8_comeThere_36 : decode cX8_comeThere 36 = .ok (.isub, 1) := by decide +kernel
theorem dX8_comeThere_37 : decode cX8_comeThere 37 = .ok (.invokevirtual 151, 3) := by decide +kernel
theorem dX8_comeThere_40 : decode cX8_comeThere 40 = .ok (.aload_n 0, 1) := by decide +kernel
theorem dX8_comeThere_41 : decode cX8_comeThere 41 = .ok (.iload_n 2, 1) := by decide +kernel
theorem dX8_comeThere_42 : decode cX8_comeThere 42 = .ok (.bipush 6, 2) := by decide +kernel
theorem dX8_comeThere_44 : decode cX8_comeThere 44 = .ok (.invokevirtual 91, 3) := by decide +kernel
theorem dX8_comeThere_47 : decode cX8_comeThere 47 = .ok (.ifCond .ne 10, 3) := by decide +kernel
theorem dX8_comeThere_50 : decode cX8_comeThere 50 = .ok (.aload_n 0, 1) := by decide +kernel
theorem dX8_comeThere_51 : decode cX8_comeThere 51 = .ok (.iload_n 2, 1) := by decide +kernel
theorem dX8_comeThere_52 : decode cX8_comeThere 52 = .ok (.invokevirtual 163, 3) := by decide +kernel
theorem dX8_comeThere_55 : decode cX8_comeThere 55 = .ok (.iconst 1, 1) := by decide +kernel
theorem dX8_comeThere_56 : decode cX8_comeThere 56 = .ok (.istore_n 1, 1) := by decide +kernel
theorem dX8_comeThere_57 : decode cX8_comeThere 57 = .ok (.iinc 2 1, 3) := by decide +kernel
theorem dX8_comeThere_60 : decode cX8_comeThere 60 = .ok (.goto (-56), 3) := by decide +kernel
theorem dX8_comeThere_63 : decode cX8_comeThere 63 = .ok (.iload_n 1, 1) := by decide +kernel
theorem dX8_comeThere_64 : decode cX8_comeThere 64 = .ok (.ireturn, 1) := by decide +kernel
theorem dX8_waitOrGo_0 : decode cX8_waitOrGo 0 = .ok (.iconst 0, 1) := by decide +kernel
theorem dX8_waitOrGo_1 : decode cX8_waitOrGo 1 = .ok (.istore_n 1, 1) := by decide +kernel
theorem dX8_waitOrGo_2 : decode cX8_waitOrGo 2 = .ok (.iload_n 1, 1) := by decide +kernel
theorem dX8_waitOrGo_3 : decode cX8_waitOrGo 3 = .ok (.aload_n 0, 1) := by decide +kernel
theorem dX8_waitOrGo_4 : decode cX8_waitOrGo 4 = .ok (.getfield 7, 3) := by decide +kernel
theorem dX8_waitOrGo_7 : decode cX8_waitOrGo 7 = .ok (.iconst 0, 1) := by decide +kernel
theorem dX8_waitOrGo_8 : decode cX8_waitOrGo 8 = .ok (.iaload, 1) := by decide +kernel
theorem dX8_waitOrGo_9 : decode cX8_waitOrGo 9 = .ok (.if_icmp .ge 115, 3) := by decide +kernel
theorem dX8_waitOrGo_12 : decode cX8_waitOrGo 12 = .ok (.aload_n 0, 1) := by decide +kernel
theorem dX8_waitOrGo_13 : decode cX8_waitOrGo 13 = .ok (.getfield 43, 3) := by decide +kernel
theorem dX8_waitOrGo_16 : decode cX8_waitOrGo 16 = .ok (.iload_n 1, 1) := by decide +kernel
theorem dX8_waitOrGo_17 : decode cX8_waitOrGo 17 = .ok (.iaload, 1) := by decide +kernel
theorem dX8_waitOrGo_18 : decode cX8_waitOrGo 18 = .ok (.iconst 2, 1) := by decide +kernel
theorem dX8_waitOrGo_19 : decode cX8_waitOrGo 19 = .ok (.if_icmp .ne 48, 3) := by decide +kernel
theorem dX8_waitOrGo_22 : decode cX8_waitOrGo 22 = .ok (.aload_n 0, 1) := by decide +kernel
theorem dX8_waitOrGo_23 : decode cX8_waitOrGo 23 = .ok (.iload_n 1, 1) := by decide +kernel
theorem dX8_waitOrGo_24 : decode cX8_waitOrGo 24 = .ok (.bipush 7, 2) := by decide +kernel
theorem dX8_waitOrGo_26 : decode cX8_waitOrGo 26 = .ok (.invokevirtual 155, 3) := by decide +kernel
theorem dX8_waitOrGo_29 : decode cX8_waitOrGo 29 = .ok (.aload_n 0, 1) := by decide +kernel
theorem dX8_waitOrGo_30 : decode cX8_waitOrGo 30 = .ok (.getfield 7, 3) := by decide +kernel
theorem dX8_waitOrGo_33 : decode cX8_waitOrGo 33 = .ok (.bipush 9, 2) := by decide +kernel
theorem dX8_waitOrGo_35 : decode cX8_waitOrGo 35 = .ok (.dup2, 1) := by decide +kernel
theorem dX8_waitOrGo_36 : decode cX8_waitOrGo 36 = .ok (.iaload, 1) := by decide +kernel
theorem dX8_waitOrGo_37 : decode cX8_waitOrGo 37 = .ok (.iconst 1, 1) := by decide +kernel
theorem dX8_waitOrGo_38 : decode cX8_waitOrGo 38 = .ok (.iadd, 1) := by decide +kernel
theorem dX8_waitOrGo_39 : decode cX8_waitOrGo 39 = .ok (.iastore, 1) := by decide +kernel
theorem dX8_waitOrGo_40 : decode cX8_waitOrGo 40 = .ok (.aload_n 0, 1) := by decide +kernel
theorem dX8_waitOrGo_41 : decode cX8_waitOrGo 41 = .ok (.iload_n 1, 1) := by decide +kernel
theorem dX8_waitOrGo_42 : decode cX8_waitOrGo 42 = .ok (.bipush 7, 2) := by decide +kernel
theorem dX8_waitOrGo_44 : decode cX8_waitOrGo 44 = .ok (.invokevirtual 91, 3) := by decide +kernel
theorem dX8_waitOrGo_47 : decode cX8_waitOrGo 47 = .ok (.aload_n 0, 1) := by decide +kernel
theorem dX8_waitOrGo_48 : decode cX8_waitOrGo 48 = .ok (.iload_n 1, 1) := by decide +kernel
theorem dX8_waitOrGo_49 : decode cX8_waitOrGo 49 = .ok (.invokevirtual 121, 3) := by decide +kernel
theorem dX8_waitOrGo_52 : decode cX8_waitOrGo 52 = .ok (.if_icmp .lt 15, 3) := by decide +kernel
theorem dX8_waitOrGo_55 : decode cX8_waitOrGo 55 = .ok (.aload_n 0, 1) := by decide +kernel
theorem dX8_waitOrGo_56 : decode cX8_waitOrGo 56 = .ok (.iload_n 1, 1) := by decide +kernel
theorem dX8_waitOrGo_57 : decode cX8_waitOrGo 57 = .ok (.invokevirtual 159, 3) := by decide +kernel
theorem dX8_waitOrGo_60 : decode cX8_waitOrGo 60 = .ok (.aload_n 0, 1) := by decide +kernel
theorem dX8_waitOrGo_61 : decode cX8_waitOrGo 61 = .ok (.iload_n 1, 1) := by decide +kernel
theorem dX8_waitOrGo_62 : decode cX8_waitOrGo 62 = .ok (.bipush 10, 2) := by decide +kernel
theorem dX8_waitOrGo_64 : decode cX8_waitOrGo 64 = .ok (.invokevirtual 155, 3) := by decide +kernel
theorem dX8_waitOrGo_67 : decode cX8_waitOrGo 67 = .ok (.aload_n 0, 1) := by decide +kernel
theorem dX8_waitOrGo_68 : decode cX8_waitOrGo 68 = .ok (.getfield 43, 3) := by decide +kernel
theorem dX8_waitOrGo_71 : decode cX8_waitOrGo 71 = .ok (.iload_n 1, 1) := by decide +kernel
theorem dX8_waitOrGo_72 : decode cX8_waitOrGo 72 = .ok (.iaload, 1) := by decide +kernel
theorem dX8_waitOrGo_73 : decode cX8_waitOrGo 73 = .ok (.iconst 3, 1) := by decide +kernel
theorem dX8_waitOrGo_74 : decode cX8_waitOrGo 74 = .ok (.if_icmp .ne 44, 3) := by decide +kernel
theorem dX8_waitOrGo_77 : decode cX8_waitOrGo 77 = .ok (.aload_n 0, 1) := by decide +kernel
theorem dX8_waitOrGo_78 : decode cX8_waitOrGo 78 = .ok (.iload_n 1, 1) := by decide +kernel
theorem dX8_waitOrGo_79 : decode cX8_waitOrGo 79 = .ok (.bipush 6, 2) := by decide +kernel
theorem dX8_waitOrGo_81 : decode cX8_waitOrGo 81 = .ok (.aload_n 0, 1) := by decide +kernel
theorem dX8_waitOrGo_82 : decode cX8_waitOrGo 82 = .ok (.iload_n 1, 1) := by decide +kernel
theorem dX8_waitOrGo_83 : decode cX8_waitOrGo 83 = .ok (.bipush 6, 2) := by decide +kernel
theorem dX8_waitOrGo_85 : decode cX8_waitOrGo 85 = .ok (.invokevirtual 91, 3) := by decide +kernel
theorem dX8_waitOrGo_88 : decode cX8_waitOrGo 88 = .ok (.iconst 1, 1) := by decide +kernel
theorem dX8_waitOrGo_89 : decode cX8_waitOrGo 89 = .ok (.isub, 1) := by decide +kernel
theorem dX8_waitOrGo_90 : decode cX8_waitOrGo 90 = .ok (.invokevirtual 151, 3) := by decide +kernel
theorem dX8_waitOrGo_93 : decode cX8_waitOrGo 93 = .ok (.aload_n 0, 1) := by decide +kernel
theorem dX8_waitOrGo_94 : decode cX8_waitOrGo 94 = .ok (.iload_n 1, 1) := by decide +kernel
theorem dX8_waitOrGo_95 : decode cX8_waitOrGo 95 = .ok (.bipush 6, 2) := by decide +kernel
theorem dX8_waitOrGo_97 : decode cX8_waitOrGo 97 = .ok (.invokevirtual 91, 3) := by decide +kernel
theorem dX8_waitOrGo_100 : decode cX8_waitOrGo 100 = .ok (.ifCond .ne 18, 3) := by decide +kernel
theorem dX8_waitOrGo_103 : decode cX8_waitOrGo 103 = .ok (.aload_n 0, 1) := by decide +kernel
theorem dX8_waitOrGo_104 : decode cX8_waitOrGo 104 = .ok (.iload_n 1, 1) := by decide +kernel
theorem dX8_waitOrGo_105 : decode cX8_waitOrGo 105 = .ok (.iconst 5, 1) := by decide +kernel
theorem dX8_waitOrGo_106 : decode cX8_waitOrGo 106 = .ok (.iconst 0, 1) := by decide +kernel
theorem dX8_waitOrGo_107 : decode cX8_waitOrGo 107 = .ok (.invokevirtual 151, 3) := by decide +kernel
theorem dX8_waitOrGo_110 : decode cX8_waitOrGo 110 = .ok (.aload_n 0, 1) := by decide +kernel
theorem dX8_waitOrGo_111 : decode cX8_waitOrGo 111 = .ok (.iload_n 1, 1) := by decide +kernel
theorem dX8_waitOrGo_112 : decode cX8_waitOrGo 112 = .ok (.bipush 8, 2) := by decide +kernel
theorem dX8_waitOrGo_114 : decode cX8_waitOrGo 114 = .ok (.iconst 0, 1) := by decide +kernel
theorem dX8_waitOrGo_115 : decode cX8_waitOrGo 115 = .ok (.invokevirtual 151, 3) := by decide +kernel
theorem dX8_waitOrGo_118 : decode cX8_waitOrGo 118 = .ok (.iinc 1 1, 3) := by decide +kernel
theorem dX8_waitOrGo_121 : decode cX8_waitOrGo 121 = .ok (.goto (-119), 3) := by decide +kernel
theorem dX8_waitOrGo_124 : decode cX8_waitOrGo 124 = .ok (.return_, 1) := by decide +kernel
theorem dX8_goesOn_0 : decode cX8_goesOn 0 = .ok (.iconst 0, 1) := by decide +kernel
theorem dX8_goesOn_1 : decode cX8_goesOn 1 = .ok (.istore_n 1, 1) := by decide +kernel
theorem dX8_goesOn_2 : decode cX8_goesOn 2 = .ok (.iload_n 1, 1) := by decide +kernel
theorem dX8_goesOn_3 : decode cX8_goesOn 3 = .ok (.aload_n 0, 1) := by decide +kernel
theorem dX8_goesOn_4 : decode cX8_goesOn 4 = .ok (.getfield 7, 3) := by decide +kernel
theorem dX8_goesOn_7 : decode cX8_goesOn 7 = .ok (.iconst 0, 1) := by decide +kernel
theorem dX8_goesOn_8 : decode cX8_goesOn 8 = .ok (.iaload, 1) := by decide +kernel
theorem dX8_goesOn_9 : decode cX8_goesOn 9 = .ok (.if_icmp .ge 21, 3) := by decide +kernel
theorem dX8_goesOn_12 : decode cX8_goesOn 12 = .ok (.aload_n 0, 1) := by decide +kernel
theorem dX8_goesOn_13 : decode cX8_goesOn 13 = .ok (.getfield 43, 3) := by decide +kernel
theorem dX8_goesOn_16 : decode cX8_goesOn 16 = .ok (.iload_n 1, 1) := by decide +kernel
theorem dX8_goesOn_17 : decode cX8_goesOn 17 = .ok (.aload_n 0, 1) := by decide +kernel
theorem dX8_goesOn_18 : decode cX8_goesOn 18 = .ok (.iload_n 1, 1) := by decide +kernel
theorem dX8_goesOn_19 : decode cX8_goesOn 19 = .ok (.iconst 5, 1) := by decide +kernel
theorem dX8_goesOn_20 : decode cX8_goesOn 20 = .ok (.invokevirtual 91, 3) := by decide +kernel
theorem dX8_goesOn_23 : decode cX8_goesOn 23 = .ok (.iastore, 1) := by decide +kernel
theorem dX8_goesOn_24 : decode cX8_goesOn 24 = .ok (.iinc 1 1, 3) := by decide +kernel
theorem dX8_goesOn_27 : decode cX8_goesOn 27 = .ok (.goto (-25), 3) := by decide +kernel
theorem dX8_goesOn_30 : decode cX8_goesOn 30 = .ok (.aload_n 0, 1) := by decide +kernel
theorem dX8_goesOn_31 : decode cX8_goesOn 31 = .ok (.invokevirtual 166, 3) := by decide +kernel
theorem dX8_goesOn_34 : decode cX8_goesOn 34 = .ok (.aload_n 0, 1) := by decide +kernel
theorem dX8_goesOn_35 : decode cX8_goesOn 35 = .ok (.invokevirtual 169, 3) := by decide +kernel
theorem dX8_goesOn_38 : decode cX8_goesOn 38 = .ok (.istore_n 1, 1) := by decide +kernel
theorem dX8_goesOn_39 : decode cX8_goesOn 39 = .ok (.aload_n 0, 1) := by decide +kernel
theorem dX8_goesOn_40 : decode cX8_goesOn 40 = .ok (.invokevirtual 173, 3) := by decide +kernel
theorem dX8_goesOn_43 : decode cX8_goesOn 43 = .ok (.aload_n 0, 1) := by decide +kernel
theorem dX8_goesOn_44 : decode cX8_goesOn 44 = .ok (.invokevirtual 106, 3) := by decide +kernel
theorem dX8_goesOn_47 : decode cX8_goesOn 47 = .ok (.ifCond .le 7, 3) := by decide +kernel
theorem dX8_goesOn_50 : decode cX8_goesOn 50 = .ok (.iconst 1, 1) := by decide +kernel
theorem dX8_goesOn_51 : decode cX8_goesOn 51 = .ok (.goto 4, 3) := by decide +kernel
theorem dX8_goesOn_54 : decode cX8_goesOn 54 = .ok (.iconst 0, 1) := by decide +kernel
theorem dX8_goesOn_55 : decode cX8_goesOn 55 = .ok (.istore_n 2, 1) := by decide +kernel
theorem dX8_goesOn_56 : decode cX8_goesOn 56 = .ok (.aload_n 0, 1) := by decide +kernel
theorem dX8_goesOn_57 : decode cX8_goesOn 57 = .ok (.dup, 1) := by decide +kernel
theorem dX8_goesOn_58 : decode cX8_goesOn 58 = .ok (.getfield 176, 3) := by decide +kernel
theorem dX8_goesOn_61 : decode cX8_goesOn 61 = .ok (.iload_n 2, 1) := by decide +kernel
theorem dX8_goesOn_62 : decode cX8_goesOn 62 = .ok (.ifCond .eq 7, 3) := by decide +kernel
theorem dX8_goesOn_65 : decode cX8_goesOn 65 = .ok (.iconst 1, 1) := by decide +kernel
theorem dX8_goesOn_66 : decode cX8_goesOn 66 = .ok (.goto 4, 3) := by decide +kernel
theorem dX8_goesOn_69 : decode cX8_goesOn 69 = .ok (.iconst 0, 1) := by decide +kernel
theorem dX8_goesOn_70 : decode cX8_goesOn 70 = .ok (.iadd, 1) := by decide +kernel
theorem dX8_goesOn_71 : decode cX8_goesOn 71 = .ok (.putfield 176, 3) := by decide +kernel
theorem dX8_goesOn_74 : decode cX8_goesOn 74 = .ok (.aload_n 0, 1) := by decide +kernel
theorem dX8_goesOn_75 : decode cX8_goesOn 75 = .ok (.getfield 7, 3) := by decide +kernel
theorem dX8_goesOn_78 : decode cX8_goesOn 78 = .ok (.bipush 8, 2) := by decide +kernel
theorem dX8_goesOn_80 : decode cX8_goesOn 80 = .ok (.iload_n 1, 1) := by decide +kernel
theorem dX8_goesOn_81 : decode cX8_goesOn 81 = .ok (.ifCond .ne 7, 3) := by decide +kernel
theorem dX8_goesOn_84 : decode cX8_goesOn 84 = .ok (.iload_n 2, 1) := by decide +kernel
theorem dX8_goesOn_85 : decode cX8_goesOn 85 = .ok (.ifCond .eq 7, 3) := by decide +kernel
theorem dX8_goesOn_88 : decode cX8_goesOn 88 = .ok (.iconst 0, 1) := by decide +kernel
theorem dX8_goesOn_89 : decode cX8_goesOn 89 = .ok (.goto 12, 3) := by decide +kernel
theorem dX8_goesOn_92 : decode cX8_goesOn 92 = .ok (.aload_n 0, 1) := by decide +kernel
theorem dX8_goesOn_93 : decode cX8_goesOn 93 = .ok (.getfield 7, 3) := by decide +kernel
theorem dX8_goesOn_96 : decode cX8_goesOn 96 = .ok (.bipush 8, 2) := by decide +kernel
theorem dX8_goesOn_98 : decode cX8_goesOn 98 = .ok (.iaload, 1) := by decide +kernel
theorem dX8_goesOn_99 : decode cX8_goesOn 99 = .ok (.iconst 1, 1) := by decide +kernel
theorem dX8_goesOn_100 : decode cX8_goesOn 100 = .ok (.iadd, 1) := by decide +kernel
theorem dX8_goesOn_101 : decode cX8_goesOn 101 = .ok (.iastore, 1) := by decide +kernel
theorem dX8_goesOn_102 : decode cX8_goesOn 102 = .ok (.iload_n 1, 1) := by decide +kernel
theorem dX8_goesOn_103 : decode cX8_goesOn 103 = .ok (.ifCond .ne 60, 3) := by decide +kernel
theorem dX8_goesOn_106 : decode cX8_goesOn 106 = .ok (.iload_n 2, 1) := by decide +kernel
theorem dX8_goesOn_107 : decode cX8_goesOn 107 = .ok (.ifCond .ne 56, 3) := by decide +kernel
theorem dX8_goesOn_110 : decode cX8_goesOn 110 = .ok (.aload_n 0, 1) := by decide +kernel
theorem dX8_goesOn_111 : decode cX8_goesOn 111 = .ok (.getfield 7, 3) := by decide +kernel
theorem dX8_goesOn_114 : decode cX8_goesOn 114 = .ok (.bipush 8, 2) := by decide +kernel
theorem dX8_goesOn_116 : decode cX8_goesOn 116 = .ok (.iaload, 1) := by decide +kernel
theorem dX8_goesOn_117 : decode cX8_goesOn 117 = .ok (.aload_n 0, 1) := by decide +kernel
theorem dX8_goesOn_118 : decode cX8_goesOn 118 = .ok (.getfield 7, 3) := by decide +kernel
theorem dX8_goesOn_121 : decode cX8_goesOn 121 = .ok (.iconst 3, 1) := by decide +kernel
theorem dX8_goesOn_122 : decode cX8_goesOn 122 = .ok (.iaload, 1) := by decide +kernel
theorem dX8_goesOn_123 : decode cX8_goesOn 123 = .ok (.if_icmp .lt 40, 3) := by decide +kernel
theorem dX8_goesOn_126 : decode cX8_goesOn 126 = .ok (.aload_n 0, 1) := by decide +kernel
theorem dX8_goesOn_127 : decode cX8_goesOn 127 = .ok (.getfield 7, 3) := by decide +kernel
theorem dX8_goesOn_130 : decode cX8_goesOn 130 = .ok (.bipush 8, 2) := by decide +kernel
theorem dX8_goesOn_132 : decode cX8_goesOn 132 = .ok (.iconst 0, 1) := by decide +kernel
theorem dX8_goesOn_133 : decode cX8_goesOn 133 = .ok (.iastore, 1) := by decide +kernel
theorem dX8_goesOn_134 : decode cX8_goesOn 134 = .ok (.aload_n 0, 1) := by decide +kernel
theorem dX8_goesOn_135 : decode cX8_goesOn 135 = .ok (.getfield 7, 3) := by decide +kernel
theorem dX8_goesOn_138 : decode cX8_goesOn 138 = .ok (.iconst 5, 1) := by decide +kernel
theorem dX8_goesOn_139 : decode cX8_goesOn 139 = .ok (.dup2, 1) := by decide +kernel
theorem dX8_goesOn_140 : decode cX8_goesOn 140 = .ok (.iaload, 1) := by decide +kernel
theorem dX8_goesOn_141 : decode cX8_goesOn 141 = .ok (.aload_n 0, 1) := by decide +kernel
theorem dX8_goesOn_142 : decode cX8_goesOn 142 = .ok (.getfield 7, 3) := by decide +kernel
theorem dX8_goesOn_145 : decode cX8_goesOn 145 = .ok (.iconst 5, 1) := by decide +kernel
theorem dX8_goesOn_146 : decode cX8_goesOn 146 = .ok (.iaload, 1) := by decide +kernel
theorem dX8_goesOn_147 : decode cX8_goesOn 147 = .ok (.aload_n 0, 1) := by decide +kernel
theorem dX8_goesOn_148 : decode cX8_goesOn 148 = .ok (.getfield 7, 3) := by decide +kernel
theorem dX8_goesOn_151 : decode cX8_goesOn 151 = .ok (.iconst 4, 1) := by decide +kernel
theorem dX8_goesOn_152 : decode cX8_goesOn 152 = .ok (.iaload, 1) := by decide +kernel
theorem dX8_goesOn_153 : decode cX8_goesOn 153 = .ok (.if_icmp .ge 7, 3) := by decide +kernel
theorem dX8_goesOn_156 : decode cX8_goesOn 156 = .ok (.iconst 1, 1) := by decide +kernel
theorem dX8_goesOn_157 : decode cX8_goesOn 157 = .ok (.goto 4, 3) := by decide +kernel
theorem dX8_goesOn_160 : decode cX8_goesOn 160 = .ok (.iconst 0, 1) := by decide +kernel
theorem dX8_goesOn_161 : decode cX8_goesOn 161 = .ok (.iadd, 1) := by decide +kernel
theorem dX8_goesOn_162 : decode cX8_goesOn 162 = .ok (.iastore, 1) := by decide +kernel
theorem dX8_goesOn_163 : decode cX8_goesOn 163 = .ok (.aload_n 0, 1) := by decide +kernel
theorem dX8_goesOn_164 : decode cX8_goesOn 164 = .ok (.getfield 7, 3) := by decide +kernel
theorem dX8_goesOn_167 : decode cX8_goesOn 167 = .ok (.iconst 2, 1) := by decide +kernel
theorem dX8_goesOn_168 : decode cX8_goesOn 168 = .ok (.dup2, 1) := by decide +kernel
theorem dX8_goesOn_169 : decode cX8_goesOn 169 = .ok (.iaload, 1) := by decide +kernel
theorem dX8_goesOn_170 : decode cX8_goesOn 170 = .ok (.iconst 1, 1) := by decide +kernel
theorem dX8_goesOn_171 : decode cX8_goesOn 171 = .ok (.iadd, 1) := by decide +kernel
theorem dX8_goesOn_172 : decode cX8_goesOn 172 = .ok (.iastore, 1) := by decide +kernel
theorem dX8_goesOn_173 : decode cX8_goesOn 173 = .ok (.iconst 0, 1) := by decide +kernel
theorem dX8_goesOn_174 : decode cX8_goesOn 174 = .ok (.istore_n 3, 1) := by decide +kernel
theorem dX8_goesOn_175 : decode cX8_goesOn 175 = .ok (.iload_n 3, 1) := by decide +kernel
theorem dX8_goesOn_176 : decode cX8_goesOn 176 = .ok (.aload_n 0, 1) := by decide +kernel
theorem dX8_goesOn_177 : decode cX8_goesOn 177 = .ok (.getfield 7, 3) := by decide +kernel
theorem dX8_goesOn_180 : decode cX8_goesOn 180 = .ok (.iconst 0, 1) := by decide +kernel
theorem dX8_goesOn_181 : decode cX8_goesOn 181 = .ok (.iaload, 1) := by decide +kernel
theorem dX8_goesOn_182 : decode cX8_goesOn 182 = .ok (.if_icmp .ge 53, 3) := by decide +kernel
theorem dX8_goesOn_185 : decode cX8_goesOn 185 = .ok (.aload_n 0, 1) := by decide +kernel
theorem dX8_goesOn_186 : decode cX8_goesOn 186 = .ok (.getfield 7, 3) := by decide +kernel
theorem dX8_goesOn_189 : decode cX8_goesOn 189 = .ok (.iconst 2, 1) := by decide +kernel
theorem dX8_goesOn_190 : decode cX8_goesOn 190 = .ok (.iaload, 1) := by decide +kernel
theorem dX8_goesOn_191 : decode cX8_goesOn 191 = .ok (.sipush 1440, 3) := by decide +kernel
theorem dX8_goesOn_194 : decode cX8_goesOn 194 = .ok (.irem, 1) := by decide +kernel
theorem dX8_goesOn_195 : decode cX8_goesOn 195 = .ok (.ifCond .ne 40, 3) := by decide +kernel
theorem dX8_goesOn_198 : decode cX8_goesOn 198 = .ok (.aload_n 0, 1) := by decide +kernel
theorem dX8_goesOn_199 : decode cX8_goesOn 199 = .ok (.iload_n 3, 1) := by decide +kernel
theorem dX8_goesOn_200 : decode cX8_goesOn 200 = .ok (.iconst 4, 1) := by decide +kernel
theorem dX8_goesOn_201 : decode cX8_goesOn 201 = .ok (.aload_n 0, 1) := by decide +kernel
theorem dX8_goesOn_202 : decode cX8_goesOn 202 = .ok (.getfield 46, 3) := by decide +kernel
theorem dX8_goesOn_205 : decode cX8_goesOn 205 = .ok (.ifCond .lt 15, 3) := by decide +kernel
theorem dX8_goesOn_208 : decode cX8_goesOn 208 = .ok (.aload_n 0, 1) := by decide +kernel
theorem dX8_goesOn_209 : decode cX8_goesOn 209 = .ok (.getfield 46, 3) := by decide +kernel
theorem dX8_goesOn_212 : decode cX8_goesOn 212 = .ok (.iload_n 3, 1) := by decide +kernel
theorem dX8_goesOn_213 : decode cX8_goesOn 213 = .ok (.if_icmp .eq 7, 3) := by decide +kernel
theorem dX8_goesOn_216 : decode cX8_goesOn 216 = .ok (.iconst 0, 1) := by decide +kernel
theorem dX8_goesOn_217 : decode cX8_goesOn 217 = .ok (.goto 9, 3) := by decide +kernel
theorem dX8_goesOn_220 : decode cX8_goesOn 220 = .ok (.aload_n 0, 1) := by decide +kernel
theorem dX8_goesOn_221 : decode cX8_goesOn 221 = .ok (.iload_n 3, 1) := by decide +kernel
theorem dX8_goesOn_222 : decode cX8_goesOn 222 = .ok (.iconst 3, 1) := by decide +kernel
theorem dX8_goesOn_223 : decode cX8_goesOn 223 = .ok (.invokevirtual 91, 3) := by decide +kernel
theorem dX8_goesOn_226 : decode cX8_goesOn 226 = .ok (.invokevirtual 151, 3) := by decide +kernel
theorem dX8_goesOn_229 : decode cX8_goesOn 229 = .ok (.iinc 3 1, 3) := by decide +kernel
theorem dX8_goesOn_232 : decode cX8_goesOn 232 = .ok (.goto (-57), 3) := by decide +kernel
theorem dX8_goesOn_235 : decode cX8_goesOn 235 = .ok (.return_, 1) := by decide +kernel
theorem dX8_ofAll_0 : decode cX8_ofAll 0 = .ok (.iconst 0, 1) := by decide +kernel
theorem dX8_ofAll_1 : decode cX8_ofAll 1 = .ok (.istore_n 2, 1) := by decide +kernel
theorem dX8_ofAll_2 : decode cX8_ofAll 2 = .ok (.iconst 0, 1) := by decide +kernel
theorem dX8_ofAll_3 : decode cX8_ofAll 3 = .ok (.istore_n 3, 1) := by decide +kernel
theorem dX8_ofAll_4 : decode cX8_ofAll 4 = .ok (.iload_n 3, 1) := by decide +kernel
theorem dX8_ofAll_5 : decode cX8_ofAll 5 = .ok (.aload_n 0, 1) := by decide +kernel
theorem dX8_ofAll_6 : decode cX8_ofAll 6 = .ok (.getfield 7, 3) := by decide +kernel
theorem dX8_ofAll_9 : decode cX8_ofAll 9 = .ok (.iconst 0, 1) := by decide +kernel
theorem dX8_ofAll_10 : decode cX8_ofAll 10 = .ok (.iaload, 1) := by decide +kernel
theorem dX8_ofAll_11 : decode cX8_ofAll 11 = .ok (.if_icmp .ge 18, 3) := by decide +kernel
theorem dX8_ofAll_14 : decode cX8_ofAll 14 = .ok (.iload_n 2, 1) := by decide +kernel
theorem dX8_ofAll_15 : decode cX8_ofAll 15 = .ok (.aload_n 0, 1) := by decide +kernel
theorem dX8_ofAll_16 : decode cX8_ofAll 16 = .ok (.iload_n 3, 1) := by decide +kernel
theorem dX8_ofAll_17 : decode cX8_ofAll 17 = .ok (.iload_n 1, 1) := by decide +kernel
theorem dX8_ofAll_18 : decode cX8_ofAll 18 = .ok (.invokevirtual 91, 3) := by decide +kernel
theorem dX8_ofAll_21 : decode cX8_ofAll 21 = .ok (.iadd, 1) := by decide +kernel
theorem dX8_ofAll_22 : decode cX8_ofAll 22 = .ok (.istore_n 2, 1) := by decide +kernel
theorem dX8_ofAll_23 : decode cX8_ofAll 23 = .ok (.iinc 3 1, 3) := by decide +kernel
theorem dX8_ofAll_26 : decode cX8_ofAll 26 = .ok (.goto (-22), 3) := by decide +kernel
theorem dX8_ofAll_29 : decode cX8_ofAll 29 = .ok (.iload_n 2, 1) := by decide +kernel
theorem dX8_ofAll_30 : decode cX8_ofAll 30 = .ok (.ireturn, 1) := by decide +kernel
theorem dX8_run_0 : decode cX8_run 0 = .ok (.iload_n 1, 1) := by decide +kernel
theorem dX8_run_1 : decode cX8_run 1 = .ok (.i2l, 1) := by decide +kernel
theorem dX8_run_2 : decode cX8_run 2 = .ok (.lconst 1, 1) := by decide +kernel
theorem dX8_run_3 : decode cX8_run 3 = .ok (.ldc2_w 179, 3) := by decide +kernel
theorem dX8_run_6 : decode cX8_run 6 = .ok (.invokestatic 72, 3) := by decide +kernel
theorem dX8_run_9 : decode cX8_run 9 = .ok (.ifCond .ne 6, 3) := by decide +kernel
theorem dX8_run_12 : decode cX8_run 12 = .ok (.ldc 85, 2) := by decide +kernel
theorem dX8_run_14 : decode cX8_run 14 = .ok (.ireturn, 1) := by decide +kernel
theorem dX8_run_15 : decode cX8_run 15 = .ok (.iconst 0, 1) := by decide +kernel
theorem dX8_run_16 : decode cX8_run 16 = .ok (.istore_n 2, 1) := by decide +kernel
theorem dX8_run_17 : decode cX8_run 17 = .ok (.iload_n 2, 1) := by decide +kernel
theorem dX8_run_18 : decode cX8_run 18 = .ok (.iload_n 1, 1) := by decide +kernel
theorem dX8_run_19 : decode cX8_run 19 = .ok (.if_icmp .ge 24, 3) := by decide +kernel
theorem dX8_run_22 : decode cX8_run 22 = .ok (.aload_n 0, 1) := by decide +kernel
theorem dX8_run_23 : decode cX8_run 23 = .ok (.getfield 7, 3) := by decide +kernel
theorem dX8_run_26 : decode cX8_run 26 = .ok (.iconst 2, 1) := by decide +kernel
theorem dX8_run_27 : decode cX8_run 27 = .ok (.iaload, 1) := by decide +kernel
theorem dX8_run_28 : decode cX8_run 28 = .ok (.ldc 181, 2) := by decide +kernel
theorem dX8_run_30 : decode cX8_run 30 = .ok (.if_icmp .ge 13, 3) := by decide +kernel
theorem dX8_run_33 : decode cX8_run 33 = .ok (.aload_n 0, 1) := by decide +kernel
theorem dX8_run_34 : decode cX8_run 34 = .ok (.invokevirtual 182, 3) := by decide +kernel
theorem dX8_run_37 : decode cX8_run 37 = .ok (.iinc 2 1, 3) := by decide +kernel
theorem dX8_run_40 : decode cX8_run 40 = .ok (.goto (-23), 3) := by decide +kernel
theorem dX8_run_43 : decode cX8_run 43 = .ok (.aload_n 0, 1) := by decide +kernel
theorem dX8_run_44 : decode cX8_run 44 = .ok (.bipush 9, 2) := by decide +kernel
theorem dX8_run_46 : decode cX8_run 46 = .ok (.invokevirtual 185, 3) := by decide +kernel
theorem dX8_run_49 : decode cX8_run 49 = .ok (.ireturn, 1) := by decide +kernel
theorem dX8_laysBy_0 : decode cX8_laysBy 0 = .ok (.iconst 0, 1) := by decide +kernel
theorem dX8_laysBy_1 : decode cX8_laysBy 1 = .ok (.istore_n 1, 1) := by decide +kernel
theorem dX8_laysBy_2 : decode cX8_laysBy 2 = .ok (.iload_n 1, 1) := by decide +kernel
theorem dX8_laysBy_3 : decode cX8_laysBy 3 = .ok (.bipush 108, 2) := by decide +kernel
theorem dX8_laysBy_5 : decode cX8_laysBy 5 = .ok (.if_icmp .ge 21, 3) := by decide +kernel
theorem dX8_laysBy_8 : decode cX8_laysBy 8 = .ok (.aload_n 0, 1) := by decide +kernel
theorem dX8_laysBy_9 : decode cX8_laysBy 9 = .ok (.getfield 50, 3) := by decide +kernel
theorem dX8_laysBy_12 : decode cX8_laysBy 12 = .ok (.iload_n 1, 1) := by decide +kernel
theorem dX8_laysBy_13 : decode cX8_laysBy 13 = .ok (.aload_n 0, 1) := by decide +kernel
theorem dX8_laysBy_14 : decode cX8_laysBy 14 = .ok (.getfield 7, 3) := by decide +kernel
theorem dX8_laysBy_17 : decode cX8_laysBy 17 = .ok (.iload_n 1, 1) := by decide +kernel
theorem dX8_laysBy_18 : decode cX8_laysBy 18 = .ok (.iaload, 1) := by decide +kernel
theorem dX8_laysBy_19 : decode cX8_laysBy 19 = .ok (.iastore, 1) := by decide +kernel
theorem dX8_laysBy_20 : decode cX8_laysBy 20 = .ok (.iinc 1 1, 3) := by decide +kernel
theorem dX8_laysBy_23 : decode cX8_laysBy 23 = .ok (.goto (-21), 3) := by decide +kernel
theorem dX8_laysBy_26 : decode cX8_laysBy 26 = .ok (.return_, 1) := by decide +kernel
theorem dX8_laysBack_0 : decode cX8_laysBack 0 = .ok (.iconst 0, 1) := by decide +kernel
theorem dX8_laysBack_1 : decode cX8_laysBack 1 = .ok (.istore_n 1, 1) := by decide +kernel
theorem dX8_laysBack_2 : decode cX8_laysBack 2 = .ok (.iload_n 1, 1) := by decide +kernel
theorem dX8_laysBack_3 : decode cX8_laysBack 3 = .ok (.bipush 108, 2) := by decide +kernel
theorem dX8_laysBack_5 : decode cX8_laysBack 5 = .ok (.if_icmp .ge 21, 3) := by decide +kernel
theorem dX8_laysBack_8 : decode cX8_laysBack 8 = .ok (.aload_n 0, 1) := by decide +kernel
theorem dX8_laysBack_9 : decode cX8_laysBack 9 = .ok (.getfield 7, 3) := by decide +kernel
theorem dX8_laysBack_12 : decode cX8_laysBack 12 = .ok (.iload_n 1, 1) := by decide +kernel
theorem dX8_laysBack_13 : decode cX8_laysBack 13 = .ok (.aload_n 0, 1) := by decide +kernel
theorem dX8_laysBack_14 : decode cX8_laysBack 14 = .ok (.getfield 50, 3) := by decide +kernel
theorem dX8_laysBack_17 : decode cX8_laysBack 17 = .ok (.iload_n 1, 1) := by decide +kernel
theorem dX8_laysBack_18 : decode cX8_laysBack 18 = .ok (.iaload, 1) := by decide +kernel
theorem dX8_laysBack_19 : decode cX8_laysBack 19 = .ok (.iastore, 1) := by decide +kernel
theorem dX8_laysBack_20 : decode cX8_laysBack 20 = .ok (.iinc 1 1, 3) := by decide +kernel
theorem dX8_laysBack_23 : decode cX8_laysBack 23 = .ok (.goto (-21), 3) := by decide +kernel
theorem dX8_laysBack_26 : decode cX8_laysBack 26 = .ok (.return_, 1) := by decide +kernel
theorem dX8_goesOnMany_0 : decode cX8_goesOnMany 0 = .ok (.iconst 0, 1) := by decide +kernel
theorem dX8_goesOnMany_1 : decode cX8_goesOnMany 1 = .ok (.istore_n 2, 1) := by decide +kernel
theorem dX8_goesOnMany_2 : decode cX8_goesOnMany 2 = .ok (.iload_n 2, 1) := by decide +kernel
theorem dX8_goesOnMany_3 : decode cX8_goesOnMany 3 = .ok (.iload_n 1, 1) := by decide +kernel
theorem dX8_goesOnMany_4 : decode cX8_goesOnMany 4 = .ok (.if_icmp .ge 13, 3) := by decide +kernel
theorem dX8_goesOnMany_7 : decode cX8_goesOnMany 7 = .ok (.aload_n 0, 1) := by decide +kernel
theorem dX8_goesOnMany_8 : decode cX8_goesOnMany 8 = .ok (.invokevirtual 182, 3) := by decide +kernel
theorem dX8_goesOnMany_11 : decode cX8_goesOnMany 11 = .ok (.iinc 2 1, 3) := by decide +kernel
theorem dX8_goesOnMany_14 : decode cX8_goesOnMany 14 = .ok (.goto (-12), 3) := by decide +kernel
theorem dX8_goesOnMany_17 : decode cX8_goesOnMany 17 = .ok (.return_, 1) := by decide +kernel
theorem dX8_behind_0 : decode cX8_behind 0 = .ok (.iload_n 1, 1) := by decide +kernel
theorem dX8_behind_1 : decode cX8_behind 1 = .ok (.i2l, 1) := by decide +kernel
theorem dX8_behind_2 : decode cX8_behind 2 = .ok (.lconst 0, 1) := by decide +kernel
theorem dX8_behind_3 : decode cX8_behind 3 = .ok (.ldc2_w 179, 3) := by decide +kernel
theorem dX8_behind_6 : decode cX8_behind 6 = .ok (.invokestatic 72, 3) := by decide +kernel
theorem dX8_behind_9 : decode cX8_behind 9 = .ok (.ifCond .eq 15, 3) := by decide +kernel
theorem dX8_behind_12 : decode cX8_behind 12 = .ok (.iload_n 2, 1) := by decide +kernel
theorem dX8_behind_13 : decode cX8_behind 13 = .ok (.i2l, 1) := by decide +kernel
theorem dX8_behind_14 : decode cX8_behind 14 = .ok (.lconst 0, 1) := by decide +kernel
theorem dX8_behind_15 : decode cX8_behind 15 = .ok (.ldc2_w 188, 3) := by decide +kernel
theorem dX8_behind_18 : decode cX8_behind 18 = .ok (.invokestatic 72, 3) := by decide +kernel
theorem dX8_behind_21 : decode cX8_behind 21 = .ok (.ifCond .ne 6, 3) := by decide +kernel
theorem dX8_behind_24 : decode cX8_behind 24 = .ok (.ldc 85, 2) := by decide +kernel
theorem dX8_behind_26 : decode cX8_behind 26 = .ok (.ireturn, 1) := by decide +kernel
theorem dX8_behind_27 : decode cX8_behind 27 = .ok (.aload_n 0, 1) := by decide +kernel
theorem dX8_behind_28 : decode cX8_behind 28 = .ok (.invokevirtual 190, 3) := by decide +kernel
theorem dX8_behind_31 : decode cX8_behind 31 = .ok (.aload_n 0, 1) := by decide +kernel
theorem dX8_behind_32 : decode cX8_behind 32 = .ok (.iconst 0, 1) := by decide +kernel
theorem dX8_behind_33 : decode cX8_behind 33 = .ok (.putfield 176, 3) := by decide +kernel
theorem dX8_behind_36 : decode cX8_behind 36 = .ok (.aload_n 0, 1) := by decide +kernel
theorem dX8_behind_37 : decode cX8_behind 37 = .ok (.iload_n 1, 1) := by decide +kernel
theorem dX8_behind_38 : decode cX8_behind 38 = .ok (.invokevirtual 193, 3) := by decide +kernel
theorem dX8_behind_41 : decode cX8_behind 41 = .ok (.iload_n 2, 1) := by decide +kernel
theorem dX8_behind_42 : decode cX8_behind 42 = .ok (.ifCond .ne 12, 3) := by decide +kernel
theorem dX8_behind_45 : decode cX8_behind 45 = .ok (.aload_n 0, 1) := by decide +kernel
theorem dX8_behind_46 : decode cX8_behind 46 = .ok (.getfield 7, 3) := by decide +kernel
theorem dX8_behind_49 : decode cX8_behind 49 = .ok (.iconst 5, 1) := by decide +kernel
theorem dX8_behind_50 : decode cX8_behind 50 = .ok (.iaload, 1) := by decide +kernel
theorem dX8_behind_51 : decode cX8_behind 51 = .ok (.goto 35, 3) := by decide +kernel
theorem dX8_behind_54 : decode cX8_behind 54 = .ok (.iload_n 2, 1) := by decide +kernel
theorem dX8_behind_55 : decode cX8_behind 55 = .ok (.iconst 1, 1) := by decide +kernel
theorem dX8_behind_56 : decode cX8_behind 56 = .ok (.if_icmp .ne 12, 3) := by decide +kernel
theorem dX8_behind_59 : decode cX8_behind 59 = .ok (.aload_n 0, 1) := by decide +kernel
theorem dX8_behind_60 : decode cX8_behind 60 = .ok (.bipush 9, 2) := by decide +kernel
theorem dX8_behind_62 : decode cX8_behind 62 = .ok (.invokevirtual 185, 3) := by decide +kernel
theorem dX8_behind_65 : decode cX8_behind 65 = .ok (.goto 21, 3) := by decide +kernel
theorem dX8_behind_68 : decode cX8_behind 68 = .ok (.iload_n 2, 1) := by decide +kernel
theorem dX8_behind_69 : decode cX8_behind 69 = .ok (.iconst 2, 1) := by decide +kernel
theorem dX8_behind_70 : decode cX8_behind 70 = .ok (.if_icmp .ne 12, 3) := by decide +kernel
theorem dX8_behind_73 : decode cX8_behind 73 = .ok (.aload_n 0, 1) := by decide +kernel
theorem dX8_behind_74 : decode cX8_behind 74 = .ok (.bipush 10, 2) := by decide +kernel
theorem dX8_behind_76 : decode cX8_behind 76 = .ok (.invokevirtual 185, 3) := by decide +kernel
theorem dX8_behind_79 : decode cX8_behind 79 = .ok (.goto 7, 3) := by decide +kernel
theorem dX8_behind_82 : decode cX8_behind 82 = .ok (.aload_n 0, 1) := by decide +kernel
theorem dX8_behind_83 : decode cX8_behind 83 = .ok (.getfield 176, 3) := by decide +kernel
theorem dX8_behind_86 : decode cX8_behind 86 = .ok (.istore_n 3, 1) := by decide +kernel
theorem dX8_behind_87 : decode cX8_behind 87 = .ok (.aload_n 0, 1) := by decide +kernel
theorem dX8_behind_88 : decode cX8_behind 88 = .ok (.invokevirtual 196, 3) := by decide +kernel
theorem dX8_behind_91 : decode cX8_behind 91 = .ok (.iload_n 3, 1) := by decide +kernel
theorem dX8_behind_92 : decode cX8_behind 92 = .ok (.ireturn, 1) := by decide +kernel
theorem dX8_fullIn_0 : decode cX8_fullIn 0 = .ok (.iload_n 1, 1) := by decide +kernel
theorem dX8_fullIn_1 : decode cX8_fullIn 1 = .ok (.i2l, 1) := by decide +kernel
theorem dX8_fullIn_2 : decode cX8_fullIn 2 = .ok (.lconst 0, 1) := by decide +kernel
theorem dX8_fullIn_3 : decode cX8_fullIn 3 = .ok (.ldc2_w 139, 3) := by decide +kernel
theorem dX8_fullIn_6 : decode cX8_fullIn 6 = .ok (.invokestatic 72, 3) := by decide +kernel
theorem dX8_fullIn_9 : decode cX8_fullIn 9 = .ok (.ifCond .ne 6, 3) := by decide +kernel
theorem dX8_fullIn_12 : decode cX8_fullIn 12 = .ok (.ldc 85, 2) := by decide +kernel
theorem dX8_fullIn_14 : decode cX8_fullIn 14 = .ok (.ireturn, 1) := by decide +kernel
theorem dX8_fullIn_15 : decode cX8_fullIn 15 = .ok (.aload_n 0, 1) := by decide +kernel
theorem dX8_fullIn_16 : decode cX8_fullIn 16 = .ok (.getfield 7, 3) := by decide +kernel
theorem dX8_fullIn_19 : decode cX8_fullIn 19 = .ok (.iconst 5, 1) := by decide +kernel
theorem dX8_fullIn_20 : decode cX8_fullIn 20 = .ok (.iaload, 1) := by decide +kernel
theorem dX8_fullIn_21 : decode cX8_fullIn 21 = .ok (.iload_n 1, 1) := by decide +kernel
theorem dX8_fullIn_22 : decode cX8_fullIn 22 = .ok (.if_icmp .lt 5, 3) := by decide +kernel
theorem dX8_fullIn_25 : decode cX8_fullIn 25 = .ok (.iconst 0, 1) := by decide +kernel
theorem dX8_fullIn_26 : decode cX8_fullIn 26 = .ok (.ireturn, 1) := by decide +kernel
theorem dX8_fullIn_27 : decode cX8_fullIn 27 = .ok (.iload_n 1, 1) := by decide +kernel
theorem dX8_fullIn_28 : decode cX8_fullIn 28 = .ok (.aload_n 0, 1) := by decide +kernel
theorem dX8_fullIn_29 : decode cX8_fullIn 29 = .ok (.getfield 7, 3) := by decide +kernel
theorem dX8_fullIn_32 : decode cX8_fullIn 32 = .ok (.iconst 4, 1) := by decide +kernel
theorem dX8_fullIn_33 : decode cX8_fullIn 33 = .ok (.iaload, 1) := by decide +kernel
theorem dX8_fullIn_34 : decode cX8_fullIn 34 = .ok (.if_icmp .le 6, 3) := by decide +kernel
theorem dX8_fullIn_37 : decode cX8_fullIn 37 = .ok (.ldc 71, 2) := by decide +kernel
theorem dX8_fullIn_39 : decode cX8_fullIn 39 = .ok (.ireturn, 1) := by decide +kernel
theorem dX8_fullIn_40 : decode cX8_fullIn 40 = .ok (.aload_n 0, 1) := by decide +kernel
theorem dX8_fullIn_41 : decode cX8_fullIn 41 = .ok (.getfield 7, 3) := by decide +kernel
theorem dX8_fullIn_44 : decode cX8_fullIn 44 = .ok (.iconst 3, 1) := by decide +kernel
theorem dX8_fullIn_45 : decode cX8_fullIn 45 = .ok (.iaload, 1) := by decide +kernel
theorem dX8_fullIn_46 : decode cX8_fullIn 46 = .ok (.aload_n 0, 1) := by decide +kernel
theorem dX8_fullIn_47 : decode cX8_fullIn 47 = .ok (.getfield 7, 3) := by decide +kernel
theorem dX8_fullIn_50 : decode cX8_fullIn 50 = .ok (.bipush 8, 2) := by decide +kernel
theorem dX8_fullIn_52 : decode cX8_fullIn 52 = .ok (.iaload, 1) := by decide +kernel
theorem dX8_fullIn_53 : decode cX8_fullIn 53 = .ok (.isub, 1) := by decide +kernel
theorem dX8_fullIn_54 : decode cX8_fullIn 54 = .ok (.istore_n 2, 1) := by decide +kernel
theorem dX8_fullIn_55 : decode cX8_fullIn 55 = .ok (.iload_n 2, 1) := by decide +kernel
theorem dX8_fullIn_56 : decode cX8_fullIn 56 = .ok (.iconst 1, 1) := by decide +kernel
theorem dX8_fullIn_57 : decode cX8_fullIn 57 = .ok (.if_icmp .ge 7, 3) := by decide +kernel
theorem dX8_fullIn_60 : decode cX8_fullIn 60 = .ok (.iconst 1, 1) := by decide +kernel
theorem dX8_fullIn_61 : decode cX8_fullIn 61 = .ok (.goto 4, 3) := by decide +kernel
theorem dX8_fullIn_64 : decode cX8_fullIn 64 = .ok (.iload_n 2, 1) := by decide +kernel
theorem dX8_fullIn_65 : decode cX8_fullIn 65 = .ok (.iload_n 1, 1) := by decide +kernel
theorem dX8_fullIn_66 : decode cX8_fullIn 66 = .ok (.aload_n 0, 1) := by decide +kernel
theorem dX8_fullIn_67 : decode cX8_fullIn 67 = .ok (.getfield 7, 3) := by decide +kernel
theorem dX8_fullIn_70 : decode cX8_fullIn 70 = .ok (.iconst 5, 1) := by decide +kernel
theorem dX8_fullIn_71 : decode cX8_fullIn 71 = .ok (.iaload, 1) := by decide +kernel
theorem dX8_fullIn_72 : decode cX8_fullIn 72 = .ok (.isub, 1) := by decide +kernel
theorem dX8_fullIn_73 : decode cX8_fullIn 73 = .ok (.iconst 1, 1) := by decide +kernel
theorem dX8_fullIn_74 : decode cX8_fullIn 74 = .ok (.isub, 1) := by decide +kernel
theorem dX8_fullIn_75 : decode cX8_fullIn 75 = .ok (.aload_n 0, 1) := by decide +kernel
theorem dX8_fullIn_76 : decode cX8_fullIn 76 = .ok (.getfield 7, 3) := by decide +kernel
theorem dX8_fullIn_79 : decode cX8_fullIn 79 = .ok (.iconst 3, 1) := by decide +kernel
theorem dX8_fullIn_80 : decode cX8_fullIn 80 = .ok (.iaload, 1) := by decide +kernel
theorem dX8_fullIn_81 : decode cX8_fullIn 81 = .ok (.imul, 1) := by decide +kernel
theorem dX8_fullIn_82 : decode cX8_fullIn 82 = .ok (.iadd, 1) := by decide +kernel
theorem dX8_fullIn_83 : decode cX8_fullIn 83 = .ok (.ireturn, 1) := by decide +kernel
theorem dX8_best_0 : decode cX8_best 0 = .ok (.aload_n 0, 1) := by decide +kernel
theorem dX8_best_1 : decode cX8_best 1 = .ok (.iload_n 1, 1) := by decide +kernel
theorem dX8_best_2 : decode cX8_best 2 = .ok (.invokevirtual 113, 3) := by decide +kernel
theorem dX8_best_5 : decode cX8_best 5 = .ok (.ifCond .eq 25, 3) := by decide +kernel
theorem dX8_best_8 : decode cX8_best 8 = .ok (.iload_n 2, 1) := by decide +kernel
theorem dX8_best_9 : decode cX8_best 9 = .ok (.i2l, 1) := by decide +kernel
theorem dX8_best_10 : decode cX8_best 10 = .ok (.lconst 1, 1) := by decide +kernel
theorem dX8_best_11 : decode cX8_best 11 = .ok (.ldc2_w 199, 3) := by decide +kernel
theorem dX8_best_14 : decode cX8_best 14 = .ok (.invokestatic 72, 3) := by decide +kernel
theorem dX8_best_17 : decode cX8_best 17 = .ok (.ifCond .eq 13, 3) := by decide +kernel
theorem dX8_best_20 : decode cX8_best 20 = .ok (.iload_n 3, 1) := by decide +kernel
theorem dX8_best_21 : decode cX8_best 21 = .ok (.i2l, 1) := by decide +kernel
theorem dX8_best_22 : decode cX8_best 22 = .ok (.lconst 0, 1) := by decide +kernel
theorem dX8_best_23 : decode cX8_best 23 = .ok (.lconst 1, 1) := by decide +kernel
theorem dX8_best_24 : decode cX8_best 24 = .ok (.invokestatic 72, 3) := by decide +kernel
theorem dX8_best_27 : decode cX8_best 27 = .ok (.ifCond .ne 6, 3) := by decide +kernel
theorem dX8_best_30 : decode cX8_best 30 = .ok (.ldc 85, 2) := by decide +kernel
theorem dX8_best_32 : decode cX8_best 32 = .ok (.ireturn, 1) := by decide +kernel
theorem dX8_best_33 : decode cX8_best 33 = .ok (.aload_n 0, 1) := by decide +kernel
theorem dX8_best_34 : decode cX8_best 34 = .ok (.invokevirtual 190, 3) := by decide +kernel
theorem dX8_best_37 : decode cX8_best 37 = .ok (.iconst (-1), 1) := by decide +kernel
theorem dX8_best_38 : decode cX8_best 38 = .ok (.istore 4, 2) := by decide +kernel
theorem dX8_best_40 : decode cX8_best 40 = .ok (.iconst 0, 1) := by decide +kernel
theorem dX8_best_41 : decode cX8_best 41 = .ok (.istore 5, 2) := by decide +kernel
theorem dX8_best_43 : decode cX8_best 43 = .ok (.iconst 0, 1) := by decide +kernel
theorem dX8_best_44 : decode cX8_best 44 = .ok (.istore 6, 2) := by decide +kernel
theorem dX8_best_46 : decode cX8_best 46 = .ok (.iload 6, 2) := by decide +kernel
theorem dX8_best_48 : decode cX8_best 48 = .ok (.bipush 60, 2) := by decide +kernel
theorem dX8_best_50 : decode cX8_best 50 = .ok (.if_icmp .ge 55, 3) := by decide +kernel
theorem dX8_best_53 : decode cX8_best 53 = .ok (.aload_n 0, 1) := by decide +kernel
theorem dX8_best_54 : decode cX8_best 54 = .ok (.iload_n 1, 1) := by decide +kernel
theorem dX8_best_55 : decode cX8_best 55 = .ok (.iconst 1, 1) := by decide +kernel
theorem dX8_best_56 : decode cX8_best 56 = .ok (.iload 6, 2) := by decide +kernel
theorem dX8_best_58 : decode cX8_best 58 = .ok (.invokevirtual 151, 3) := by decide +kernel
theorem dX8_best_61 : decode cX8_best 61 = .ok (.aload_n 0, 1) := by decide +kernel
theorem dX8_best_62 : decode cX8_best 62 = .ok (.iload_n 2, 1) := by decide +kernel
theorem dX8_best_63 : decode cX8_best 63 = .ok (.invokevirtual 193, 3) := by decide +kernel
theorem dX8_best_66 : decode cX8_best 66 = .ok (.aload_n 0, 1) := by decide +kernel
theorem dX8_best_67 : decode cX8_best 67 = .ok (.iload_n 1, 1) := by decide +kernel
theorem dX8_best_68 : decode cX8_best 68 = .ok (.bipush 9, 2) := by decide +kernel
theorem dX8_best_70 : decode cX8_best 70 = .ok (.invokevirtual 91, 3) := by decide +kernel
theorem dX8_best_73 : decode cX8_best 73 = .ok (.istore 7, 2) := by decide +kernel
theorem dX8_best_75 : decode cX8_best 75 = .ok (.iload 4, 2) := by decide +kernel
theorem dX8_best_77 : decode cX8_best 77 = .ok (.ifCond .lt 10, 3) := by decide +kernel
theorem dX8_best_80 : decode cX8_best 80 = .ok (.iload 7, 2) := by decide +kernel
theorem dX8_best_82 : decode cX8_best 82 = .ok (.iload 5, 2) := by decide +kernel
theorem dX8_best_84 : decode cX8_best 84 = .ok (.if_icmp .le 11, 3) := by decide +kernel
theorem dX8_best_87 : decode cX8_best 87 = .ok (.iload 6, 2) := by decide +kernel
theorem dX8_best_89 : decode cX8_best 89 = .ok (.istore 4, 2) := by decide +kernel
theorem dX8_best_91 : decode cX8_best 91 = .ok (.iload 7, 2) := by decide +kernel
theorem dX8_best_93 : decode cX8_best 93 = .ok (.istore 5, 2) := by decide +kernel
theorem dX8_best_95 : decode cX8_best 95 = .ok (.aload_n 0, 1) := by decide +kernel
theorem dX8_best_96 : decode cX8_best 96 = .ok (.invokevirtual 196, 3) := by decide +kernel
theorem dX8_best_99 : decode cX8_best 99 = .ok (.iinc 6 1, 3) := by decide +kernel
theorem dX8_best_102 : decode cX8_best 102 = .ok (.goto (-56), 3) := by decide +kernel
theorem dX8_best_105 : decode cX8_best 105 = .ok (.iload_n 3, 1) := by decide +kernel
theorem dX8_best_106 : decode cX8_best 106 = .ok (.ifCond .ne 8, 3) := by decide +kernel
theorem dX8_best_109 : decode cX8_best 109 = .ok (.iload 4, 2) := by decide +kernel
theorem dX8_best_111 : decode cX8_best 111 = .ok (.goto 5, 3) := by decide +kernel
theorem dX8_best_114 : decode cX8_best 114 = .ok (.iload 5, 2) := by decide +kernel
theorem dX8_best_116 : decode cX8_best 116 = .ok (.ireturn, 1) := by decide +kernel
theorem dX8_alone_0 : decode cX8_alone 0 = .ok (.aload_n 0, 1) := by decide +kernel
theorem dX8_alone_1 : decode cX8_alone 1 = .ok (.iload_n 1, 1) := by decide +kernel
theorem dX8_alone_2 : decode cX8_alone 2 = .ok (.invokevirtual 113, 3) := by decide +kernel
theorem dX8_alone_5 : decode cX8_alone 5 = .ok (.ifCond .eq 15, 3) := by decide +kernel
theorem dX8_alone_8 : decode cX8_alone 8 = .ok (.iload_n 2, 1) := by decide +kernel
theorem dX8_alone_9 : decode cX8_alone 9 = .ok (.i2l, 1) := by decide +kernel
theorem dX8_alone_10 : decode cX8_alone 10 = .ok (.lconst 1, 1) := by decide +kernel
theorem dX8_alone_11 : decode cX8_alone 11 = .ok (.ldc2_w 179, 3) := by decide +kernel
theorem dX8_alone_14 : decode cX8_alone 14 = .ok (.invokestatic 72, 3) := by decide +kernel
theorem dX8_alone_17 : decode cX8_alone 17 = .ok (.ifCond .ne 6, 3) := by decide +kernel
theorem dX8_alone_20 : decode cX8_alone 20 = .ok (.ldc 85, 2) := by decide +kernel
theorem dX8_alone_22 : decode cX8_alone 22 = .ok (.ireturn, 1) := by decide +kernel
theorem dX8_alone_23 : decode cX8_alone 23 = .ok (.aload_n 0, 1) := by decide +kernel
theorem dX8_alone_24 : decode cX8_alone 24 = .ok (.invokevirtual 190, 3) := by decide +kernel
theorem dX8_alone_27 : decode cX8_alone 27 = .ok (.aload_n 0, 1) := by decide +kernel
theorem dX8_alone_28 : decode cX8_alone 28 = .ok (.iload_n 2, 1) := by decide +kernel
theorem dX8_alone_29 : decode cX8_alone 29 = .ok (.invokevirtual 193, 3) := by decide +kernel
theorem dX8_alone_32 : decode cX8_alone 32 = .ok (.aload_n 0, 1) := by decide +kernel
theorem dX8_alone_33 : decode cX8_alone 33 = .ok (.iload_n 1, 1) := by decide +kernel
theorem dX8_alone_34 : decode cX8_alone 34 = .ok (.bipush 9, 2) := by decide +kernel
theorem dX8_alone_36 : decode cX8_alone 36 = .ok (.invokevirtual 91, 3) := by decide +kernel
theorem dX8_alone_39 : decode cX8_alone 39 = .ok (.istore_n 3, 1) := by decide +kernel
theorem dX8_alone_40 : decode cX8_alone 40 = .ok (.aload_n 0, 1) := by decide +kernel
theorem dX8_alone_41 : decode cX8_alone 41 = .ok (.invokevirtual 196, 3) := by decide +kernel
theorem dX8_alone_44 : decode cX8_alone 44 = .ok (.iconst 0, 1) := by decide +kernel
theorem dX8_alone_45 : decode cX8_alone 45 = .ok (.istore 4, 2) := by decide +kernel
theorem dX8_alone_47 : decode cX8_alone 47 = .ok (.iload 4, 2) := by decide +kernel
theorem dX8_alone_49 : decode cX8_alone 49 = .ok (.aload_n 0, 1) := by decide +kernel
theorem dX8_alone_50 : decode cX8_alone 50 = .ok (.getfield 7, 3) := by decide +kernel
theorem dX8_alone_53 : decode cX8_alone 53 = .ok (.iconst 0, 1) := by decide +kernel
theorem dX8_alone_54 : decode cX8_alone 54 = .ok (.iaload, 1) := by decide +kernel
theorem dX8_alone_55 : decode cX8_alone 55 = .ok (.if_icmp .ge 31, 3) := by decide +kernel
theorem dX8_alone_58 : decode cX8_alone 58 = .ok (.iload 4, 2) := by decide +kernel
theorem dX8_alone_60 : decode cX8_alone 60 = .ok (.iload_n 1, 1) := by decide +kernel
theorem dX8_alone_61 : decode cX8_alone 61 = .ok (.if_icmp .eq 19, 3) := by decide +kernel
theorem dX8_alone_64 : decode cX8_alone 64 = .ok (.aload_n 0, 1) := by decide +kernel
theorem dX8_alone_65 : decode cX8_alone 65 = .ok (.iload 4, 2) := by decide +kernel
theorem dX8_alone_67 : decode cX8_alone 67 = .ok (.iconst 5, 1) := by decide +kernel
theorem dX8_alone_68 : decode cX8_alone 68 = .ok (.iconst 0, 1) := by decide +kernel
theorem dX8_alone_69 : decode cX8_alone 69 = .ok (.invokevirtual 151, 3) := by decide +kernel
theorem dX8_alone_72 : decode cX8_alone 72 = .ok (.aload_n 0, 1) := by decide +kernel
theorem dX8_alone_73 : decode cX8_alone 73 = .ok (.iload 4, 2) := by decide +kernel
theorem dX8_alone_75 : decode cX8_alone 75 = .ok (.iconst 4, 1) := by decide +kernel
theorem dX8_alone_76 : decode cX8_alone 76 = .ok (.iconst 0, 1) := by decide +kernel
theorem dX8_alone_77 : decode cX8_alone 77 = .ok (.invokevirtual 151, 3) := by decide +kernel
theorem dX8_alone_80 : decode cX8_alone 80 = .ok (.iinc 4 1, 3) := by decide +kernel
theorem dX8_alone_83 : decode cX8_alone 83 = .ok (.goto (-36), 3) := by decide +kernel
theorem dX8_alone_86 : decode cX8_alone 86 = .ok (.aload_n 0, 1) := by decide +kernel
theorem dX8_alone_87 : decode cX8_alone 87 = .ok (.iload_n 1, 1) := by decide +kernel
theorem dX8_alone_88 : decode cX8_alone 88 = .ok (.putfield 46, 3) := by decide +kernel
theorem dX8_alone_91 : decode cX8_alone 91 = .ok (.aload_n 0, 1) := by decide +kernel
theorem dX8_alone_92 : decode cX8_alone 92 = .ok (.iload_n 2, 1) := by decide +kernel
theorem dX8_alone_93 : decode cX8_alone 93 = .ok (.invokevirtual 193, 3) := by decide +kernel
theorem dX8_alone_96 : decode cX8_alone 96 = .ok (.aload_n 0, 1) := by decide +kernel
theorem dX8_alone_97 : decode cX8_alone 97 = .ok (.iconst (-1), 1) := by decide +kernel
theorem dX8_alone_98 : decode cX8_alone 98 = .ok (.putfield 46, 3) := by decide +kernel
theorem dX8_alone_101 : decode cX8_alone 101 = .ok (.aload_n 0, 1) := by decide +kernel
theorem dX8_alone_102 : decode cX8_alone 102 = .ok (.iload_n 1, 1) := by decide +kernel
theorem dX8_alone_103 : decode cX8_alone 103 = .ok (.bipush 9, 2) := by decide +kernel
theorem dX8_alone_105 : decode cX8_alone 105 = .ok (.invokevirtual 91, 3) := by decide +kernel
theorem dX8_alone_108 : decode cX8_alone 108 = .ok (.istore 4, 2) := by decide +kernel
theorem dX8_alone_110 : decode cX8_alone 110 = .ok (.aload_n 0, 1) := by decide +kernel
theorem dX8_alone_111 : decode cX8_alone 111 = .ok (.invokevirtual 196, 3) := by decide +kernel
theorem dX8_alone_114 : decode cX8_alone 114 = .ok (.iload 4, 2) := by decide +kernel
theorem dX8_alone_116 : decode cX8_alone 116 = .ok (.iload_n 3, 1) := by decide +kernel
theorem dX8_alone_117 : decode cX8_alone 117 = .ok (.isub, 1) := by decide +kernel
theorem dX8_alone_118 : decode cX8_alone 118 = .ok (.ireturn, 1) := by decide +kernel
theorem dX8_mean_0 : decode cX8_mean 0 = .ok (.iload_n 1, 1) := by decide +kernel
theorem dX8_mean_1 : decode cX8_mean 1 = .ok (.i2l, 1) := by decide +kernel
theorem dX8_mean_2 : decode cX8_mean 2 = .ok (.lconst 0, 1) := by decide +kernel
theorem dX8_mean_3 : decode cX8_mean 3 = .ok (.lconst 1, 1) := by decide +kernel
theorem dX8_mean_4 : decode cX8_mean 4 = .ok (.invokestatic 72, 3) := by decide +kernel
theorem dX8_mean_7 : decode cX8_mean 7 = .ok (.ifCond .ne 7, 3) := by decide +kernel
theorem dX8_mean_10 : decode cX8_mean 10 = .ok (.ldc2_w 201, 3) := by decide +kernel
theorem dX8_mean_13 : decode cX8_mean 13 = .ok (.lreturn, 1) := by decide +kernel
theorem dX8_mean_14 : decode cX8_mean 14 = .ok (.aload_n 0, 1) := by decide +kernel
theorem dX8_mean_15 : decode cX8_mean 15 = .ok (.bipush 11, 2) := by decide +kernel
theorem dX8_mean_17 : decode cX8_mean 17 = .ok (.invokevirtual 185, 3) := by decide +kernel
theorem dX8_mean_20 : decode cX8_mean 20 = .ok (.istore_n 2, 1) := by decide +kernel
theorem dX8_mean_21 : decode cX8_mean 21 = .ok (.iload_n 2, 1) := by decide +kernel
theorem dX8_mean_22 : decode cX8_mean 22 = .ok (.ifCond .ne 6, 3) := by decide +kernel
theorem dX8_mean_25 : decode cX8_mean 25 = .ok (.iload_n 1, 1) := by decide +kernel
theorem dX8_mean_26 : decode cX8_mean 26 = .ok (.i2l, 1) := by decide +kernel
theorem dX8_mean_27 : decode cX8_mean 27 = .ok (.lreturn, 1) := by decide +kernel
theorem dX8_mean_28 : decode cX8_mean 28 = .ok (.aload_n 0, 1) := by decide +kernel
theorem dX8_mean_29 : decode cX8_mean 29 = .ok (.getfield 7, 3) := by decide +kernel
theorem dX8_mean_32 : decode cX8_mean 32 = .ok (.bipush 9, 2) := by decide +kernel
theorem dX8_mean_34 : decode cX8_mean 34 = .ok (.iaload, 1) := by decide +kernel
theorem dX8_mean_35 : decode cX8_mean 35 = .ok (.istore_n 3, 1) := by decide +kernel
theorem dX8_mean_36 : decode cX8_mean 36 = .ok (.iload_n 2, 1) := by decide +kernel
theorem dX8_mean_37 : decode cX8_mean 37 = .ok (.istore 4, 2) := by decide +kernel
theorem dX8_mean_39 : decode cX8_mean 39 = .ok (.iload 4, 2) := by decide +kernel
theorem dX8_mean_41 : decode cX8_mean 41 = .ok (.ifCond .le 19, 3) := by decide +kernel
theorem dX8_mean_44 : decode cX8_mean 44 = .ok (.iload_n 3, 1) := by decide +kernel
theorem dX8_mean_45 : decode cX8_mean 45 = .ok (.iload 4, 2) := by decide +kernel
theorem dX8_mean_47 : decode cX8_mean 47 = .ok (.irem, 1) := by decide +kernel
theorem dX8_mean_48 : decode cX8_mean 48 = .ok (.istore 5, 2) := by decide +kernel
theorem dX8_mean_50 : decode cX8_mean 50 = .ok (.iload 4, 2) := by decide +kernel
theorem dX8_mean_52 : decode cX8_mean 52 = .ok (.istore_n 3, 1) := by decide +kernel
theorem dX8_mean_53 : decode cX8_mean 53 = .ok (.iload 5, 2) := by decide +kernel
theorem dX8_mean_55 : decode cX8_mean 55 = .ok (.istore 4, 2) := by decide +kernel
theorem dX8_mean_57 : decode cX8_mean 57 = .ok (.goto (-18), 3) := by decide +kernel
theorem dX8_mean_60 : decode cX8_mean 60 = .ok (.iload_n 1, 1) := by decide +kernel
theorem dX8_mean_61 : decode cX8_mean 61 = .ok (.ifCond .ne 13, 3) := by decide +kernel
theorem dX8_mean_64 : decode cX8_mean 64 = .ok (.aload_n 0, 1) := by decide +kernel
theorem dX8_mean_65 : decode cX8_mean 65 = .ok (.getfield 7, 3) := by decide +kernel
theorem dX8_mean_68 : decode cX8_mean 68 = .ok (.bipush 9, 2) := by decide +kernel
theorem dX8_mean_70 : decode cX8_mean 70 = .ok (.iaload, 1) := by decide +kernel
theorem dX8_mean_71 : decode cX8_mean 71 = .ok (.goto 4, 3) := by decide +kernel
theorem dX8_mean_74 : decode cX8_mean 74 = .ok (.iload_n 2, 1) := by decide +kernel
theorem dX8_mean_75 : decode cX8_mean 75 = .ok (.iload_n 3, 1) := by decide +kernel
theorem dX8_mean_76 : decode cX8_mean 76 = .ok (.idiv, 1) := by decide +kernel
theorem dX8_mean_77 : decode cX8_mean 77 = .ok (.i2l, 1) := by decide +kernel
theorem dX8_mean_78 : decode cX8_mean 78 = .ok (.lreturn, 1) := by decide +kernel
theorem dX8_least_0 : decode cX8_least 0 = .ok (.iconst (-1), 1) := by decide +kernel
theorem dX8_least_1 : decode cX8_least 1 = .ok (.istore_n 1, 1) := by decide +kernel
theorem dX8_least_2 : decode cX8_least 2 = .ok (.iconst 0, 1) := by decide +kernel
theorem dX8_least_3 : decode cX8_least 3 = .ok (.istore_n 2, 1) := by decide +kernel
theorem dX8_least_4 : decode cX8_least 4 = .ok (.iload_n 2, 1) := by decide +kernel
theorem dX8_least_5 : decode cX8_least 5 = .ok (.aload_n 0, 1) := by decide +kernel
theorem dX8_least_6 : decode cX8_least 6 = .ok (.getfield 7, 3) := by decide +kernel
theorem dX8_least_9 : decode cX8_least 9 = .ok (.iconst 0, 1) := by decide +kernel
theorem dX8_least_10 : decode cX8_least 10 = .ok (.iaload, 1) := by decide +kernel
theorem dX8_least_11 : decode cX8_least 11 = .ok (.if_icmp .ge 80, 3) := by decide +kernel
theorem dX8_least_14 : decode cX8_least 14 = .ok (.iload_n 1, 1) := by decide +kernel
theorem dX8_least_15 : decode cX8_least 15 = .ok (.ifCond .lt 54, 3) := by decide +kernel
theorem dX8_least_18 : decode cX8_least 18 = .ok (.aload_n 0, 1) := by decide +kernel
theorem dX8_least_19 : decode cX8_least 19 = .ok (.iload_n 2, 1) := by decide +kernel
theorem dX8_least_20 : decode cX8_least 20 = .ok (.bipush 10, 2) := by decide +kernel
theorem dX8_least_22 : decode cX8_least 22 = .ok (.invokevirtual 91, 3) := by decide +kernel
theorem dX8_least_25 : decode cX8_least 25 = .ok (.aload_n 0, 1) := by decide +kernel
theorem dX8_least_26 : decode cX8_least 26 = .ok (.iload_n 1, 1) := by decide +kernel
theorem dX8_least_27 : decode cX8_least 27 = .ok (.bipush 10, 2) := by decide +kernel
theorem dX8_least_29 : decode cX8_least 29 = .ok (.invokevirtual 91, 3) := by decide +kernel
theorem dX8_least_32 : decode cX8_least 32 = .ok (.if_icmp .gt 37, 3) := by decide +kernel
theorem dX8_least_35 : decode cX8_least 35 = .ok (.aload_n 0, 1) := by decide +kernel
theorem dX8_least_36 : decode cX8_least 36 = .ok (.iload_n 2, 1) := by decide +kernel
theorem dX8_least_37 : decode cX8_least 37 = .ok (.bipush 10, 2) := by decide +kernel
theorem dX8_least_39 : decode cX8_least 39 = .ok (.invokevirtual 91, 3) := by decide +kernel
theorem dX8_least_42 : decode cX8_least 42 = .ok (.aload_n 0, 1) := by decide +kernel
theorem dX8_least_43 : decode cX8_least 43 = .ok (.iload_n 1, 1) := by decide +kernel
theorem dX8_least_44 : decode cX8_least 44 = .ok (.bipush 10, 2) := by decide +kernel
theorem dX8_least_46 : decode cX8_least 46 = .ok (.invokevirtual 91, 3) := by decide +kernel
theorem dX8_least_49 : decode cX8_least 49 = .ok (.if_icmp .ne 24, 3) := by decide +kernel
theorem dX8_least_52 : decode cX8_least 52 = .ok (.aload_n 0, 1) := by decide +kernel
theorem dX8_least_53 : decode cX8_least 53 = .ok (.iload_n 2, 1) := by decide +kernel
theorem dX8_least_54 : decode cX8_least 54 = .ok (.bipush 9, 2) := by decide +kernel
theorem dX8_least_56 : decode cX8_least 56 = .ok (.invokevirtual 91, 3) := by decide +kernel
theorem dX8_least_59 : decode cX8_least 59 = .ok (.aload_n 0, 1) := by decide +kernel
theorem dX8_least_60 : decode cX8_least 60 = .ok (.iload_n 1, 1) := by decide +kernel
theorem dX8_least_61 : decode cX8_least 61 = .ok (.bipush 9, 2) := by decide +kernel
theorem dX8_least_63 : decode cX8_least 63 = .ok (.invokevirtual 91, 3) := by decide +kernel
theorem dX8_least_66 : decode cX8_least 66 = .ok (.if_icmp .ge 7, 3) := by decide +kernel
theorem dX8_least_69 : decode cX8_least 69 = .ok (.iconst 1, 1) := by decide +kernel
theorem dX8_least_70 : decode cX8_least 70 = .ok (.goto 4, 3) := by decide +kernel
theorem dX8_least_73 : decode cX8_least 73 = .ok (.iconst 0, 1) := by decide +kernel
theorem dX8_least_74 : decode cX8_least 74 = .ok (.istore_n 3, 1) := by decide +kernel
theorem dX8_least_75 : decode cX8_least 75 = .ok (.iload_n 3, 1) := by decide +kernel
theorem dX8_least_76 : decode cX8_least 76 = .ok (.ifCond .eq 7, 3) := by decide +kernel
theorem dX8_least_79 : decode cX8_least 79 = .ok (.iload_n 2, 1) := by decide +kernel
theorem dX8_least_80 : decode cX8_least 80 = .ok (.goto 4, 3) := by decide +kernel
theorem dX8_least_83 : decode cX8_least 83 = .ok (.iload_n 1, 1) := by decide +kernel
theorem dX8_least_84 : decode cX8_least 84 = .ok (.istore_n 1, 1) := by decide +kernel
theorem dX8_least_85 : decode cX8_least 85 = .ok (.iinc 2 1, 3) := by decide +kernel
theorem dX8_least_88 : decode cX8_least 88 = .ok (.goto (-84), 3) := by decide +kernel
theorem dX8_least_91 : decode cX8_least 91 = .ok (.iload_n 1, 1) := by decide +kernel
theorem dX8_least_92 : decode cX8_least 92 = .ok (.invokestatic 203, 3) := by decide +kernel
theorem dX8_least_95 : decode cX8_least 95 = .ok (.ireturn, 1) := by decide +kernel
theorem dX8_fine_0 : decode cX8_fine 0 = .ok (.aload_n 0, 1) := by decide +kernel
theorem dX8_fine_1 : decode cX8_fine 1 = .ok (.iload_n 1, 1) := by decide +kernel
theorem dX8_fine_2 : decode cX8_fine 2 = .ok (.invokevirtual 113, 3) := by decide +kernel
theorem dX8_fine_5 : decode cX8_fine 5 = .ok (.ifCond .ne 6, 3) := by decide +kernel
theorem dX8_fine_8 : decode cX8_fine 8 = .ok (.ldc 85, 2) := by decide +kernel
theorem dX8_fine_10 : decode cX8_fine 10 = .ok (.ireturn, 1) := by decide +kernel
theorem dX8_fine_11 : decode cX8_fine 11 = .ok (.aload_n 0, 1) := by decide +kernel
theorem dX8_fine_12 : decode cX8_fine 12 = .ok (.iconst 2, 1) := by decide +kernel
theorem dX8_fine_13 : decode cX8_fine 13 = .ok (.invokevirtual 95, 3) := by decide +kernel
theorem dX8_fine_16 : decode cX8_fine 16 = .ok (.istore_n 2, 1) := by decide +kernel
theorem dX8_fine_17 : decode cX8_fine 17 = .ok (.iload_n 2, 1) := by decide +kernel
theorem dX8_fine_18 : decode cX8_fine 18 = .ok (.ifCond .ge 11, 3) := by decide +kernel
theorem dX8_fine_21 : decode cX8_fine 21 = .ok (.aload_n 0, 1) := by decide +kernel
theorem dX8_fine_22 : decode cX8_fine 22 = .ok (.iload_n 1, 1) := by decide +kernel
theorem dX8_fine_23 : decode cX8_fine 23 = .ok (.bipush 10, 2) := by decide +kernel
theorem dX8_fine_25 : decode cX8_fine 25 = .ok (.invokevirtual 91, 3) := by decide +kernel
theorem dX8_fine_28 : decode cX8_fine 28 = .ok (.ireturn, 1) := by decide +kernel
theorem dX8_fine_29 : decode cX8_fine 29 = .ok (.aload_n 0, 1) := by decide +kernel
theorem dX8_fine_30 : decode cX8_fine 30 = .ok (.getfield 56, 3) := by decide +kernel
theorem dX8_fine_33 : decode cX8_fine 33 = .ok (.bipush 103, 2) := by decide +kernel
theorem dX8_fine_35 : decode cX8_fine 35 = .ok (.aload_n 0, 1) := by decide +kernel
theorem dX8_fine_36 : decode cX8_fine 36 = .ok (.iload_n 1, 1) := by decide +kernel
theorem dX8_fine_37 : decode cX8_fine 37 = .ok (.bipush 9, 2) := by decide +kernel
theorem dX8_fine_39 : decode cX8_fine 39 = .ok (.invokevirtual 91, 3) := by decide +kernel
theorem dX8_fine_42 : decode cX8_fine 42 = .ok (.iastore, 1) := by decide +kernel
theorem dX8_fine_43 : decode cX8_fine 43 = .ok (.aload_n 0, 1) := by decide +kernel
theorem dX8_fine_44 : decode cX8_fine 44 = .ok (.getfield 56, 3) := by decide +kernel
theorem dX8_fine_47 : decode cX8_fine 47 = .ok (.bipush 101, 2) := by decide +kernel
theorem dX8_fine_49 : decode cX8_fine 49 = .ok (.aload_n 0, 1) := by decide +kernel
theorem dX8_fine_50 : decode cX8_fine 50 = .ok (.iload_n 1, 1) := by decide +kernel
theorem dX8_fine_51 : decode cX8_fine 51 = .ok (.bipush 10, 2) := by decide +kernel
theorem dX8_fine_53 : decode cX8_fine 53 = .ok (.invokevirtual 91, 3) := by decide +kernel
theorem dX8_fine_56 : decode cX8_fine 56 = .ok (.iastore, 1) := by decide +kernel
theorem dX8_fine_57 : decode cX8_fine 57 = .ok (.aload_n 0, 1) := by decide +kernel
theorem dX8_fine_58 : decode cX8_fine 58 = .ok (.iload_n 2, 1) := by decide +kernel
theorem dX8_fine_59 : decode cX8_fine 59 = .ok (.invokevirtual 99, 3) := by decide +kernel
theorem dX8_fine_62 : decode cX8_fine 62 = .ok (.ireturn, 1) := by decide +kernel
theorem dX8_feed_0 : decode cX8_feed 0 = .ok (.aload_n 0, 1) := by decide +kernel
theorem dX8_feed_1 : decode cX8_feed 1 = .ok (.getfield 206, 3) := by decide +kernel
theorem dX8_feed_4 : decode cX8_feed 4 = .ok (.bipush 12, 2) := by decide +kernel
theorem dX8_feed_6 : decode cX8_feed 6 = .ok (.iadd, 1) := by decide +kernel
theorem dX8_feed_7 : decode cX8_feed 7 = .ok (.bipush 96, 2) := by decide +kernel
theorem dX8_feed_9 : decode cX8_feed 9 = .ok (.if_icmp .le 6, 3) := by decide +kernel
theorem dX8_feed_12 : decode cX8_feed 12 = .ok (.ldc 86, 2) := by decide +kernel
theorem dX8_feed_14 : decode cX8_feed 14 = .ok (.ireturn, 1) := by decide +kernel
theorem dX8_feed_15 : decode cX8_feed 15 = .ok (.iconst 0, 1) := by decide +kernel
theorem dX8_feed_16 : decode cX8_feed 16 = .ok (.istore 4, 2) := by decide +kernel
theorem dX8_feed_18 : decode cX8_feed 18 = .ok (.iload 4, 2) := by decide +kernel
theorem dX8_feed_20 : decode cX8_feed 20 = .ok (.bipush 12, 2) := by decide +kernel
theorem dX8_feed_22 : decode cX8_feed 22 = .ok (.if_icmp .ge 69, 3) := by decide +kernel
theorem dX8_feed_25 : decode cX8_feed 25 = .ok (.iload 4, 2) := by decide +kernel
theorem dX8_feed_27 : decode cX8_feed 27 = .ok (.iconst 4, 1) := by decide +kernel
theorem dX8_feed_28 : decode cX8_feed 28 = .ok (.if_icmp .ge 7, 3) := by decide +kernel
theorem dX8_feed_31 : decode cX8_feed 31 = .ok (.iload_n 1, 1) := by decide +kernel
theorem dX8_feed_32 : decode cX8_feed 32 = .ok (.goto 15, 3) := by decide +kernel
theorem dX8_feed_35 : decode cX8_feed 35 = .ok (.iload 4, 2) := by decide +kernel
theorem dX8_feed_37 : decode cX8_feed 37 = .ok (.bipush 8, 2) := by decide +kernel
theorem dX8_feed_39 : decode cX8_feed 39 = .ok (.if_icmp .ge 7, 3) := by decide +kernel
theorem dX8_feed_42 : decode cX8_feed 42 = .ok (.iload_n 2, 1) := by decide +kernel
theorem dX8_feed_43 : decode cX8_feed 43 = .ok (.goto 4, 3) := by decide +kernel
theorem dX8_feed_46 : decode cX8_feed 46 = .ok (.iload_n 3, 1) := by decide +kernel
theorem dX8_feed_47 : decode cX8_feed 47 = .ok (.istore 5, 2) := by decide +kernel
theorem dX8_feed_49 : decode cX8_feed 49 = .ok (.aload_n 0, 1) := by decide +kernel
theorem dX8_feed_50 : decode cX8_feed 50 = .ok (.getfield 53, 3) := by decide +kernel
theorem dX8_feed_53 : decode cX8_feed 53 = .ok (.aload_n 0, 1) := by decide +kernel
theorem dX8_feed_54 : decode cX8_feed 54 = .ok (.getfield 206, 3) := by decide +kernel
theorem dX8_feed_57 : decode cX8_feed 57 = .ok (.iload 5, 2) := by decide +kernel
theorem dX8_feed_59 : decode cX8_feed 59 = .ok (.bipush 24, 2) := by decide +kernel
theorem dX8_feed_61 : decode cX8_feed 61 = .ok (.bipush 8, 2) := by decide +kernel
theorem dX8_feed_63 : decode cX8_feed 63 = .ok (.iload 4, 2) := by decide +kernel
theorem dX8_feed_65 : decode cX8_feed 65 = .ok (.iconst 4, 1) := by decide +kernel
theorem dX8_feed_66 : decode cX8_feed 66 = .ok (.irem, 1) := by decide +kernel
theorem dX8_feed_67 : decode cX8_feed 67 = .ok (.imul, 1) := by decide +kernel
theorem dX8_feed_68 : decode cX8_feed 68 = .ok (.isub, 1) := by decide +kernel
theorem dX8_feed_69 : decode cX8_feed 69 = .ok (.ishr, 1) := by decide +kernel
theorem dX8_feed_70 : decode cX8_feed 70 = .ok (.sipush 255, 3) := by decide +kernel
theorem dX8_feed_73 : decode cX8_feed 73 = .ok (.iand, 1) := by decide +kernel
theorem dX8_feed_74 : decode cX8_feed 74 = .ok (.iastore, 1) := by decide +kernel
theorem dX8_feed_75 : decode cX8_feed 75 = .ok (.aload_n 0, 1) := by decide +kernel
theorem dX8_feed_76 : decode cX8_feed 76 = .ok (.dup, 1) := by decide +kernel
theorem dX8_feed_77 : decode cX8_feed 77 = .ok (.getfield 206, 3) := by decide +kernel
theorem dX8_feed_80 : decode cX8_feed 80 = .ok (.iconst 1, 1) := by decide +kernel
theorem dX8_feed_81 : decode cX8_feed 81 = .ok (.iadd, 1) := by decide +kernel
theorem dX8_feed_82 : decode cX8_feed 82 = .ok (.putfield 206, 3) := by decide +kernel
theorem dX8_feed_85 : decode cX8_feed 85 = .ok (.iinc 4 1, 3) := by decide +kernel
theorem dX8_feed_88 : decode cX8_feed 88 = .ok (.goto (-70), 3) := by decide +kernel
theorem dX8_feed_91 : decode cX8_feed 91 = .ok (.aload_n 0, 1) := by decide +kernel
theorem dX8_feed_92 : decode cX8_feed 92 = .ok (.getfield 206, 3) := by decide +kernel
theorem dX8_feed_95 : decode cX8_feed 95 = .ok (.ireturn, 1) := by decide +kernel
theorem dX8_trim_0 : decode cX8_trim 0 = .ok (.iload_n 1, 1) := by decide +kernel
theorem dX8_trim_1 : decode cX8_trim 1 = .ok (.i2l, 1) := by decide +kernel
theorem dX8_trim_2 : decode cX8_trim 2 = .ok (.lconst 0, 1) := by decide +kernel
theorem dX8_trim_3 : decode cX8_trim 3 = .ok (.aload_n 0, 1) := by decide +kernel
theorem dX8_trim_4 : decode cX8_trim 4 = .ok (.getfield 206, 3) := by decide +kernel
theorem dX8_trim_7 : decode cX8_trim 7 = .ok (.i2l, 1) := by decide +kernel
theorem dX8_trim_8 : decode cX8_trim 8 = .ok (.invokestatic 72, 3) := by decide +kernel
theorem dX8_trim_11 : decode cX8_trim 11 = .ok (.ifCond .ne 6, 3) := by decide +kernel
theorem dX8_trim_14 : decode cX8_trim 14 = .ok (.ldc 85, 2) := by decide +kernel
theorem dX8_trim_16 : decode cX8_trim 16 = .ok (.ireturn, 1) := by decide +kernel
theorem dX8_trim_17 : decode cX8_trim 17 = .ok (.aload_n 0, 1) := by decide +kernel
theorem dX8_trim_18 : decode cX8_trim 18 = .ok (.iload_n 1, 1) := by decide +kernel
theorem dX8_trim_19 : decode cX8_trim 19 = .ok (.putfield 206, 3) := by decide +kernel
theorem dX8_trim_22 : decode cX8_trim 22 = .ok (.iload_n 1, 1) := by decide +kernel
theorem dX8_trim_23 : decode cX8_trim 23 = .ok (.ireturn, 1) := by decide +kernel
theorem dX8_isLetter_0 : decode cX8_isLetter 0 = .ok (.iload_n 1, 1) := by decide +kernel
theorem dX8_isLetter_1 : decode cX8_isLetter 1 = .ok (.aload_n 0, 1) := by decide +kernel
theorem dX8_isLetter_2 : decode cX8_isLetter 2 = .ok (.getfield 206, 3) := by decide +kernel
theorem dX8_isLetter_5 : decode cX8_isLetter 5 = .ok (.if_icmp .ge 26, 3) := by decide +kernel
theorem dX8_isLetter_8 : decode cX8_isLetter 8 = .ok (.aload_n 0, 1) := by decide +kernel
theorem dX8_isLetter_9 : decode cX8_isLetter 9 = .ok (.getfield 53, 3) := by decide +kernel
theorem dX8_isLetter_12 : decode cX8_isLetter 12 = .ok (.iload_n 1, 1) := by decide +kernel
theorem dX8_isLetter_13 : decode cX8_isLetter 13 = .ok (.iaload, 1) := by decide +kernel
theorem dX8_isLetter_14 : decode cX8_isLetter 14 = .ok (.i2l, 1) := by decide +kernel
theorem dX8_isLetter_15 : decode cX8_isLetter 15 = .ok (.ldc2_w 209, 3) := by decide +kernel
theorem dX8_isLetter_18 : decode cX8_isLetter 18 = .ok (.ldc2_w 211, 3) := by decide +kernel
theorem dX8_isLetter_21 : decode cX8_isLetter 21 = .ok (.invokestatic 72, 3) := by decide +kernel
theorem dX8_isLetter_24 : decode cX8_isLetter 24 = .ok (.ifCond .eq 7, 3) := by decide +kernel
theorem dX8_isLetter_27 : decode cX8_isLetter 27 = .ok (.iconst 1, 1) := by decide +kernel
theorem dX8_isLetter_28 : decode cX8_isLetter 28 = .ok (.goto 4, 3) := by decide +kernel
theorem dX8_isLetter_31 : decode cX8_isLetter 31 = .ok (.iconst 0, 1) := by decide +kernel
theorem dX8_isLetter_32 : decode cX8_isLetter 32 = .ok (.ireturn, 1) := by decide +kernel
theorem dX8_isDigit_0 : decode cX8_isDigit 0 = .ok (.iload_n 1, 1) := by decide +kernel
theorem dX8_isDigit_1 : decode cX8_isDigit 1 = .ok (.aload_n 0, 1) := by decide +kernel
theorem dX8_isDigit_2 : decode cX8_isDigit 2 = .ok (.getfield 206, 3) := by decide +kernel
theorem dX8_isDigit_5 : decode cX8_isDigit 5 = .ok (.if_icmp .ge 26, 3) := by decide +kernel
theorem dX8_isDigit_8 : decode cX8_isDigit 8 = .ok (.aload_n 0, 1) := by decide +kernel
theorem dX8_isDigit_9 : decode cX8_isDigit 9 = .ok (.getfield 53, 3) := by decide +kernel
theorem dX8_isDigit_12 : decode cX8_isDigit 12 = .ok (.iload_n 1, 1) := by decide +kernel
theorem dX8_isDigit_13 : decode cX8_isDigit 13 = .ok (.iaload, 1) := by decide +kernel
theorem dX8_isDigit_14 : decode cX8_isDigit 14 = .ok (.i2l, 1) := by decide +kernel
theorem dX8_isDigit_15 : decode cX8_isDigit 15 = .ok (.ldc2_w 213, 3) := by decide +kernel
theorem dX8_isDigit_18 : decode cX8_isDigit 18 = .ok (.ldc2_w 215, 3) := by decide +kernel
theorem dX8_isDigit_21 : decode cX8_isDigit 21 = .ok (.invokestatic 72, 3) := by decide +kernel
theorem dX8_isDigit_24 : decode cX8_isDigit 24 = .ok (.ifCond .eq 7, 3) := by decide +kernel
theorem dX8_isDigit_27 : decode cX8_isDigit 27 = .ok (.iconst 1, 1) := by decide +kernel
theorem dX8_isDigit_28 : decode cX8_isDigit 28 = .ok (.goto 4, 3) := by decide +kernel
theorem dX8_isDigit_31 : decode cX8_isDigit 31 = .ok (.iconst 0, 1) := by decide +kernel
theorem dX8_isDigit_32 : decode cX8_isDigit 32 = .ok (.ireturn, 1) := by decide +kernel
theorem dX8_nextToken_0 : decode cX8_nextToken 0 = .ok (.aload_n 0, 1) := by decide +kernel
theorem dX8_nextToken_1 : decode cX8_nextToken 1 = .ok (.getfield 217, 3) := by decide +kernel
theorem dX8_nextToken_4 : decode cX8_nextToken 4 = .ok (.ifCond .le 23, 3) := by decide +kernel
theorem dX8_nextToken_7 : decode cX8_nextToken 7 = .ok (.aload_n 0, 1) := by decide +kernel
theorem dX8_nextToken_8 : decode cX8_nextToken 8 = .ok (.getfield 220, 3) := by decide +kernel
theorem dX8_nextToken_11 : decode cX8_nextToken 11 = .ok (.iconst 1, 1) := by decide +kernel
theorem dX8_nextToken_12 : decode cX8_nextToken 12 = .ok (.if_icmp .eq 11, 3) := by decide +kernel
theorem dX8_nextToken_15 : decode cX8_nextToken 15 = .ok (.aload_n 0, 1) := by decide +kernel
theorem dX8_nextToken_16 : decode cX8_nextToken 16 = .ok (.getfield 220, 3) := by decide +kernel
theorem dX8_nextToken_19 : decode cX8_nextToken 19 = .ok (.iconst 2, 1) := by decide +kernel
theorem dX8_nextToken_20 : decode cX8_nextToken 20 = .ok (.if_icmp .ne 7, 3) := by decide +kernel
theorem dX8_nextToken_23 : decode cX8_nextToken 23 = .ok (.iconst 1, 1) := by decide +kernel
theorem dX8_nextToken_24 : decode cX8_nextToken 24 = .ok (.goto 4, 3) := by decide +kernel
theorem dX8_nextToken_27 : decode cX8_nextToken 27 = .ok (.iconst 0, 1) := by decide +kernel
theorem dX8_nextToken_28 : decode cX8_nextToken 28 = .ok (.istore_n 1, 1) := by decide +kernel
theorem dX8_nextToken_29 : decode cX8_nextToken 29 = .ok (.aload_n 0, 1) := by decide +kernel
theorem dX8_nextToken_30 : decode cX8_nextToken 30 = .ok (.getfield 217, 3) := by decide +kernel
theorem dX8_nextToken_33 : decode cX8_nextToken 33 = .ok (.istore_n 2, 1) := by decide +kernel
theorem dX8_nextToken_34 : decode cX8_nextToken 34 = .ok (.aload_n 0, 1) := by decide +kernel
theorem dX8_nextToken_35 : decode cX8_nextToken 35 = .ok (.getfield 217, 3) := by decide +kernel
theorem dX8_nextToken_38 : decode cX8_nextToken 38 = .ok (.aload_n 0, 1) := by decide +kernel
theorem dX8_nextToken_39 : decode cX8_nextToken 39 = .ok (.getfield 206, 3) := by decide +kernel
theorem dX8_nextToken_42 : decode cX8_nextToken 42 = .ok (.if_icmp .ge 30, 3) := by decide +kernel
theorem dX8_nextToken_45 : decode cX8_nextToken 45 = .ok (.aload_n 0, 1) := by decide +kernel
theorem dX8_nextToken_46 : decode cX8_nextToken 46 = .ok (.getfield 53, 3) := by decide +kernel
theorem dX8_nextToken_49 : decode cX8_nextToken 49 = .ok (.aload_n 0, 1) := by decide +kernel
theorem dX8_nextToken_50 : decode cX8_nextToken 50 = .ok (.getfield 217, 3) := by decide +kernel
theorem dX8_nextToken_53 : decode cX8_nextToken 53 = .ok (.iaload, 1) := by decide +kernel
theorem dX8_nextToken_54 : decode cX8_nextToken 54 = .ok (.bipush 32, 2) := by decide +kernel
theorem dX8_nextToken_56 : decode cX8_nextToken 56 = .ok (.if_icmp .ne 16, 3) := by decide +kernel
theorem dX8_nextToken_59 : decode cX8_nextToken 59 = .ok (.aload_n 0, 1) := by decide +kernel
theorem dX8_nextToken_60 : decode cX8_nextToken 60 = .ok (.dup, 1) := by decide +kernel
theorem dX8_nextToken_61 : decode cX8_nextToken 61 = .ok (.getfield 217, 3) := by decide +kernel
theorem dX8_nextToken_64 : decode cX8_nextToken 64 = .ok (.iconst 1, 1) := by decide +kernel
theorem dX8_nextToken_65 : decode cX8_nextToken 65 = .ok (.iadd, 1) := by decide +kernel
theorem dX8_nextToken_66 : decode cX8_nextToken 66 = .ok (.putfield 217, 3) := by decide +kernel
theorem dX8_nextToken_69 : decode cX8_nextToken 69 = .ok (.goto (-35), 3) := by decide +kernel
theorem dX8_nextToken_72 : decode cX8_nextToken 72 = .ok (.iload_n 1, 1) := by decide +kernel
theorem dX8_nextToken_73 : decode cX8_nextToken 73 = .ok (.ifCond .eq 15, 3) := by decide +kernel
theorem dX8_nextToken_76 : decode cX8_nextToken 76 = .ok (.iload_n 2, 1) := by decide +kernel
theorem dX8_nextToken_77 : decode cX8_nextToken 77 = .ok (.aload_n 0, 1) := by decide +kernel
theorem dX8_nextToken_78 : decode cX8_nextToken 78 = .ok (.getfield 217, 3) := by decide +kernel
theorem dX8_nextToken_81 : decode cX8_nextToken 81 = .ok (.if_icmp .ne 7, 3) := by decide +kernel
theorem dX8_nextToken_84 : decode cX8_nextToken 84 = .ok (.iconst 1, 1) := by decide +kernel
theorem dX8_nextToken_85 : decode cX8_nextToken 85 = .ok (.goto 4, 3) := by decide +kernel
theorem dX8_nextToken_88 : decode cX8_nextToken 88 = .ok (.iconst 0, 1) := by decide +kernel
theorem dX8_nextToken_89 : decode cX8_nextToken 89 = .ok (.istore_n 1, 1) := by decide +kernel
theorem dX8_nextToken_90 : decode cX8_nextToken 90 = .ok (.aload_n 0, 1) := by decide +kernel
theorem dX8_nextToken_91 : decode cX8_nextToken 91 = .ok (.aload_n 0, 1) := by decide +kernel
theorem dX8_nextToken_92 : decode cX8_nextToken 92 = .ok (.getfield 217, 3) := by decide +kernel
theorem dX8_nextToken_95 : decode cX8_nextToken 95 = .ok (.putfield 223, 3) := by decide +kernel
theorem dX8_nextToken_98 : decode cX8_nextToken 98 = .ok (.aload_n 0, 1) := by decide +kernel
theorem dX8_nextToken_99 : decode cX8_nextToken 99 = .ok (.getfield 223, 3) := by decide +kernel
theorem dX8_nextToken_102 : decode cX8_nextToken 102 = .ok (.aload_n 0, 1) := by decide +kernel
theorem dX8_nextToken_103 : decode cX8_nextToken 103 = .ok (.getfield 206, 3) := by decide +kernel
theorem dX8_nextToken_106 : decode cX8_nextToken 106 = .ok (.if_icmp .ne 11, 3) := by decide +kernel
theorem dX8_nextToken_109 : decode cX8_nextToken 109 = .ok (.aload_n 0, 1) := by decide +kernel
theorem dX8_nextToken_110 : decode cX8_nextToken 110 = .ok (.iconst 0, 1) := by decide +kernel
theorem dX8_nextToken_111 : decode cX8_nextToken 111 = .ok (.putfield 220, 3) := by decide +kernel
theorem dX8_nextToken_114 : decode cX8_nextToken 114 = .ok (.goto 225, 3) := by decide +kernel
theorem dX8_nextToken_117 : decode cX8_nextToken 117 = .ok (.aload_n 0, 1) := by decide +kernel
theorem dX8_nextToken_118 : decode cX8_nextToken 118 = .ok (.aload_n 0, 1) := by decide +kernel
theorem dX8_nextToken_119 : decode cX8_nextToken 119 = .ok (.getfield 223, 3) := by decide +kernel
theorem dX8_nextToken_122 : decode cX8_nextToken 122 = .ok (.invokevirtual 226, 3) := by decide +kernel
theorem dX8_nextToken_125 : decode cX8_nextToken 125 = .ok (.ifCond .eq 73, 3) := by decide +kernel
theorem dX8_nextToken_128 : decode cX8_nextToken 128 = .ok (.aload_n 0, 1) := by decide +kernel
theorem dX8_nextToken_129 : decode cX8_nextToken 129 = .ok (.aload_n 0, 1) := by decide +kernel
theorem dX8_nextToken_130 : decode cX8_nextToken 130 = .ok (.getfield 217, 3) := by decide +kernel
theorem dX8_nextToken_133 : decode cX8_nextToken 133 = .ok (.invokevirtual 226, 3) := by decide +kernel
theorem dX8_nextToken_136 : decode cX8_nextToken 136 = .ok (.ifCond .eq 16, 3) := by decide +kernel
theorem dX8_nextToken_139 : decode cX8_nextToken 139 = .ok (.aload_n 0, 1) := by decide +kernel
theorem dX8_nextToken_140 : decode cX8_nextToken 140 = .ok (.dup, 1) := by decide +kernel
theorem dX8_nextToken_141 : decode cX8_nextToken 141 = .ok (.getfield 217, 3) := by decide +kernel
theorem dX8_nextToken_144 : decode cX8_nextToken 144 = .ok (.iconst 1, 1) := by decide +kernel
theorem dX8_nextToken_145 : decode cX8_nextToken 145 = .ok (.iadd, 1) := by decide +kernel
theorem dX8_nextToken_146 : decode cX8_nextToken 146 = .ok (.putfield 217, 3) := by decide +kernel
theorem dX8_nextToken_149 : decode cX8_nextToken 149 = .ok (.goto (-21), 3) := by decide +kernel
theorem dX8_nextToken_152 : decode cX8_nextToken 152 = .ok (.aload_n 0, 1) := by decide +kernel
theorem dX8_nextToken_153 : decode cX8_nextToken 153 = .ok (.iload_n 1, 1) := by decide +kernel
theorem dX8_nextToken_154 : decode cX8_nextToken 154 = .ok (.ifCond .eq 7, 3) := by decide +kernel
theorem dX8_nextToken_157 : decode cX8_nextToken 157 = .ok (.iconst 4, 1) := by decide +kernel
theorem dX8_nextToken_158 : decode cX8_nextToken 158 = .ok (.goto 4, 3) := by decide +kernel
theorem dX8_nextToken_161 : decode cX8_nextToken 161 = .ok (.iconst 1, 1) := by decide +kernel
theorem dX8_nextToken_162 : decode cX8_nextToken 162 = .ok (.putfield 220, 3) := by decide +kernel
theorem dX8_nextToken_165 : decode cX8_nextToken 165 = .ok (.aload_n 0, 1) := by decide +kernel
theorem dX8_nextToken_166 : decode cX8_nextToken 166 = .ok (.aload_n 0, 1) := by decide +kernel
theorem dX8_nextToken_167 : decode cX8_nextToken 167 = .ok (.getfield 217, 3) := by decide +kernel
theorem dX8_nextToken_170 : decode cX8_nextToken 170 = .ok (.aload_n 0, 1) := by decide +kernel
theorem dX8_nextToken_171 : decode cX8_nextToken 171 = .ok (.getfield 223, 3) := by decide +kernel
theorem dX8_nextToken_174 : decode cX8_nextToken 174 = .ok (.isub, 1) := by decide +kernel
theorem dX8_nextToken_175 : decode cX8_nextToken 175 = .ok (.iconst 1, 1) := by decide +kernel
theorem dX8_nextToken_176 : decode cX8_nextToken 176 = .ok (.if_icmp .ne 15, 3) := by decide +kernel
theorem dX8_nextToken_179 : decode cX8_nextToken 179 = .ok (.aload_n 0, 1) := by decide +kernel
theorem dX8_nextToken_180 : decode cX8_nextToken 180 = .ok (.getfield 53, 3) := by decide +kernel
theorem dX8_nextToken_183 : decode cX8_nextToken 183 = .ok (.aload_n 0, 1) := by decide +kernel
theorem dX8_nextToken_184 : decode cX8_nextToken 184 = .ok (.getfield 223, 3) := by decide +kernel
theorem dX8_nextToken_187 : decode cX8_nextToken 187 = .ok (.iaload, 1) := by decide +kernel
theorem dX8_nextToken_188 : decode cX8_nextToken 188 = .ok (.goto 4, 3) := by decide +kernel
theorem dX8_nextToken_191 : decode cX8_nextToken 191 = .ok (.iconst 0, 1) := by decide +kernel
theorem dX8_nextToken_192 : decode cX8_nextToken 192 = .ok (.putfield 229, 3) := by decide +kernel
theorem dX8_nextToken_195 : decode cX8_nextToken 195 = .ok (.goto 144, 3) := by decide +kernel
theorem dX8_nextToken_198 : decode cX8_nextToken 198 = .ok (.aload_n 0, 1) := by decide +kernel
theorem dX8_nextToken_199 : decode cX8_nextToken 199 = .ok (.aload_n 0, 1) := by decide +kernel
theorem dX8_nextToken_200 : decode cX8_nextToken 200 = .ok (.getfield 223, 3) := by decide +kernel
theorem dX8_nextToken_203 : decode cX8_nextToken 203 = .ok (.invokevirtual 232, 3) := by decide +kernel
theorem dX8_nextToken_206 : decode cX8_nextToken 206 = .ok (.ifCond .eq 105, 3) := by decide +kernel
theorem dX8_nextToken_209 : decode cX8_nextToken 209 = .ok (.aload_n 0, 1) := by decide +kernel
theorem dX8_nextToken_210 : decode cX8_nextToken 210 = .ok (.iconst 0, 1) := by decide +kernel
theorem dX8_nextToken_211 : decode cX8_nextToken 211 = .ok (.putfield 235, 3) := by decide +kernel
theorem dX8_nextToken_214 : decode cX8_nextToken 214 = .ok (.aload_n 0, 1) := by decide +kernel
theorem dX8_nextToken_215 : decode cX8_nextToken 215 = .ok (.aload_n 0, 1) := by decide +kernel
theorem dX8_nextToken_216 : decode cX8_nextToken 216 = .ok (.getfield 217, 3) := by decide +kernel
theorem dX8_nextToken_219 : decode cX8_nextToken 219 = .ok (.invokevirtual 232, 3) := by decide +kernel
theorem dX8_nextToken_222 : decode cX8_nextToken 222 = .ok (.ifCond .eq 60, 3) := by decide +kernel
theorem dX8_nextToken_225 : decode cX8_nextToken 225 = .ok (.aload_n 0, 1) := by decide +kernel
theorem dX8_nextToken_226 : decode cX8_nextToken 226 = .ok (.aload_n 0, 1) := by decide +kernel
theorem dX8_nextToken_227 : decode cX8_nextToken 227 = .ok (.getfield 217, 3) := by decide +kernel
theorem dX8_nextToken_230 : decode cX8_nextToken 230 = .ok (.aload_n 0, 1) := by decide +kernel
theorem dX8_nextToken_231 : decode cX8_nextToken 231 = .ok (.getfield 223, 3) := by decide +kernel
theorem dX8_nextToken_234 : decode cX8_nextToken 234 = .ok (.isub, 1) := by decide +kernel
theorem dX8_nextToken_235 : decode cX8_nextToken 235 = .ok (.iconst 4, 1) := by decide +kernel
theorem dX8_nextToken_236 : decode cX8_nextToken 236 = .ok (.if_icmp .ge 26, 3) := by decide +kernel
theorem dX8_nextToken_239 : decode cX8_nextToken 239 = .ok (.bipush 10, 2) := by decide +kernel
theorem dX8_nextToken_241 : decode cX8_nextToken 241 = .ok (.aload_n 0, 1) := by decide +kernel
theorem dX8_nextToken_242 : decode cX8_nextToken 242 = .ok (.getfield 235, 3) := by decide +kernel
theorem dX8_nextToken_245 : decode cX8_nextToken 245 = .ok (.imul, 1) := by decide +kernel
theorem dX8_nextToken_246 : decode cX8_nextToken 246 = .ok (.aload_n 0, 1) := by decide +kernel
theorem dX8_nextToken_247 : decode cX8_nextToken 247 = .ok (.getfield 53, 3) := by decide +kernel
theorem dX8_nextToken_250 : decode cX8_nextToken 250 = .ok (.aload_n 0, 1) := by decide +kernel
theorem dX8_nextToken_251 : decode cX8_nextToken 251 = .ok (.getfield 217, 3) := by decide +kernel
theorem dX8_nextToken_254 : decode cX8_nextToken 254 = .ok (.iaload, 1) := by decide +kernel
theorem dX8_nextToken_255 : decode cX8_nextToken 255 = .ok (.iadd, 1) := by decide +kernel
theorem dX8_nextToken_256 : decode cX8_nextToken 256 = .ok (.bipush 48, 2) := by decide +kernel
theorem dX8_nextToken_258 : decode cX8_nextToken 258 = .ok (.isub, 1) := by decide +kernel
theorem dX8_nextToken_259 : decode cX8_nextToken 259 = .ok (.goto 7, 3) := by decide +kernel
theorem dX8_nextToken_262 : decode cX8_nextToken 262 = .ok (.aload_n 0, 1) := by decide +kernel
theorem dX8_nextToken_263 : decode cX8_nextToken 263 = .ok (.getfield 235, 3) := by decide +kernel
theorem dX8_nextToken_266 : decode cX8_nextToken 266 = .ok (.putfield 235, 3) := by decide +kernel
theorem dX8_nextToken_269 : decode cX8_nextToken 269 = .ok (.aload_n 0, 1) := by decide +kernel
theorem dX8_nextToken_270 : decode cX8_nextToken 270 = .ok (.dup, 1) := by decide +kernel
theorem dX8_nextToken_271 : decode cX8_nextToken 271 = .ok (.getfield 217, 3) := by decide +kernel
theorem dX8_nextToken_274 : decode cX8_nextToken 274 = .ok (.iconst 1, 1) := by decide +kernel
theorem dX8_nextToken_275 : decode cX8_nextToken 275 = .ok (.iadd, 1) := by decide +kernel
theorem dX8_nextToken_276 : decode cX8_nextToken 276 = .ok (.putfield 217, 3) := by decide +kernel
theorem dX8_nextToken_279 : decode cX8_nextToken 279 = .ok (.goto (-65), 3) := by decide +kernel
theorem dX8_nextToken_282 : decode cX8_nextToken 282 = .ok (.aload_n 0, 1) := by decide +kernel
theorem dX8_nextToken_283 : decode cX8_nextToken 283 = .ok (.iload_n 1, 1) := by decide +kernel
theorem dX8_nextToken_284 : decode cX8_nextToken 284 = .ok (.ifCond .ne 16, 3) := by decide +kernel
theorem dX8_nextToken_287 : decode cX8_nextToken 287 = .ok (.aload_n 0, 1) := by decide +kernel
theorem dX8_nextToken_288 : decode cX8_nextToken 288 = .ok (.getfield 217, 3) := by decide +kernel
theorem dX8_nextToken_291 : decode cX8_nextToken 291 = .ok (.aload_n 0, 1) := by decide +kernel
theorem dX8_nextToken_292 : decode cX8_nextToken 292 = .ok (.getfield 223, 3) := by decide +kernel
theorem dX8_nextToken_295 : decode cX8_nextToken 295 = .ok (.isub, 1) := by decide +kernel
theorem dX8_nextToken_296 : decode cX8_nextToken 296 = .ok (.iconst 4, 1) := by decide +kernel
theorem dX8_nextToken_297 : decode cX8_nextToken 297 = .ok (.if_icmp .le 7, 3) := by decide +kernel
theorem dX8_nextToken_300 : decode cX8_nextToken 300 = .ok (.iconst 4, 1) := by decide +kernel
theorem dX8_nextToken_301 : decode cX8_nextToken 301 = .ok (.goto 4, 3) := by decide +kernel
theorem dX8_nextToken_304 : decode cX8_nextToken 304 = .ok (.iconst 2, 1) := by decide +kernel
theorem dX8_nextToken_305 : decode cX8_nextToken 305 = .ok (.putfield 220, 3) := by decide +kernel
theorem dX8_nextToken_308 : decode cX8_nextToken 308 = .ok (.goto 31, 3) := by decide +kernel
theorem dX8_nextToken_311 : decode cX8_nextToken 311 = .ok (.aload_n 0, 1) := by decide +kernel
theorem dX8_nextToken_312 : decode cX8_nextToken 312 = .ok (.iconst 3, 1) := by decide +kernel
theorem dX8_nextToken_313 : decode cX8_nextToken 313 = .ok (.putfield 220, 3) := by decide +kernel
theorem dX8_nextToken_316 : decode cX8_nextToken 316 = .ok (.aload_n 0, 1) := by decide +kernel
theorem dX8_nextToken_317 : decode cX8_nextToken 317 = .ok (.aload_n 0, 1) := by decide +kernel
theorem dX8_nextToken_318 : decode cX8_nextToken 318 = .ok (.getfield 53, 3) := by decide +kernel
theorem dX8_nextToken_321 : decode cX8_nextToken 321 = .ok (.aload_n 0, 1) := by decide +kernel
theorem dX8_nextToken_322 : decode cX8_nextToken 322 = .ok (.getfield 223, 3) := by decide +kernel
theorem dX8_nextToken_325 : decode cX8_nextToken 325 = .ok (.iaload, 1) := by decide +kernel
theorem dX8_nextToken_326 : decode cX8_nextToken 326 = .ok (.putfield 229, 3) := by decide +kernel
theorem dX8_nextToken_329 : decode cX8_nextToken 329 = .ok (.aload_n 0, 1) := by decide +kernel
theorem dX8_nextToken_330 : decode cX8_nextToken 330 = .ok (.dup, 1) := by decide +kernel
theorem dX8_nextToken_331 : decode cX8_nextToken 331 = .ok (.getfield 217, 3) := by decide +kernel
theorem dX8_nextToken_334 : decode cX8_nextToken 334 = .ok (.iconst 1, 1) := by decide +kernel
theorem dX8_nextToken_335 : decode cX8_nextToken 335 = .ok (.iadd, 1) := by decide +kernel
theorem dX8_nextToken_336 : decode cX8_nextToken 336 = .ok (.putfield 217, 3) := by decide +kernel
theorem dX8_nextToken_339 : decode cX8_nextToken 339 = .ok (.return_, 1) := by decide +kernel
theorem dX8_isSign_0 : decode cX8_isSign 0 = .ok (.aload_n 0, 1) := by decide +kernel
theorem dX8_isSign_1 : decode cX8_isSign 1 = .ok (.getfield 220, 3) := by decide +kernel
theorem dX8_isSign_4 : decode cX8_isSign 4 = .ok (.iconst 3, 1) := by decide +kernel
theorem dX8_isSign_5 : decode cX8_isSign 5 = .ok (.if_icmp .ne 15, 3) := by decide +kernel
theorem dX8_isSign_8 : decode cX8_isSign 8 = .ok (.aload_n 0, 1) := by decide +kernel
theorem dX8_isSign_9 : decode cX8_isSign 9 = .ok (.getfield 229, 3) := by decide +kernel
theorem dX8_isSign_12 : decode cX8_isSign 12 = .ok (.iload_n 1, 1) := by decide +kernel
theorem dX8_isSign_13 : decode cX8_isSign 13 = .ok (.if_icmp .ne 7, 3) := by decide +kernel
theorem dX8_isSign_16 : decode cX8_isSign 16 = .ok (.iconst 1, 1) := by decide +kernel
theorem dX8_isSign_17 : decode cX8_isSign 17 = .ok (.goto 4, 3) := by decide +kernel
theorem dX8_isSign_20 : decode cX8_isSign 20 = .ok (.iconst 0, 1) := by decide +kernel
theorem dX8_isSign_21 : decode cX8_isSign 21 = .ok (.ireturn, 1) := by decide +kernel
theorem dX8_isWordAt_0 : decode cX8_isWordAt 0 = .ok (.iload 4, 2) := by decide +kernel
theorem dX8_isWordAt_2 : decode cX8_isWordAt 2 = .ok (.ifCond .ne 7, 3) := by decide +kernel
theorem dX8_isWordAt_5 : decode cX8_isWordAt 5 = .ok (.iconst 3, 1) := by decide +kernel
theorem dX8_isWordAt_6 : decode cX8_isWordAt 6 = .ok (.goto 4, 3) := by decide +kernel
theorem dX8_isWordAt_9 : decode cX8_isWordAt 9 = .ok (.iconst 4, 1) := by decide +kernel
theorem dX8_isWordAt_10 : decode cX8_isWordAt 10 = .ok (.istore 5, 2) := by decide +kernel
theorem dX8_isWordAt_12 : decode cX8_isWordAt 12 = .ok (.aload_n 0, 1) := by decide +kernel
theorem dX8_isWordAt_13 : decode cX8_isWordAt 13 = .ok (.getfield 220, 3) := by decide +kernel
theorem dX8_isWordAt_16 : decode cX8_isWordAt 16 = .ok (.iconst 1, 1) := by decide +kernel
theorem dX8_isWordAt_17 : decode cX8_isWordAt 17 = .ok (.if_icmp .ne 85, 3) := by decide +kernel
theorem dX8_isWordAt_20 : decode cX8_isWordAt 20 = .ok (.aload_n 0, 1) := by decide +kernel
theorem dX8_isWordAt_21 : decode cX8_isWordAt 21 = .ok (.getfield 217, 3) := by decide +kernel
theorem dX8_isWordAt_24 : decode cX8_isWordAt 24 = .ok (.aload_n 0, 1) := by decide +kernel
theorem dX8_isWordAt_25 : decode cX8_isWordAt 25 = .ok (.getfield 223, 3) := by decide +kernel
theorem dX8_isWordAt_28 : decode cX8_isWordAt 28 = .ok (.isub, 1) := by decide +kernel
theorem dX8_isWordAt_29 : decode cX8_isWordAt 29 = .ok (.iload 5, 2) := by decide +kernel
theorem dX8_isWordAt_31 : decode cX8_isWordAt 31 = .ok (.if_icmp .ne 71, 3) := by decide +kernel
theorem dX8_isWordAt_34 : decode cX8_isWordAt 34 = .ok (.aload_n 0, 1) := by decide +kernel
theorem dX8_isWordAt_35 : decode cX8_isWordAt 35 = .ok (.getfield 53, 3) := by decide +kernel
theorem dX8_isWordAt_38 : decode cX8_isWordAt 38 = .ok (.aload_n 0, 1) := by decide +kernel
theorem dX8_isWordAt_39 : decode cX8_isWordAt 39 = .ok (.getfield 223, 3) := by decide +kernel
theorem dX8_isWordAt_42 : decode cX8_isWordAt 42 = .ok (.iaload, 1) := by decide +kernel
theorem dX8_isWordAt_43 : decode cX8_isWordAt 43 = .ok (.iload_n 1, 1) := by decide +kernel
theorem dX8_isWordAt_44 : decode cX8_isWordAt 44 = .ok (.if_icmp .ne 58, 3) := by decide +kernel
theorem dX8_isWordAt_47 : decode cX8_isWordAt 47 = .ok (.aload_n 0, 1) := by decide +kernel
theorem dX8_isWordAt_48 : decode cX8_isWordAt 48 = .ok (.getfield 53, 3) := by decide +kernel
theorem dX8_isWordAt_51 : decode cX8_isWordAt 51 = .ok (.aload_n 0, 1) := by decide +kernel
theorem dX8_isWordAt_52 : decode cX8_isWordAt 52 = .ok (.getfield 223, 3) := by decide +kernel
theorem dX8_isWordAt_55 : decode cX8_isWordAt 55 = .ok (.iconst 1, 1) := by decide +kernel
theorem dX8_isWordAt_56 : decode cX8_isWordAt 56 = .ok (.iadd, 1) := by decide +kernel
theorem dX8_isWordAt_57 : decode cX8_isWordAt 57 = .ok (.iaload, 1) := by decide +kernel
theorem dX8_isWordAt_58 : decode cX8_isWordAt 58 = .ok (.iload_n 2, 1) := by decide +kernel
theorem dX8_isWordAt_59 : decode cX8_isWordAt 59 = .ok (.if_icmp .ne 43, 3) := by decide +kernel
theorem dX8_isWordAt_62 : decode cX8_isWordAt 62 = .ok (.aload_n 0, 1) := by decide +kernel
theorem dX8_isWordAt_63 : decode cX8_isWordAt 63 = .ok (.getfield 53, 3) := by decide +kernel
theorem dX8_isWordAt_66 : decode cX8_isWordAt 66 = .ok (.aload_n 0, 1) := by decide +kernel
theorem dX8_isWordAt_67 : decode cX8_isWordAt 67 = .ok (.getfield 223, 3) := by decide +kernel
theorem dX8_isWordAt_70 : decode cX8_isWordAt 70 = .ok (.iconst 2, 1) := by decide +kernel
theorem dX8_isWordAt_71 : decode cX8_isWordAt 71 = .ok (.iadd, 1) := by decide +kernel
theorem dX8_isWordAt_72 : decode cX8_isWordAt 72 = .ok (.iaload, 1) := by decide +kernel
theorem dX8_isWordAt_73 : decode cX8_isWordAt 73 = .ok (.iload_n 3, 1) := by decide +kernel
theorem dX8_isWordAt_74 : decode cX8_isWordAt 74 = .ok (.if_icmp .ne 28, 3) := by decide +kernel
theorem dX8_isWordAt_77 : decode cX8_isWordAt 77 = .ok (.iload 4, 2) := by decide +kernel
theorem dX8_isWordAt_79 : decode cX8_isWordAt 79 = .ok (.ifCond .eq 19, 3) := by decide +kernel
theorem dX8_isWordAt_82 : decode cX8_isWordAt 82 = .ok (.aload_n 0, 1) := by decide +kernel
theorem dX8_isWordAt_83 : decode cX8_isWordAt 83 = .ok (.getfield 53, 3) := by decide +kernel
theorem dX8_isWordAt_86 : decode cX8_isWordAt 86 = .ok (.aload_n 0, 1) := by decide +kernel
theorem dX8_isWordAt_87 : decode cX8_isWordAt 87 = .ok (.getfield 223, 3) := by decide +kernel
theorem dX8_isWordAt_90 : decode cX8_isWordAt 90 = .ok (.iconst 3, 1) := by decide +kernel
theorem dX8_isWordAt_91 : decode cX8_isWordAt 91 = .ok (.iadd, 1) := by decide +kernel
theorem dX8_isWordAt_92 : decode cX8_isWordAt 92 = .ok (.iaload, 1) := by decide +kernel
theorem dX8_isWordAt_93 : decode cX8_isWordAt 93 = .ok (.iload 4, 2) := by decide +kernel
theorem dX8_isWordAt_95 : decode cX8_isWordAt 95 = .ok (.if_icmp .ne 7, 3) := by decide +kernel
theorem dX8_isWordAt_98 : decode cX8_isWordAt 98 = .ok (.iconst 1, 1) := by decide +kernel
theorem dX8_isWordAt_99 : decode cX8_isWordAt 99 = .ok (.goto 4, 3) := by decide +kernel
theorem dX8_isWordAt_102 : decode cX8_isWordAt 102 = .ok (.iconst 0, 1) := by decide +kernel
theorem dX8_isWordAt_103 : decode cX8_isWordAt 103 = .ok (.ireturn, 1) := by decide +kernel
theorem dX8_isLong_0 : decode cX8_isLong 0 = .ok (.iload 6, 2) := by decide +kernel
theorem dX8_isLong_2 : decode cX8_isLong 2 = .ok (.ifCond .ne 7, 3) := by decide +kernel
theorem dX8_isLong_5 : decode cX8_isLong 5 = .ok (.iconst 5, 1) := by decide +kernel
theorem dX8_isLong_6 : decode cX8_isLong 6 = .ok (.goto 5, 3) := by decide +kernel
theorem dX8_isLong_9 : decode cX8_isLong 9 = .ok (.bipush 6, 2) := by decide +kernel
theorem dX8_isLong_11 : decode cX8_isLong 11 = .ok (.istore 7, 2) := by decide +kernel
theorem dX8_isLong_13 : decode cX8_isLong 13 = .ok (.aload_n 0, 1) := by decide +kernel
theorem dX8_isLong_14 : decode cX8_isLong 14 = .ok (.getfield 220, 3) := by decide +kernel
theorem dX8_isLong_17 : decode cX8_isLong 17 = .ok (.iconst 1, 1) := by decide +kernel
theorem dX8_isLong_18 : decode cX8_isLong 18 = .ok (.if_icmp .ne 117, 3) := by decide +kernel
theorem dX8_isLong_21 : decode cX8_isLong 21 = .ok (.aload_n 0, 1) := by decide +kernel
theorem dX8_isLong_22 : decode cX8_isLong 22 = .ok (.getfield 217, 3) := by decide +kernel
theorem dX8_isLong_25 : decode cX8_isLong 25 = .ok (.aload_n 0, 1) := by decide +kernel
theorem dX8_isLong_26 : decode cX8_isLong 26 = .ok (.getfield 223, 3) := by decide +kernel
theorem dX8_isLong_29 : decode cX8_isLong 29 = .ok (.isub, 1) := by decide +kernel
theorem dX8_isLong_30 : decode cX8_isLong 30 = .ok (.iload 7, 2) := by decide +kernel
theorem dX8_isLong_32 : decode cX8_isLong 32 = .ok (.if_icmp .ne 103, 3) := by decide +kernel
theorem dX8_isLong_35 : decode cX8_isLong 35 = .ok (.aload_n 0, 1) := by decide +kernel
theorem dX8_isLong_36 : decode cX8_isLong 36 = .ok (.getfield 53, 3) := by decide +kernel
theorem dX8_isLong_39 : decode cX8_isLong 39 = .ok (.aload_n 0, 1) := by decide +kernel
theorem dX8_isLong_40 : decode cX8_isLong 40 = .ok (.getfield 223, 3) := by decide +kernel
theorem dX8_isLong_43 : decode cX8_isLong 43 = .ok (.iaload, 1) := by decide +kernel
theorem dX8_isLong_44 : decode cX8_isLong 44 = .ok (.iload_n 1, 1) := by decide +kernel
theorem dX8_isLong_45 : decode cX8_isLong 45 = .ok (.if_icmp .ne 90, 3) := by decide +kernel
theorem dX8_isLong_48 : decode cX8_isLong 48 = .ok (.aload_n 0, 1) := by decide +kernel
theorem dX8_isLong_49 : decode cX8_isLong 49 = .ok (.getfield 53, 3) := by decide +kernel
theorem dX8_isLong_52 : decode cX8_isLong 52 = .ok (.aload_n 0, 1) := by decide +kernel
theorem dX8_isLong_53 : decode cX8_isLong 53 = .ok (.getfield 223, 3) := by decide +kernel
theorem dX8_isLong_56 : decode cX8_isLong 56 = .ok (.iconst 1, 1) := by decide +kernel
theorem dX8_isLong_57 : decode cX8_isLong 57 = .ok (.iadd, 1) := by decide +kernel
theorem dX8_isLong_58 : decode cX8_isLong 58 = .ok (.iaload, 1) := by decide +kernel
theorem dX8_isLong_59 : decode cX8_isLong 59 = .ok (.iload_n 2, 1) := by decide +kernel
theorem dX8_isLong_60 : decode cX8_isLong 60 = .ok (.if_icmp .ne 75, 3) := by decide +kernel
theorem dX8_isLong_63 : decode cX8_isLong 63 = .ok (.aload_n 0, 1) := by decide +kernel
theorem dX8_isLong_64 : decode cX8_isLong 64 = .ok (.getfield 53, 3) := by decide +kernel
theorem dX8_isLong_67 : decode cX8_isLong 67 = .ok (.aload_n 0, 1) := by decide +kernel
theorem dX8_isLong_68 : decode cX8_isLong 68 = .ok (.getfield 223, 3) := by decide +kernel
theorem dX8_isLong_71 : decode cX8_isLong 71 = .ok (.iconst 2, 1) := by decide +kernel
theorem dX8_isLong_72 : decode cX8_isLong 72 = .ok (.iadd, 1) := by decide +kernel
theorem dX8_isLong_73 : decode cX8_isLong 73 = .ok (.iaload, 1) := by decide +kernel
theorem dX8_isLong_74 : decode cX8_isLong 74 = .ok (.iload_n 3, 1) := by decide +kernel
theorem dX8_isLong_75 : decode cX8_isLong 75 = .ok (.if_icmp .ne 60, 3) := by decide +kernel
theorem dX8_isLong_78 : decode cX8_isLong 78 = .ok (.aload_n 0, 1) := by decide +kernel
theorem dX8_isLong_79 : decode cX8_isLong 79 = .ok (.getfield 53, 3) := by decide +kernel
theorem dX8_isLong_82 : decode cX8_isLong 82 = .ok (.aload_n 0, 1) := by decide +kernel
theorem dX8_isLong_83 : decode cX8_isLong 83 = .ok (.getfield 223, 3) := by decide +kernel
theorem dX8_isLong_86 : decode cX8_isLong 86 = .ok (.iconst 3, 1) := by decide +kernel
theorem dX8_isLong_87 : decode cX8_isLong 87 = .ok (.iadd, 1) := by decide +kernel
theorem dX8_isLong_88 : decode cX8_isLong 88 = .ok (.iaload, 1) := by decide +kernel
theorem dX8_isLong_89 : decode cX8_isLong 89 = .ok (.iload 4, 2) := by decide +kernel
theorem dX8_isLong_91 : decode cX8_isLong 91 = .ok (.if_icmp .ne 44, 3) := by decide +kernel
theorem dX8_isLong_94 : decode cX8_isLong 94 = .ok (.aload_n 0, 1) := by decide +kernel
theorem dX8_isLong_95 : decode cX8_isLong 95 = .ok (.getfield 53, 3) := by decide +kernel
theorem dX8_isLong_98 : decode cX8_isLong 98 = .ok (.aload_n 0, 1) := by decide +kernel
theorem dX8_isLong_99 : decode cX8_isLong 99 = .ok (.getfield 223, 3) := by decide +kernel
theorem dX8_isLong_102 : decode cX8_isLong 102 = .ok (.iconst 4, 1) := by decide +kernel
theorem dX8_isLong_103 : decode cX8_isLong 103 = .ok (.iadd, 1) := by decide +kernel
theorem dX8_isLong_104 : decode cX8_isLong 104 = .ok (.iaload, 1) := by decide +kernel
theorem dX8_isLong_105 : decode cX8_isLong 105 = .ok (.iload 5, 2) := by decide +kernel
theorem dX8_isLong_107 : decode cX8_isLong 107 = .ok (.if_icmp .ne 28, 3) := by decide +kernel
theorem dX8_isLong_110 : decode cX8_isLong 110 = .ok (.iload 6, 2) := by decide +kernel
theorem dX8_isLong_112 : decode cX8_isLong 112 = .ok (.ifCond .eq 19, 3) := by decide +kernel
theorem dX8_isLong_115 : decode cX8_isLong 115 = .ok (.aload_n 0, 1) := by decide +kernel
theorem dX8_isLong_116 : decode cX8_isLong 116 = .ok (.getfield 53, 3) := by decide +kernel
theorem dX8_isLong_119 : decode cX8_isLong 119 = .ok (.aload_n 0, 1) := by decide +kernel
theorem dX8_isLong_120 : decode cX8_isLong 120 = .ok (.getfield 223, 3) := by decide +kernel
theorem dX8_isLong_123 : decode cX8_isLong 123 = .ok (.iconst 5, 1) := by decide +kernel
theorem dX8_isLong_124 : decode cX8_isLong 124 = .ok (.iadd, 1) := by decide +kernel
theorem dX8_isLong_125 : decode cX8_isLong 125 = .ok (.iaload, 1) := by decide +kernel
theorem dX8_isLong_126 : decode cX8_isLong 126 = .ok (.iload 6, 2) := by decide +kernel
theorem dX8_isLong_128 : decode cX8_isLong 128 = .ok (.if_icmp .ne 7, 3) := by decide +kernel
theorem dX8_isLong_131 : decode cX8_isLong 131 = .ok (.iconst 1, 1) := by decide +kernel
theorem dX8_isLong_132 : decode cX8_isLong 132 = .ok (.goto 4, 3) := by decide +kernel
theorem dX8_isLong_135 : decode cX8_isLong 135 = .ok (.iconst 0, 1) := by decide +kernel
theorem dX8_isLong_136 : decode cX8_isLong 136 = .ok (.ireturn, 1) := by decide +kernel
theorem dX8_key_0 : decode cX8_key 0 = .ok (.aload_n 0, 1) := by decide +kernel
theorem dX8_key_1 : decode cX8_key 1 = .ok (.bipush 108, 2) := by decide +kernel
theorem dX8_key_3 : decode cX8_key 3 = .ok (.bipush 101, 2) := by decide +kernel
theorem dX8_key_5 : decode cX8_key 5 = .ok (.bipush 97, 2) := by decide +kernel
theorem dX8_key_7 : decode cX8_key 7 = .ok (.bipush 118, 2) := by decide +kernel
theorem dX8_key_9 : decode cX8_key 9 = .ok (.bipush 101, 2) := by decide +kernel
theorem dX8_key_11 : decode cX8_key 11 = .ok (.iconst 0, 1) := by decide +kernel
theorem dX8_key_12 : decode cX8_key 12 = .ok (.invokevirtual 238, 3) := by decide +kernel
theorem dX8_key_15 : decode cX8_key 15 = .ok (.ifCond .eq 5, 3) := by decide +kernel
theorem dX8_key_18 : decode cX8_key 18 = .ok (.iconst 0, 1) := by decide +kernel
theorem dX8_key_19 : decode cX8_key 19 = .ok (.ireturn, 1) := by decide +kernel
theorem dX8_key_20 : decode cX8_key 20 = .ok (.aload_n 0, 1) := by decide +kernel
theorem dX8_key_21 : decode cX8_key 21 = .ok (.bipush 115, 2) := by decide +kernel
theorem dX8_key_23 : decode cX8_key 23 = .ok (.bipush 116, 2) := by decide +kernel
theorem dX8_key_25 : decode cX8_key 25 = .ok (.bipush 97, 2) := by decide +kernel
theorem dX8_key_27 : decode cX8_key 27 = .ok (.bipush 121, 2) := by decide +kernel
theorem dX8_key_29 : decode cX8_key 29 = .ok (.invokevirtual 242, 3) := by decide +kernel
theorem dX8_key_32 : decode cX8_key 32 = .ok (.ifCond .eq 5, 3) := by decide +kernel
theorem dX8_key_35 : decode cX8_key 35 = .ok (.iconst 1, 1) := by decide +kernel
theorem dX8_key_36 : decode cX8_key 36 = .ok (.ireturn, 1) := by decide +kernel
theorem dX8_key_37 : decode cX8_key 37 = .ok (.aload_n 0, 1) := by decide +kernel
theorem dX8_key_38 : decode cX8_key 38 = .ok (.bipush 102, 2) := by decide +kernel
theorem dX8_key_40 : decode cX8_key 40 = .ok (.bipush 105, 2) := by decide +kernel
theorem dX8_key_42 : decode cX8_key 42 = .ok (.bipush 110, 2) := by decide +kernel
theorem dX8_key_44 : decode cX8_key 44 = .ok (.bipush 101, 2) := by decide +kernel
theorem dX8_key_46 : decode cX8_key 46 = .ok (.invokevirtual 242, 3) := by decide +kernel
theorem dX8_key_49 : decode cX8_key 49 = .ok (.ifCond .eq 7, 3) := by decide +kernel
theorem dX8_key_52 : decode cX8_key 52 = .ok (.iconst 2, 1) := by decide +kernel
theorem dX8_key_53 : decode cX8_key 53 = .ok (.goto 4, 3) := by decide +kernel
theorem dX8_key_56 : decode cX8_key 56 = .ok (.iconst (-1), 1) := by decide +kernel
theorem dX8_key_57 : decode cX8_key 57 = .ok (.ireturn, 1) := by decide +kernel
theorem dX8_isName_0 : decode cX8_isName 0 = .ok (.iload_n 0, 1) := by decide +kernel
theorem dX8_isName_1 : decode cX8_isName 1 = .ok (.lookupswitch 75 #[(0, 27), (1, 51)], 27) := by decide +kernel
theorem dX8_isName_28 : decode cX8_isName 28 = .ok (.iload_n 1, 1) := by decide +kernel
theorem dX8_isName_29 : decode cX8_isName 29 = .ok (.bipush 116, 2) := by decide +kernel
theorem dX8_isName_31 : decode cX8_isName 31 = .ok (.if_icmp .eq 15, 3) := by decide +kernel
theorem dX8_isName_34 : decode cX8_isName 34 = .ok (.iload_n 1, 1) := by decide +kernel
theorem dX8_isName_35 : decode cX8_isName 35 = .ok (.bipush 115, 2) := by decide +kernel
theorem dX8_isName_37 : decode cX8_isName 37 = .ok (.if_icmp .eq 9, 3) := by decide +kernel
theorem dX8_isName_40 : decode cX8_isName 40 = .ok (.iload_n 1, 1) := by decide +kernel
theorem dX8_isName_41 : decode cX8_isName 41 = .ok (.bipush 97, 2) := by decide +kernel
theorem dX8_isName_43 : decode cX8_isName 43 = .ok (.if_icmp .ne 7, 3) := by decide +kernel
theorem dX8_isName_46 : decode cX8_isName 46 = .ok (.iconst 1, 1) := by decide +kernel
theorem dX8_isName_47 : decode cX8_isName 47 = .ok (.goto 4, 3) := by decide +kernel
theorem dX8_isName_50 : decode cX8_isName 50 = .ok (.iconst 0, 1) := by decide +kernel
theorem dX8_isName_51 : decode cX8_isName 51 = .ok (.ireturn, 1) := by decide +kernel
theorem dX8_isName_52 : decode cX8_isName 52 = .ok (.iload_n 1, 1) := by decide +kernel
theorem dX8_isName_53 : decode cX8_isName 53 = .ok (.bipush 97, 2) := by decide +kernel
theorem dX8_isName_55 : decode cX8_isName 55 = .ok (.if_icmp .eq 15, 3) := by decide +kernel
theorem dX8_isName_58 : decode cX8_isName 58 = .ok (.iload_n 1, 1) := by decide +kernel
theorem dX8_isName_59 : decode cX8_isName 59 = .ok (.bipush 119, 2) := by decide +kernel
theorem dX8_isName_61 : decode cX8_isName 61 = .ok (.if_icmp .eq 9, 3) := by decide +kernel
theorem dX8_isName_64 : decode cX8_isName 64 = .ok (.iload_n 1, 1) := by decide +kernel
theorem dX8_isName_65 : decode cX8_isName 65 = .ok (.bipush 110, 2) := by decide +kernel
theorem dX8_isName_67 : decode cX8_isName 67 = .ok (.if_icmp .ne 7, 3) := by decide +kernel
theorem dX8_isName_70 : decode cX8_isName 70 = .ok (.iconst 1, 1) := by decide +kernel
theorem dX8_isName_71 : decode cX8_isName 71 = .ok (.goto 4, 3) := by decide +kernel
theorem dX8_isName_74 : decode cX8_isName 74 = .ok (.iconst 0, 1) := by decide +kernel
theorem dX8_isName_75 : decode cX8_isName 75 = .ok (.ireturn, 1) := by decide +kernel
theorem dX8_isName_76 : decode cX8_isName 76 = .ok (.iload_n 1, 1) := by decide +kernel
theorem dX8_isName_77 : decode cX8_isName 77 = .ok (.bipush 103, 2) := by decide +kernel
theorem dX8_isName_79 : decode cX8_isName 79 = .ok (.if_icmp .eq 9, 3) := by decide +kernel
theorem dX8_isName_82 : decode cX8_isName 82 = .ok (.iload_n 1, 1) := by decide +kernel
theorem dX8_isName_83 : decode cX8_isName 83 = .ok (.bipush 101, 2) := by decide +kernel
theorem dX8_isName_85 : decode cX8_isName 85 = .ok (.if_icmp .ne 7, 3) := by decide +kernel
theorem dX8_isName_88 : decode cX8_isName 88 = .ok (.iconst 1, 1) := by decide +kernel
theorem dX8_isName_89 : decode cX8_isName 89 = .ok (.goto 4, 3) := by decide +kernel
theorem dX8_isName_92 : decode cX8_isName 92 = .ok (.iconst 0, 1) := by decide +kernel
theorem dX8_isName_93 : decode cX8_isName 93 = .ok (.ireturn, 1) := by decide +kernel
theorem dX8_step_0 : decode cX8_step 0 = .ok (.aload_n 0, 1) := by decide +kernel
theorem dX8_step_1 : decode cX8_step 1 = .ok (.getfield 7, 3) := by decide +kernel
theorem dX8_step_4 : decode cX8_step 4 = .ok (.aload_n 0, 1) := by decide +kernel
theorem dX8_step_5 : decode cX8_step 5 = .ok (.getfield 246, 3) := by decide +kernel
theorem dX8_step_8 : decode cX8_step 8 = .ok (.iconst 2, 1) := by decide +kernel
theorem dX8_step_9 : decode cX8_step 9 = .ok (.aload_n 0, 1) := by decide +kernel
theorem dX8_step_10 : decode cX8_step 10 = .ok (.getfield 249, 3) := by decide +kernel
theorem dX8_step_13 : decode cX8_step 13 = .ok (.imul, 1) := by decide +kernel
theorem dX8_step_14 : decode cX8_step 14 = .ok (.iadd, 1) := by decide +kernel
theorem dX8_step_15 : decode cX8_step 15 = .ok (.iload_n 1, 1) := by decide +kernel
theorem dX8_step_16 : decode cX8_step 16 = .ok (.iastore, 1) := by decide +kernel
theorem dX8_step_17 : decode cX8_step 17 = .ok (.aload_n 0, 1) := by decide +kernel
theorem dX8_step_18 : decode cX8_step 18 = .ok (.getfield 7, 3) := by decide +kernel
theorem dX8_step_21 : decode cX8_step 21 = .ok (.aload_n 0, 1) := by decide +kernel
theorem dX8_step_22 : decode cX8_step 22 = .ok (.getfield 246, 3) := by decide +kernel
theorem dX8_step_25 : decode cX8_step 25 = .ok (.iconst 2, 1) := by decide +kernel
theorem dX8_step_26 : decode cX8_step 26 = .ok (.aload_n 0, 1) := by decide +kernel
theorem dX8_step_27 : decode cX8_step 27 = .ok (.getfield 249, 3) := by decide +kernel
theorem dX8_step_30 : decode cX8_step 30 = .ok (.imul, 1) := by decide +kernel
theorem dX8_step_31 : decode cX8_step 31 = .ok (.iadd, 1) := by decide +kernel
theorem dX8_step_32 : decode cX8_step 32 = .ok (.iconst 1, 1) := by decide +kernel
theorem dX8_step_33 : decode cX8_step 33 = .ok (.iadd, 1) := by decide +kernel
theorem dX8_step_34 : decode cX8_step 34 = .ok (.iload_n 2, 1) := by decide +kernel
theorem dX8_step_35 : decode cX8_step 35 = .ok (.iastore, 1) := by decide +kernel
theorem dX8_step_36 : decode cX8_step 36 = .ok (.aload_n 0, 1) := by decide +kernel
theorem dX8_step_37 : decode cX8_step 37 = .ok (.dup, 1) := by decide +kernel
theorem dX8_step_38 : decode cX8_step 38 = .ok (.getfield 249, 3) := by decide +kernel
theorem dX8_step_41 : decode cX8_step 41 = .ok (.iconst 1, 1) := by decide +kernel
theorem dX8_step_42 : decode cX8_step 42 = .ok (.iadd, 1) := by decide +kernel
theorem dX8_step_43 : decode cX8_step 43 = .ok (.putfield 249, 3) := by decide +kernel
theorem dX8_step_46 : decode cX8_step 46 = .ok (.return_, 1) := by decide +kernel
theorem dX8_either_0 : decode cX8_either 0 = .ok (.aload_n 0, 1) := by decide +kernel
theorem dX8_either_1 : decode cX8_either 1 = .ok (.iload_n 1, 1) := by decide +kernel
theorem dX8_either_2 : decode cX8_either 2 = .ok (.invokevirtual 252, 3) := by decide +kernel
theorem dX8_either_5 : decode cX8_either 5 = .ok (.ifCond .ne 5, 3) := by decide +kernel
theorem dX8_either_8 : decode cX8_either 8 = .ok (.iconst 0, 1) := by decide +kernel
theorem dX8_either_9 : decode cX8_either 9 = .ok (.ireturn, 1) := by decide +kernel
theorem dX8_either_10 : decode cX8_either 10 = .ok (.aload_n 0, 1) := by decide +kernel
theorem dX8_either_11 : decode cX8_either 11 = .ok (.bipush 124, 2) := by decide +kernel
theorem dX8_either_13 : decode cX8_either 13 = .ok (.invokevirtual 255, 3) := by decide +kernel
theorem dX8_either_16 : decode cX8_either 16 = .ok (.ifCond .eq 27, 3) := by decide +kernel
theorem dX8_either_19 : decode cX8_either 19 = .ok (.aload_n 0, 1) := by decide +kernel
theorem dX8_either_20 : decode cX8_either 20 = .ok (.invokevirtual 258, 3) := by decide +kernel
theorem dX8_either_23 : decode cX8_either 23 = .ok (.aload_n 0, 1) := by decide +kernel
theorem dX8_either_24 : decode cX8_either 24 = .ok (.iload_n 1, 1) := by decide +kernel
theorem dX8_either_25 : decode cX8_either 25 = .ok (.invokevirtual 252, 3) := by decide +kernel
theorem dX8_either_28 : decode cX8_either 28 = .ok (.ifCond .ne 5, 3) := by decide +kernel
theorem dX8_either_31 : decode cX8_either 31 = .ok (.iconst 0, 1) := by decide +kernel
theorem dX8_either_32 : decode cX8_either 32 = .ok (.ireturn, 1) := by decide +kernel
theorem dX8_either_33 : decode cX8_either 33 = .ok (.aload_n 0, 1) := by decide +kernel
theorem dX8_either_34 : decode cX8_either 34 = .ok (.iconst 2, 1) := by decide +kernel
theorem dX8_either_35 : decode cX8_either 35 = .ok (.bipush 124, 2) := by decide +kernel
theorem dX8_either_37 : decode cX8_either 37 = .ok (.invokevirtual 261, 3) := by decide +kernel
theorem dX8_either_40 : decode cX8_either 40 = .ok (.goto (-30), 3) := by decide +kernel
theorem dX8_either_43 : decode cX8_either 43 = .ok (.iconst 1, 1) := by decide +kernel
theorem dX8_either_44 : decode cX8_either 44 = .ok (.ireturn, 1) := by decide +kernel
theorem dX8_both_0 : decode cX8_both 0 = .ok (.aload_n 0, 1) := by decide +kernel
theorem dX8_both_1 : decode cX8_both 1 = .ok (.iload_n 1, 1) := by decide +kernel
theorem dX8_both_2 : decode cX8_both 2 = .ok (.invokevirtual 264, 3) := by decide +kernel
theorem dX8_both_5 : decode cX8_both 5 = .ok (.ifCond .ne 5, 3) := by decide +kernel
theorem dX8_both_8 : decode cX8_both 8 = .ok (.iconst 0, 1) := by decide +kernel
theorem dX8_both_9 : decode cX8_both 9 = .ok (.ireturn, 1) := by decide +kernel
theorem dX8_both_10 : decode cX8_both 10 = .ok (.aload_n 0, 1) := by decide +kernel
theorem dX8_both_11 : decode cX8_both 11 = .ok (.bipush 38, 2) := by decide +kernel
theorem dX8_both_13 : decode cX8_both 13 = .ok (.invokevirtual 255, 3) := by decide +kernel
theorem dX8_both_16 : decode cX8_both 16 = .ok (.ifCond .eq 27, 3) := by decide +kernel
theorem dX8_both_19 : decode cX8_both 19 = .ok (.aload_n 0, 1) := by decide +kernel
theorem dX8_both_20 : decode cX8_both 20 = .ok (.invokevirtual 258, 3) := by decide +kernel
theorem dX8_both_23 : decode cX8_both 23 = .ok (.aload_n 0, 1) := by decide +kernel
theorem dX8_both_24 : decode cX8_both 24 = .ok (.iload_n 1, 1) := by decide +kernel
theorem dX8_both_25 : decode cX8_both 25 = .ok (.invokevirtual 264, 3) := by decide +kernel
theorem dX8_both_28 : decode cX8_both 28 = .ok (.ifCond .ne 5, 3) := by decide +kernel
theorem dX8_both_31 : decode cX8_both 31 = .ok (.iconst 0, 1) := by decide +kernel
theorem dX8_both_32 : decode cX8_both 32 = .ok (.ireturn, 1) := by decide +kernel
theorem dX8_both_33 : decode cX8_both 33 = .ok (.aload_n 0, 1) := by decide +kernel
theorem dX8_both_34 : decode cX8_both 34 = .ok (.iconst 2, 1) := by decide +kernel
theorem dX8_both_35 : decode cX8_both 35 = .ok (.bipush 38, 2) := by decide +kernel
theorem dX8_both_37 : decode cX8_both 37 = .ok (.invokevirtual 261, 3) := by decide +kernel
theorem dX8_both_40 : decode cX8_both 40 = .ok (.goto (-30), 3) := by decide +kernel
theorem dX8_both_43 : decode cX8_both 43 = .ok (.iconst 1, 1) := by decide +kernel
theorem dX8_both_44 : decode cX8_both 44 = .ok (.ireturn, 1) := by decide +kernel
theorem dX8_test_0 : decode cX8_test 0 = .ok (.aload_n 0, 1) := by decide +kernel
theorem dX8_test_1 : decode cX8_test 1 = .ok (.iload_n 1, 1) := by decide +kernel
theorem dX8_test_2 : decode cX8_test 2 = .ok (.invokevirtual 267, 3) := by decide +kernel
theorem dX8_test_5 : decode cX8_test 5 = .ok (.ifCond .ne 5, 3) := by decide +kernel
theorem dX8_test_8 : decode cX8_test 8 = .ok (.iconst 0, 1) := by decide +kernel
theorem dX8_test_9 : decode cX8_test 9 = .ok (.ireturn, 1) := by decide +kernel
theorem dX8_test_10 : decode cX8_test 10 = .ok (.aload_n 0, 1) := by decide +kernel
theorem dX8_test_11 : decode cX8_test 11 = .ok (.bipush 60, 2) := by decide +kernel
theorem dX8_test_13 : decode cX8_test 13 = .ok (.invokevirtual 255, 3) := by decide +kernel
theorem dX8_test_16 : decode cX8_test 16 = .ok (.ifCond .ne 21, 3) := by decide +kernel
theorem dX8_test_19 : decode cX8_test 19 = .ok (.aload_n 0, 1) := by decide +kernel
theorem dX8_test_20 : decode cX8_test 20 = .ok (.bipush 61, 2) := by decide +kernel
theorem dX8_test_22 : decode cX8_test 22 = .ok (.invokevirtual 255, 3) := by decide +kernel
theorem dX8_test_25 : decode cX8_test 25 = .ok (.ifCond .ne 12, 3) := by decide +kernel
theorem dX8_test_28 : decode cX8_test 28 = .ok (.aload_n 0, 1) := by decide +kernel
theorem dX8_test_29 : decode cX8_test 29 = .ok (.bipush 62, 2) := by decide +kernel
theorem dX8_test_31 : decode cX8_test 31 = .ok (.invokevirtual 255, 3) := by decide +kernel
theorem dX8_test_34 : decode cX8_test 34 = .ok (.ifCond .eq 28, 3) := by decide +kernel
theorem dX8_test_37 : decode cX8_test 37 = .ok (.aload_n 0, 1) := by decide +kernel
theorem dX8_test_38 : decode cX8_test 38 = .ok (.getfield 229, 3) := by decide +kernel
theorem dX8_test_41 : decode cX8_test 41 = .ok (.istore_n 2, 1) := by decide +kernel
theorem dX8_test_42 : decode cX8_test 42 = .ok (.aload_n 0, 1) := by decide +kernel
theorem dX8_test_43 : decode cX8_test 43 = .ok (.invokevirtual 258, 3) := by decide +kernel
theorem dX8_test_46 : decode cX8_test 46 = .ok (.aload_n 0, 1) := by decide +kernel
theorem dX8_test_47 : decode cX8_test 47 = .ok (.iload_n 1, 1) := by decide +kernel
theorem dX8_test_48 : decode cX8_test 48 = .ok (.invokevirtual 267, 3) := by decide +kernel
theorem dX8_test_51 : decode cX8_test 51 = .ok (.ifCond .ne 5, 3) := by decide +kernel
theorem dX8_test_54 : decode cX8_test 54 = .ok (.iconst 0, 1) := by decide +kernel
theorem dX8_test_55 : decode cX8_test 55 = .ok (.ireturn, 1) := by decide +kernel
theorem dX8_test_56 : decode cX8_test 56 = .ok (.aload_n 0, 1) := by decide +kernel
theorem dX8_test_57 : decode cX8_test 57 = .ok (.iconst 2, 1) := by decide +kernel
theorem dX8_test_58 : decode cX8_test 58 = .ok (.iload_n 2, 1) := by decide +kernel
theorem dX8_test_59 : decode cX8_test 59 = .ok (.invokevirtual 261, 3) := by decide +kernel
theorem dX8_test_62 : decode cX8_test 62 = .ok (.iconst 1, 1) := by decide +kernel
theorem dX8_test_63 : decode cX8_test 63 = .ok (.ireturn, 1) := by decide +kernel
theorem dX8_sum_0 : decode cX8_sum 0 = .ok (.aload_n 0, 1) := by decide +kernel
theorem dX8_sum_1 : decode cX8_sum 1 = .ok (.iload_n 1, 1) := by decide +kernel
theorem dX8_sum_2 : decode cX8_sum 2 = .ok (.invokevirtual 270, 3) := by decide +kernel
theorem dX8_sum_5 : decode cX8_sum 5 = .ok (.ifCond .ne 5, 3) := by decide +kernel
theorem dX8_sum_8 : decode cX8_sum 8 = .ok (.iconst 0, 1) := by decide +kernel
theorem dX8_sum_9 : decode cX8_sum 9 = .ok (.ireturn, 1) := by decide +kernel
theorem dX8_sum_10 : decode cX8_sum 10 = .ok (.aload_n 0, 1) := by decide +kernel
theorem dX8_sum_11 : decode cX8_sum 11 = .ok (.bipush 43, 2) := by decide +kernel
theorem dX8_sum_13 : decode cX8_sum 13 = .ok (.invokevirtual 255, 3) := by decide +kernel
theorem dX8_sum_16 : decode cX8_sum 16 = .ok (.ifCond .ne 12, 3) := by decide +kernel
theorem dX8_sum_19 : decode cX8_sum 19 = .ok (.aload_n 0, 1) := by decide +kernel
theorem dX8_sum_20 : decode cX8_sum 20 = .ok (.bipush 45, 2) := by decide +kernel
theorem dX8_sum_22 : decode cX8_sum 22 = .ok (.invokevirtual 255, 3) := by decide +kernel
theorem dX8_sum_25 : decode cX8_sum 25 = .ok (.ifCond .eq 31, 3) := by decide +kernel
theorem dX8_sum_28 : decode cX8_sum 28 = .ok (.aload_n 0, 1) := by decide +kernel
theorem dX8_sum_29 : decode cX8_sum 29 = .ok (.getfield 229, 3) := by decide +kernel
theorem dX8_sum_32 : decode cX8_sum 32 = .ok (.istore_n 2, 1) := by decide +kernel
theorem dX8_sum_33 : decode cX8_sum 33 = .ok (.aload_n 0, 1) := by decide +kernel
theorem dX8_sum_34 : decode cX8_sum 34 = .ok (.invokevirtual 258, 3) := by decide +kernel
theorem dX8_sum_37 : decode cX8_sum 37 = .ok (.aload_n 0, 1) := by decide +kernel
theorem dX8_sum_38 : decode cX8_sum 38 = .ok (.iload_n 1, 1) := by decide +kernel
theorem dX8_sum_39 : decode cX8_sum 39 = .ok (.invokevirtual 270, 3) := by decide +kernel
theorem dX8_sum_42 : decode cX8_sum 42 = .ok (.ifCond .ne 5, 3) := by decide +kernel
theorem dX8_sum_45 : decode cX8_sum 45 = .ok (.iconst 0, 1) := by decide +kernel
theorem dX8_sum_46 : decode cX8_sum 46 = .ok (.ireturn, 1) := by decide +kernel
theorem dX8_sum_47 : decode cX8_sum 47 = .ok (.aload_n 0, 1) := by decide +kernel
theorem dX8_sum_48 : decode cX8_sum 48 = .ok (.iconst 2, 1) := by decide +kernel
theorem dX8_sum_49 : decode cX8_sum 49 = .ok (.iload_n 2, 1) := by decide +kernel
theorem dX8_sum_50 : decode cX8_sum 50 = .ok (.invokevirtual 261, 3) := by decide +kernel
theorem dX8_sum_53 : decode cX8_sum 53 = .ok (.goto (-43), 3) := by decide +kernel
theorem dX8_sum_56 : decode cX8_sum 56 = .ok (.iconst 1, 1) := by decide +kernel
theorem dX8_sum_57 : decode cX8_sum 57 = .ok (.ireturn, 1) := by decide +kernel
theorem dX8_term_0 : decode cX8_term 0 = .ok (.aload_n 0, 1) := by decide +kernel
theorem dX8_term_1 : decode cX8_term 1 = .ok (.iload_n 1, 1) := by decide +kernel
theorem dX8_term_2 : decode cX8_term 2 = .ok (.invokevirtual 273, 3) := by decide +kernel
theorem dX8_term_5 : decode cX8_term 5 = .ok (.ifCond .ne 5, 3) := by decide +kernel
theorem dX8_term_8 : decode cX8_term 8 = .ok (.iconst 0, 1) := by decide +kernel
theorem dX8_term_9 : decode cX8_term 9 = .ok (.ireturn, 1) := by decide +kernel
theorem dX8_term_10 : decode cX8_term 10 = .ok (.aload_n 0, 1) := by decide +kernel
theorem dX8_term_11 : decode cX8_term 11 = .ok (.bipush 42, 2) := by decide +kernel
theorem dX8_term_13 : decode cX8_term 13 = .ok (.invokevirtual 255, 3) := by decide +kernel
theorem dX8_term_16 : decode cX8_term 16 = .ok (.ifCond .ne 12, 3) := by decide +kernel
theorem dX8_term_19 : decode cX8_term 19 = .ok (.aload_n 0, 1) := by decide +kernel
theorem dX8_term_20 : decode cX8_term 20 = .ok (.bipush 47, 2) := by decide +kernel
theorem dX8_term_22 : decode cX8_term 22 = .ok (.invokevirtual 255, 3) := by decide +kernel
theorem dX8_term_25 : decode cX8_term 25 = .ok (.ifCond .eq 31, 3) := by decide +kernel
theorem dX8_term_28 : decode cX8_term 28 = .ok (.aload_n 0, 1) := by decide +kernel
theorem dX8_term_29 : decode cX8_term 29 = .ok (.getfield 229, 3) := by decide +kernel
theorem dX8_term_32 : decode cX8_term 32 = .ok (.istore_n 2, 1) := by decide +kernel
theorem dX8_term_33 : decode cX8_term 33 = .ok (.aload_n 0, 1) := by decide +kernel
theorem dX8_term_34 : decode cX8_term 34 = .ok (.invokevirtual 258, 3) := by decide +kernel
theorem dX8_term_37 : decode cX8_term 37 = .ok (.aload_n 0, 1) := by decide +kernel
theorem dX8_term_38 : decode cX8_term 38 = .ok (.iload_n 1, 1) := by decide +kernel
theorem dX8_term_39 : decode cX8_term 39 = .ok (.invokevirtual 273, 3) := by decide +kernel
theorem dX8_term_42 : decode cX8_term 42 = .ok (.ifCond .ne 5, 3) := by decide +kernel
theorem dX8_term_45 : decode cX8_term 45 = .ok (.iconst 0, 1) := by decide +kernel
theorem dX8_term_46 : decode cX8_term 46 = .ok (.ireturn, 1) := by decide +kernel
theorem dX8_term_47 : decode cX8_term 47 = .ok (.aload_n 0, 1) := by decide +kernel
theorem dX8_term_48 : decode cX8_term 48 = .ok (.iconst 2, 1) := by decide +kernel
theorem dX8_term_49 : decode cX8_term 49 = .ok (.iload_n 2, 1) := by decide +kernel
theorem dX8_term_50 : decode cX8_term 50 = .ok (.invokevirtual 261, 3) := by decide +kernel
theorem dX8_term_53 : decode cX8_term 53 = .ok (.goto (-43), 3) := by decide +kernel
theorem dX8_term_56 : decode cX8_term 56 = .ok (.iconst 1, 1) := by decide +kernel
theorem dX8_term_57 : decode cX8_term 57 = .ok (.ireturn, 1) := by decide +kernel
theorem dX8_part0_0 : decode cX8_part0 0 = .ok (.aload_n 0, 1) := by decide +kernel
theorem dX8_part0_1 : decode cX8_part0 1 = .ok (.getfield 220, 3) := by decide +kernel
theorem dX8_part0_4 : decode cX8_part0 4 = .ok (.iconst 2, 1) := by decide +kernel
theorem dX8_part0_5 : decode cX8_part0 5 = .ok (.if_icmp .ne 28, 3) := by decide +kernel
theorem dX8_part0_8 : decode cX8_part0 8 = .ok (.aload_n 0, 1) := by decide +kernel
theorem dX8_part0_9 : decode cX8_part0 9 = .ok (.iconst 0, 1) := by decide +kernel
theorem dX8_part0_10 : decode cX8_part0 10 = .ok (.aload_n 0, 1) := by decide +kernel
theorem dX8_part0_11 : decode cX8_part0 11 = .ok (.getfield 235, 3) := by decide +kernel
theorem dX8_part0_14 : decode cX8_part0 14 = .ok (.invokevirtual 261, 3) := by decide +kernel
theorem dX8_part0_17 : decode cX8_part0 17 = .ok (.aload_n 0, 1) := by decide +kernel
theorem dX8_part0_18 : decode cX8_part0 18 = .ok (.dup, 1) := by decide +kernel
theorem dX8_part0_19 : decode cX8_part0 19 = .ok (.getfield 276, 3) := by decide +kernel
theorem dX8_part0_22 : decode cX8_part0 22 = .ok (.iconst 1, 1) := by decide +kernel
theorem dX8_part0_23 : decode cX8_part0 23 = .ok (.iadd, 1) := by decide +kernel
theorem dX8_part0_24 : decode cX8_part0 24 = .ok (.putfield 276, 3) := by decide +kernel
theorem dX8_part0_27 : decode cX8_part0 27 = .ok (.aload_n 0, 1) := by decide +kernel
theorem dX8_part0_28 : decode cX8_part0 28 = .ok (.invokevirtual 258, 3) := by decide +kernel
theorem dX8_part0_31 : decode cX8_part0 31 = .ok (.iconst 1, 1) := by decide +kernel
theorem dX8_part0_32 : decode cX8_part0 32 = .ok (.ireturn, 1) := by decide +kernel
theorem dX8_part0_33 : decode cX8_part0 33 = .ok (.aload_n 0, 1) := by decide +kernel
theorem dX8_part0_34 : decode cX8_part0 34 = .ok (.getfield 220, 3) := by decide +kernel
theorem dX8_part0_37 : decode cX8_part0 37 = .ok (.iconst 1, 1) := by decide +kernel
theorem dX8_part0_38 : decode cX8_part0 38 = .ok (.if_icmp .ne 46, 3) := by decide +kernel
theorem dX8_part0_41 : decode cX8_part0 41 = .ok (.aload_n 0, 1) := by decide +kernel
theorem dX8_part0_42 : decode cX8_part0 42 = .ok (.getfield 229, 3) := by decide +kernel
theorem dX8_part0_45 : decode cX8_part0 45 = .ok (.ifCond .eq 39, 3) := by decide +kernel
theorem dX8_part0_48 : decode cX8_part0 48 = .ok (.iload_n 1, 1) := by decide +kernel
theorem dX8_part0_49 : decode cX8_part0 49 = .ok (.aload_n 0, 1) := by decide +kernel
theorem dX8_part0_50 : decode cX8_part0 50 = .ok (.getfield 229, 3) := by decide +kernel
theorem dX8_part0_53 : decode cX8_part0 53 = .ok (.invokestatic 279, 3) := by decide +kernel
theorem dX8_part0_56 : decode cX8_part0 56 = .ok (.ifCond .eq 28, 3) := by decide +kernel
theorem dX8_part0_59 : decode cX8_part0 59 = .ok (.aload_n 0, 1) := by decide +kernel
theorem dX8_part0_60 : decode cX8_part0 60 = .ok (.iconst 1, 1) := by decide +kernel
theorem dX8_part0_61 : decode cX8_part0 61 = .ok (.aload_n 0, 1) := by decide +kernel
theorem dX8_part0_62 : decode cX8_part0 62 = .ok (.getfield 229, 3) := by decide +kernel
theorem dX8_part0_65 : decode cX8_part0 65 = .ok (.invokevirtual 261, 3) := by decide +kernel
theorem dX8_part0_68 : decode cX8_part0 68 = .ok (.aload_n 0, 1) := by decide +kernel
theorem dX8_part0_69 : decode cX8_part0 69 = .ok (.dup, 1) := by decide +kernel
theorem dX8_part0_70 : decode cX8_part0 70 = .ok (.getfield 276, 3) := by decide +kernel
theorem dX8_part0_73 : decode cX8_part0 73 = .ok (.iconst 1, 1) := by decide +kernel
theorem dX8_part0_74 : decode cX8_part0 74 = .ok (.iadd, 1) := by decide +kernel
theorem dX8_part0_75 : decode cX8_part0 75 = .ok (.putfield 276, 3) := by decide +kernel
theorem dX8_part0_78 : decode cX8_part0 78 = .ok (.aload_n 0, 1) := by decide +kernel
theorem dX8_part0_79 : decode cX8_part0 79 = .ok (.invokevirtual 258, 3) := by decide +kernel
theorem dX8_part0_82 : decode cX8_part0 82 = .ok (.iconst 1, 1) := by decide +kernel
theorem dX8_part0_83 : decode cX8_part0 83 = .ok (.ireturn, 1) := by decide +kernel
theorem dX8_part0_84 : decode cX8_part0 84 = .ok (.aload_n 0, 1) := by decide +kernel
theorem dX8_part0_85 : decode cX8_part0 85 = .ok (.bipush 33, 2) := by decide +kernel
theorem dX8_part0_87 : decode cX8_part0 87 = .ok (.invokevirtual 255, 3) := by decide +kernel
theorem dX8_part0_90 : decode cX8_part0 90 = .ok (.ifCond .eq 55, 3) := by decide +kernel
theorem dX8_part0_93 : decode cX8_part0 93 = .ok (.aload_n 0, 1) := by decide +kernel
theorem dX8_part0_94 : decode cX8_part0 94 = .ok (.getfield 282, 3) := by decide +kernel
theorem dX8_part0_97 : decode cX8_part0 97 = .ok (.bipush 8, 2) := by decide +kernel
theorem dX8_part0_99 : decode cX8_part0 99 = .ok (.if_icmp .ge 46, 3) := by decide +kernel
theorem dX8_part0_102 : decode cX8_part0 102 = .ok (.aload_n 0, 1) := by decide +kernel
theorem dX8_part0_103 : decode cX8_part0 103 = .ok (.dup, 1) := by decide +kernel
theorem dX8_part0_104 : decode cX8_part0 104 = .ok (.getfield 282, 3) := by decide +kernel
theorem dX8_part0_107 : decode cX8_part0 107 = .ok (.iconst 1, 1) := by decide +kernel
theorem dX8_part0_108 : decode cX8_part0 108 = .ok (.iadd, 1) := by decide +kernel
theorem dX8_part0_109 : decode cX8_part0 109 = .ok (.putfield 282, 3) := by decide +kernel
theorem dX8_part0_112 : decode cX8_part0 112 = .ok (.aload_n 0, 1) := by decide +kernel
theorem dX8_part0_113 : decode cX8_part0 113 = .ok (.invokevirtual 258, 3) := by decide +kernel
theorem dX8_part0_116 : decode cX8_part0 116 = .ok (.aload_n 0, 1) := by decide +kernel
theorem dX8_part0_117 : decode cX8_part0 117 = .ok (.iload_n 1, 1) := by decide +kernel
theorem dX8_part0_118 : decode cX8_part0 118 = .ok (.invokevirtual 273, 3) := by decide +kernel
theorem dX8_part0_121 : decode cX8_part0 121 = .ok (.ifCond .ne 5, 3) := by decide +kernel
theorem dX8_part0_124 : decode cX8_part0 124 = .ok (.iconst 0, 1) := by decide +kernel
theorem dX8_part0_125 : decode cX8_part0 125 = .ok (.ireturn, 1) := by decide +kernel
theorem dX8_part0_126 : decode cX8_part0 126 = .ok (.aload_n 0, 1) := by decide +kernel
theorem dX8_part0_127 : decode cX8_part0 127 = .ok (.dup, 1) := by decide +kernel
theorem dX8_part0_128 : decode cX8_part0 128 = .ok (.getfield 282, 3) := by decide +kernel
theorem dX8_part0_131 : decode cX8_part0 131 = .ok (.iconst 1, 1) := by decide +kernel
theorem dX8_part0_132 : decode cX8_part0 132 = .ok (.isub, 1) := by decide +kernel
theorem dX8_part0_133 : decode cX8_part0 133 = .ok (.putfield 282, 3) := by decide +kernel
theorem dX8_part0_136 : decode cX8_part0 136 = .ok (.aload_n 0, 1) := by decide +kernel
theorem dX8_part0_137 : decode cX8_part0 137 = .ok (.iconst 2, 1) := by decide +kernel
theorem dX8_part0_138 : decode cX8_part0 138 = .ok (.bipush 33, 2) := by decide +kernel
theorem dX8_part0_140 : decode cX8_part0 140 = .ok (.invokevirtual 261, 3) := by decide +kernel
theorem dX8_part0_143 : decode cX8_part0 143 = .ok (.iconst 1, 1) := by decide +kernel
theorem dX8_part0_144 : decode cX8_part0 144 = .ok (.ireturn, 1) := by decide +kernel
theorem dX8_part0_145 : decode cX8_part0 145 = .ok (.aload_n 0, 1) := by decide +kernel
theorem dX8_part0_146 : decode cX8_part0 146 = .ok (.bipush 40, 2) := by decide +kernel
theorem dX8_part0_148 : decode cX8_part0 148 = .ok (.invokevirtual 255, 3) := by decide +kernel
theorem dX8_part0_151 : decode cX8_part0 151 = .ok (.ifCond .eq 12, 3) := by decide +kernel
theorem dX8_part0_154 : decode cX8_part0 154 = .ok (.aload_n 0, 1) := by decide +kernel
theorem dX8_part0_155 : decode cX8_part0 155 = .ok (.getfield 285, 3) := by decide +kernel
theorem dX8_part0_158 : decode cX8_part0 158 = .ok (.bipush 8, 2) := by decide +kernel
theorem dX8_part0_160 : decode cX8_part0 160 = .ok (.if_icmp .ne 5, 3) := by decide +kernel
theorem dX8_part0_163 : decode cX8_part0 163 = .ok (.iconst 0, 1) := by decide +kernel
theorem dX8_part0_164 : decode cX8_part0 164 = .ok (.ireturn, 1) := by decide +kernel
theorem dX8_part0_165 : decode cX8_part0 165 = .ok (.aload_n 0, 1) := by decide +kernel
theorem dX8_part0_166 : decode cX8_part0 166 = .ok (.dup, 1) := by decide +kernel
theorem dX8_part0_167 : decode cX8_part0 167 = .ok (.getfield 285, 3) := by decide +kernel
theorem dX8_part0_170 : decode cX8_part0 170 = .ok (.iconst 1, 1) := by decide +kernel
theorem dX8_part0_171 : decode cX8_part0 171 = .ok (.iadd, 1) := by decide +kernel
theorem dX8_part0_172 : decode cX8_part0 172 = .ok (.putfield 285, 3) := by decide +kernel
theorem dX8_part0_175 : decode cX8_part0 175 = .ok (.aload_n 0, 1) := by decide +kernel
theorem dX8_part0_176 : decode cX8_part0 176 = .ok (.invokevirtual 258, 3) := by decide +kernel
theorem dX8_part0_179 : decode cX8_part0 179 = .ok (.aload_n 0, 1) := by decide +kernel
theorem dX8_part0_180 : decode cX8_part0 180 = .ok (.iload_n 1, 1) := by decide +kernel
theorem dX8_part0_181 : decode cX8_part0 181 = .ok (.invokevirtual 288, 3) := by decide +kernel
theorem dX8_part0_184 : decode cX8_part0 184 = .ok (.ifCond .eq 12, 3) := by decide +kernel
theorem dX8_part0_187 : decode cX8_part0 187 = .ok (.aload_n 0, 1) := by decide +kernel
theorem dX8_part0_188 : decode cX8_part0 188 = .ok (.bipush 41, 2) := by decide +kernel
theorem dX8_part0_190 : decode cX8_part0 190 = .ok (.invokevirtual 255, 3) := by decide +kernel
theorem dX8_part0_193 : decode cX8_part0 193 = .ok (.ifCond .ne 5, 3) := by decide +kernel
theorem dX8_part0_196 : decode cX8_part0 196 = .ok (.iconst 0, 1) := by decide +kernel
theorem dX8_part0_197 : decode cX8_part0 197 = .ok (.ireturn, 1) := by decide +kernel
theorem dX8_part0_198 : decode cX8_part0 198 = .ok (.aload_n 0, 1) := by decide +kernel
theorem dX8_part0_199 : decode cX8_part0 199 = .ok (.dup, 1) := by decide +kernel
theorem dX8_part0_200 : decode cX8_part0 200 = .ok (.getfield 285, 3) := by decide +kernel
theorem dX8_part0_203 : decode cX8_part0 203 = .ok (.iconst 1, 1) := by decide +kernel
theorem dX8_part0_204 : decode cX8_part0 204 = .ok (.isub, 1) := by decide +kernel
theorem dX8_part0_205 : decode cX8_part0 205 = .ok (.putfield 285, 3) := by decide +kernel
theorem dX8_part0_208 : decode cX8_part0 208 = .ok (.aload_n 0, 1) := by decide +kernel
theorem dX8_part0_209 : decode cX8_part0 209 = .ok (.invokevirtual 258, 3) := by decide +kernel
theorem dX8_part0_212 : decode cX8_part0 212 = .ok (.iconst 1, 1) := by decide +kernel
theorem dX8_part0_213 : decode cX8_part0 213 = .ok (.ireturn, 1) := by decide +kernel
theorem dX8_parse_0 : decode cX8_parse 0 = .ok (.aload_n 0, 1) := by decide +kernel
theorem dX8_parse_1 : decode cX8_parse 1 = .ok (.iconst 0, 1) := by decide +kernel
theorem dX8_parse_2 : decode cX8_parse 2 = .ok (.putfield 217, 3) := by decide +kernel
theorem dX8_parse_5 : decode cX8_parse 5 = .ok (.aload_n 0, 1) := by decide +kernel
theorem dX8_parse_6 : decode cX8_parse 6 = .ok (.iconst 3, 1) := by decide +kernel
theorem dX8_parse_7 : decode cX8_parse 7 = .ok (.putfield 220, 3) := by decide +kernel
theorem dX8_parse_10 : decode cX8_parse 10 = .ok (.aload_n 0, 1) := by decide +kernel
theorem dX8_parse_11 : decode cX8_parse 11 = .ok (.iconst 0, 1) := by decide +kernel
theorem dX8_parse_12 : decode cX8_parse 12 = .ok (.putfield 285, 3) := by decide +kernel
theorem dX8_parse_15 : decode cX8_parse 15 = .ok (.aload_n 0, 1) := by decide +kernel
theorem dX8_parse_16 : decode cX8_parse 16 = .ok (.iconst 0, 1) := by decide +kernel
theorem dX8_parse_17 : decode cX8_parse 17 = .ok (.putfield 282, 3) := by decide +kernel
theorem dX8_parse_20 : decode cX8_parse 20 = .ok (.aload_n 0, 1) := by decide +kernel
theorem dX8_parse_21 : decode cX8_parse 21 = .ok (.iconst 0, 1) := by decide +kernel
theorem dX8_parse_22 : decode cX8_parse 22 = .ok (.putfield 249, 3) := by decide +kernel
theorem dX8_parse_25 : decode cX8_parse 25 = .ok (.aload_n 0, 1) := by decide +kernel
theorem dX8_parse_26 : decode cX8_parse 26 = .ok (.iconst 0, 1) := by decide +kernel
theorem dX8_parse_27 : decode cX8_parse 27 = .ok (.putfield 276, 3) := by decide +kernel
theorem dX8_parse_30 : decode cX8_parse 30 = .ok (.aload_n 0, 1) := by decide +kernel
theorem dX8_parse_31 : decode cX8_parse 31 = .ok (.aload_n 0, 1) := by decide +kernel
theorem dX8_parse_32 : decode cX8_parse 32 = .ok (.getfield 7, 3) := by decide +kernel
theorem dX8_parse_35 : decode cX8_parse 35 = .ok (.iconst 1, 1) := by decide +kernel
theorem dX8_parse_36 : decode cX8_parse 36 = .ok (.iaload, 1) := by decide +kernel
theorem dX8_parse_37 : decode cX8_parse 37 = .ok (.bipush 14, 2) := by decide +kernel
theorem dX8_parse_39 : decode cX8_parse 39 = .ok (.if_icmp .ge 18, 3) := by decide +kernel
theorem dX8_parse_42 : decode cX8_parse 42 = .ok (.aload_n 0, 1) := by decide +kernel
theorem dX8_parse_43 : decode cX8_parse 43 = .ok (.aload_n 0, 1) := by decide +kernel
theorem dX8_parse_44 : decode cX8_parse 44 = .ok (.getfield 7, 3) := by decide +kernel
theorem dX8_parse_47 : decode cX8_parse 47 = .ok (.iconst 1, 1) := by decide +kernel
theorem dX8_parse_48 : decode cX8_parse 48 = .ok (.iaload, 1) := by decide +kernel
theorem dX8_parse_49 : decode cX8_parse 49 = .ok (.invokevirtual 291, 3) := by decide +kernel
theorem dX8_parse_52 : decode cX8_parse 52 = .ok (.iconst 4, 1) := by decide +kernel
theorem dX8_parse_53 : decode cX8_parse 53 = .ok (.iadd, 1) := by decide +kernel
theorem dX8_parse_54 : decode cX8_parse 54 = .ok (.goto 6, 3) := by decide +kernel
theorem dX8_parse_57 : decode cX8_parse 57 = .ok (.sipush 2908, 3) := by decide +kernel
theorem dX8_parse_60 : decode cX8_parse 60 = .ok (.putfield 246, 3) := by decide +kernel
theorem dX8_parse_63 : decode cX8_parse 63 = .ok (.aload_n 0, 1) := by decide +kernel
theorem dX8_parse_64 : decode cX8_parse 64 = .ok (.invokevirtual 258, 3) := by decide +kernel
theorem dX8_parse_67 : decode cX8_parse 67 = .ok (.aload_n 0, 1) := by decide +kernel
theorem dX8_parse_68 : decode cX8_parse 68 = .ok (.invokevirtual 294, 3) := by decide +kernel
theorem dX8_parse_71 : decode cX8_parse 71 = .ok (.istore_n 1, 1) := by decide +kernel
theorem dX8_parse_72 : decode cX8_parse 72 = .ok (.iload_n 1, 1) := by decide +kernel
theorem dX8_parse_73 : decode cX8_parse 73 = .ok (.ifCond .lt 7, 3) := by decide +kernel
theorem dX8_parse_76 : decode cX8_parse 76 = .ok (.iconst 1, 1) := by decide +kernel
theorem dX8_parse_77 : decode cX8_parse 77 = .ok (.goto 4, 3) := by decide +kernel
theorem dX8_parse_80 : decode cX8_parse 80 = .ok (.iconst 0, 1) := by decide +kernel
theorem dX8_parse_81 : decode cX8_parse 81 = .ok (.istore_n 2, 1) := by decide +kernel
theorem dX8_parse_82 : decode cX8_parse 82 = .ok (.iload_n 2, 1) := by decide +kernel
theorem dX8_parse_83 : decode cX8_parse 83 = .ok (.ifCond .eq 28, 3) := by decide +kernel
theorem dX8_parse_86 : decode cX8_parse 86 = .ok (.aload_n 0, 1) := by decide +kernel
theorem dX8_parse_87 : decode cX8_parse 87 = .ok (.invokevirtual 258, 3) := by decide +kernel
theorem dX8_parse_90 : decode cX8_parse 90 = .ok (.aload_n 0, 1) := by decide +kernel
theorem dX8_parse_91 : decode cX8_parse 91 = .ok (.iload_n 1, 1) := by decide +kernel
theorem dX8_parse_92 : decode cX8_parse 92 = .ok (.invokevirtual 288, 3) := by decide +kernel
theorem dX8_parse_95 : decode cX8_parse 95 = .ok (.ifCond .eq 14, 3) := by decide +kernel
theorem dX8_parse_98 : decode cX8_parse 98 = .ok (.aload_n 0, 1) := by decide +kernel
theorem dX8_parse_99 : decode cX8_parse 99 = .ok (.getfield 220, 3) := by decide +kernel
theorem dX8_parse_102 : decode cX8_parse 102 = .ok (.ifCond .ne 7, 3) := by decide +kernel
theorem dX8_parse_105 : decode cX8_parse 105 = .ok (.iconst 1, 1) := by decide +kernel
theorem dX8_parse_106 : decode cX8_parse 106 = .ok (.goto 4, 3) := by decide +kernel
theorem dX8_parse_109 : decode cX8_parse 109 = .ok (.iconst 0, 1) := by decide +kernel
theorem dX8_parse_110 : decode cX8_parse 110 = .ok (.istore_n 2, 1) := by decide +kernel
theorem dX8_parse_111 : decode cX8_parse 111 = .ok (.aload_n 0, 1) := by decide +kernel
theorem dX8_parse_112 : decode cX8_parse 112 = .ok (.iconst 0, 1) := by decide +kernel
theorem dX8_parse_113 : decode cX8_parse 113 = .ok (.putfield 206, 3) := by decide +kernel
theorem dX8_parse_116 : decode cX8_parse 116 = .ok (.iload_n 2, 1) := by decide +kernel
theorem dX8_parse_117 : decode cX8_parse 117 = .ok (.ifCond .eq 7, 3) := by decide +kernel
theorem dX8_parse_120 : decode cX8_parse 120 = .ok (.iload_n 1, 1) := by decide +kernel
theorem dX8_parse_121 : decode cX8_parse 121 = .ok (.goto 4, 3) := by decide +kernel
theorem dX8_parse_124 : decode cX8_parse 124 = .ok (.iconst (-1), 1) := by decide +kernel
theorem dX8_parse_125 : decode cX8_parse 125 = .ok (.ireturn, 1) := by decide +kernel
theorem dX8_text_0 : decode cX8_text 0 = .ok (.aload_n 0, 1) := by decide +kernel
theorem dX8_text_1 : decode cX8_text 1 = .ok (.invokevirtual 297, 3) := by decide +kernel
theorem dX8_text_4 : decode cX8_text 4 = .ok (.istore_n 1, 1) := by decide +kernel
theorem dX8_text_5 : decode cX8_text 5 = .ok (.iload_n 1, 1) := by decide +kernel
theorem dX8_text_6 : decode cX8_text 6 = .ok (.ifCond .ge 11, 3) := by decide +kernel
theorem dX8_text_9 : decode cX8_text 9 = .ok (.bipush (-100), 2) := by decide +kernel
theorem dX8_text_11 : decode cX8_text 11 = .ok (.aload_n 0, 1) := by decide +kernel
theorem dX8_text_12 : decode cX8_text 12 = .ok (.getfield 223, 3) := by decide +kernel
theorem dX8_text_15 : decode cX8_text 15 = .ok (.isub, 1) := by decide +kernel
theorem dX8_text_16 : decode cX8_text 16 = .ok (.ireturn, 1) := by decide +kernel
theorem dX8_text_17 : decode cX8_text 17 = .ok (.aload_n 0, 1) := by decide +kernel
theorem dX8_text_18 : decode cX8_text 18 = .ok (.getfield 7, 3) := by decide +kernel
theorem dX8_text_21 : decode cX8_text 21 = .ok (.iconst 1, 1) := by decide +kernel
theorem dX8_text_22 : decode cX8_text 22 = .ok (.iaload, 1) := by decide +kernel
theorem dX8_text_23 : decode cX8_text 23 = .ok (.bipush 14, 2) := by decide +kernel
theorem dX8_text_25 : decode cX8_text 25 = .ok (.if_icmp .ne 6, 3) := by decide +kernel
theorem dX8_text_28 : decode cX8_text 28 = .ok (.ldc 86, 2) := by decide +kernel
theorem dX8_text_30 : decode cX8_text 30 = .ok (.ireturn, 1) := by decide +kernel
theorem dX8_text_31 : decode cX8_text 31 = .ok (.aload_n 0, 1) := by decide +kernel
theorem dX8_text_32 : decode cX8_text 32 = .ok (.aload_n 0, 1) := by decide +kernel
theorem dX8_text_33 : decode cX8_text 33 = .ok (.getfield 7, 3) := by decide +kernel
theorem dX8_text_36 : decode cX8_text 36 = .ok (.iconst 1, 1) := by decide +kernel
theorem dX8_text_37 : decode cX8_text 37 = .ok (.iaload, 1) := by decide +kernel
theorem dX8_text_38 : decode cX8_text 38 = .ok (.invokevirtual 291, 3) := by decide +kernel
theorem dX8_text_41 : decode cX8_text 41 = .ok (.istore_n 2, 1) := by decide +kernel
theorem dX8_text_42 : decode cX8_text 42 = .ok (.aload_n 0, 1) := by decide +kernel
theorem dX8_text_43 : decode cX8_text 43 = .ok (.getfield 7, 3) := by decide +kernel
theorem dX8_text_46 : decode cX8_text 46 = .ok (.iload_n 2, 1) := by decide +kernel
theorem dX8_text_47 : decode cX8_text 47 = .ok (.iconst 0, 1) := by decide +kernel
theorem dX8_text_48 : decode cX8_text 48 = .ok (.iadd, 1) := by decide +kernel
theorem dX8_text_49 : decode cX8_text 49 = .ok (.iload_n 1, 1) := by decide +kernel
theorem dX8_text_50 : decode cX8_text 50 = .ok (.iastore, 1) := by decide +kernel
theorem dX8_text_51 : decode cX8_text 51 = .ok (.aload_n 0, 1) := by decide +kernel
theorem dX8_text_52 : decode cX8_text 52 = .ok (.getfield 7, 3) := by decide +kernel
theorem dX8_text_55 : decode cX8_text 55 = .ok (.iload_n 2, 1) := by decide +kernel
theorem dX8_text_56 : decode cX8_text 56 = .ok (.iconst 1, 1) := by decide +kernel
theorem dX8_text_57 : decode cX8_text 57 = .ok (.iadd, 1) := by decide +kernel
theorem dX8_text_58 : decode cX8_text 58 = .ok (.aload_n 0, 1) := by decide +kernel
theorem dX8_text_59 : decode cX8_text 59 = .ok (.getfield 276, 3) := by decide +kernel
theorem dX8_text_62 : decode cX8_text 62 = .ok (.iastore, 1) := by decide +kernel
theorem dX8_text_63 : decode cX8_text 63 = .ok (.aload_n 0, 1) := by decide +kernel
theorem dX8_text_64 : decode cX8_text 64 = .ok (.getfield 7, 3) := by decide +kernel
theorem dX8_text_67 : decode cX8_text 67 = .ok (.iload_n 2, 1) := by decide +kernel
theorem dX8_text_68 : decode cX8_text 68 = .ok (.iconst 2, 1) := by decide +kernel
theorem dX8_text_69 : decode cX8_text 69 = .ok (.iadd, 1) := by decide +kernel
theorem dX8_text_70 : decode cX8_text 70 = .ok (.aload_n 0, 1) := by decide +kernel
theorem dX8_text_71 : decode cX8_text 71 = .ok (.getfield 249, 3) := by decide +kernel
theorem dX8_text_74 : decode cX8_text 74 = .ok (.iastore, 1) := by decide +kernel
theorem dX8_text_75 : decode cX8_text 75 = .ok (.aload_n 0, 1) := by decide +kernel
theorem dX8_text_76 : decode cX8_text 76 = .ok (.getfield 7, 3) := by decide +kernel
theorem dX8_text_79 : decode cX8_text 79 = .ok (.iconst 1, 1) := by decide +kernel
theorem dX8_text_80 : decode cX8_text 80 = .ok (.dup2, 1) := by decide +kernel
theorem dX8_text_81 : decode cX8_text 81 = .ok (.iaload, 1) := by decide +kernel
theorem dX8_text_82 : decode cX8_text 82 = .ok (.iconst 1, 1) := by decide +kernel
theorem dX8_text_83 : decode cX8_text 83 = .ok (.iadd, 1) := by decide +kernel
theorem dX8_text_84 : decode cX8_text 84 = .ok (.iastore, 1) := by decide +kernel
theorem dX8_text_85 : decode cX8_text 85 = .ok (.aload_n 0, 1) := by decide +kernel
theorem dX8_text_86 : decode cX8_text 86 = .ok (.getfield 7, 3) := by decide +kernel
theorem dX8_text_89 : decode cX8_text 89 = .ok (.iconst 1, 1) := by decide +kernel
theorem dX8_text_90 : decode cX8_text 90 = .ok (.iaload, 1) := by decide +kernel
theorem dX8_text_91 : decode cX8_text 91 = .ok (.iconst 1, 1) := by decide +kernel
theorem dX8_text_92 : decode cX8_text 92 = .ok (.isub, 1) := by decide +kernel
theorem dX8_text_93 : decode cX8_text 93 = .ok (.ireturn, 1) := by decide +kernel
theorem dX8_textTold_0 : decode cX8_textTold 0 = .ok (.aload_n 0, 1) := by decide +kernel
theorem dX8_textTold_1 : decode cX8_textTold 1 = .ok (.iload_n 1, 1) := by decide +kernel
theorem dX8_textTold_2 : decode cX8_textTold 2 = .ok (.invokevirtual 300, 3) := by decide +kernel
theorem dX8_textTold_5 : decode cX8_textTold 5 = .ok (.ifCond .eq 13, 3) := by decide +kernel
theorem dX8_textTold_8 : decode cX8_textTold 8 = .ok (.iload_n 2, 1) := by decide +kernel
theorem dX8_textTold_9 : decode cX8_textTold 9 = .ok (.i2l, 1) := by decide +kernel
theorem dX8_textTold_10 : decode cX8_textTold 10 = .ok (.lconst 0, 1) := by decide +kernel
theorem dX8_textTold_11 : decode cX8_textTold 11 = .ok (.lconst 1, 1) := by decide +kernel
theorem dX8_textTold_12 : decode cX8_textTold 12 = .ok (.invokestatic 72, 3) := by decide +kernel
theorem dX8_textTold_15 : decode cX8_textTold 15 = .ok (.ifCond .ne 6, 3) := by decide +kernel
theorem dX8_textTold_18 : decode cX8_textTold 18 = .ok (.ldc 85, 2) := by decide +kernel
theorem dX8_textTold_20 : decode cX8_textTold 20 = .ok (.ireturn, 1) := by decide +kernel
theorem dX8_textTold_21 : decode cX8_textTold 21 = .ok (.aload_n 0, 1) := by decide +kernel
theorem dX8_textTold_22 : decode cX8_textTold 22 = .ok (.getfield 7, 3) := by decide +kernel
theorem dX8_textTold_25 : decode cX8_textTold 25 = .ok (.aload_n 0, 1) := by decide +kernel
theorem dX8_textTold_26 : decode cX8_textTold 26 = .ok (.iload_n 1, 1) := by decide +kernel
theorem dX8_textTold_27 : decode cX8_textTold 27 = .ok (.invokevirtual 291, 3) := by decide +kernel
theorem dX8_textTold_30 : decode cX8_textTold 30 = .ok (.iload_n 2, 1) := by decide +kernel
theorem dX8_textTold_31 : decode cX8_textTold 31 = .ok (.iadd, 1) := by decide +kernel
theorem dX8_textTold_32 : decode cX8_textTold 32 = .ok (.iaload, 1) := by decide +kernel
theorem dX8_textTold_33 : decode cX8_textTold 33 = .ok (.ireturn, 1) := by decide +kernel
theorem dX8_counts_0 : decode cX8_counts 0 = .ok (.iconst (-1), 1) := by decide +kernel
theorem dX8_counts_1 : decode cX8_counts 1 = .ok (.istore_n 2, 1) := by decide +kernel
theorem dX8_counts_2 : decode cX8_counts 2 = .ok (.iconst 0, 1) := by decide +kernel
theorem dX8_counts_3 : decode cX8_counts 3 = .ok (.istore_n 3, 1) := by decide +kernel
theorem dX8_counts_4 : decode cX8_counts 4 = .ok (.iload_n 3, 1) := by decide +kernel
theorem dX8_counts_5 : decode cX8_counts 5 = .ok (.aload_n 0, 1) := by decide +kernel
theorem dX8_counts_6 : decode cX8_counts 6 = .ok (.getfield 7, 3) := by decide +kernel
theorem dX8_counts_9 : decode cX8_counts 9 = .ok (.iconst 1, 1) := by decide +kernel
theorem dX8_counts_10 : decode cX8_counts 10 = .ok (.iaload, 1) := by decide +kernel
theorem dX8_counts_11 : decode cX8_counts 11 = .ok (.if_icmp .ge 29, 3) := by decide +kernel
theorem dX8_counts_14 : decode cX8_counts 14 = .ok (.aload_n 0, 1) := by decide +kernel
theorem dX8_counts_15 : decode cX8_counts 15 = .ok (.getfield 7, 3) := by decide +kernel
theorem dX8_counts_18 : decode cX8_counts 18 = .ok (.aload_n 0, 1) := by decide +kernel
theorem dX8_counts_19 : decode cX8_counts 19 = .ok (.iload_n 3, 1) := by decide +kernel
theorem dX8_counts_20 : decode cX8_counts 20 = .ok (.invokevirtual 291, 3) := by decide +kernel
theorem dX8_counts_23 : decode cX8_counts 23 = .ok (.iaload, 1) := by decide +kernel
theorem dX8_counts_24 : decode cX8_counts 24 = .ok (.iload_n 1, 1) := by decide +kernel
theorem dX8_counts_25 : decode cX8_counts 25 = .ok (.if_icmp .ne 7, 3) := by decide +kernel
theorem dX8_counts_28 : decode cX8_counts 28 = .ok (.iload_n 3, 1) := by decide +kernel
theorem dX8_counts_29 : decode cX8_counts 29 = .ok (.goto 4, 3) := by decide +kernel
theorem dX8_counts_32 : decode cX8_counts 32 = .ok (.iload_n 2, 1) := by decide +kernel
theorem dX8_counts_33 : decode cX8_counts 33 = .ok (.istore_n 2, 1) := by decide +kernel
theorem dX8_counts_34 : decode cX8_counts 34 = .ok (.iinc 3 1, 3) := by decide +kernel
theorem dX8_counts_37 : decode cX8_counts 37 = .ok (.goto (-33), 3) := by decide +kernel
theorem dX8_counts_40 : decode cX8_counts 40 = .ok (.iload_n 2, 1) := by decide +kernel
theorem dX8_counts_41 : decode cX8_counts 41 = .ok (.ireturn, 1) := by decide +kernel
theorem dX8_why_0 : decode cX8_why 0 = .ok (.iload_n 1, 1) := by decide +kernel
theorem dX8_why_1 : decode cX8_why 1 = .ok (.i2l, 1) := by decide +kernel
theorem dX8_why_2 : decode cX8_why 2 = .ok (.lconst 0, 1) := by decide +kernel
theorem dX8_why_3 : decode cX8_why 3 = .ok (.ldc2_w 303, 3) := by decide +kernel
theorem dX8_why_6 : decode cX8_why 6 = .ok (.invokestatic 72, 3) := by decide +kernel
theorem dX8_why_9 : decode cX8_why 9 = .ok (.ifCond .eq 14, 3) := by decide +kernel
theorem dX8_why_12 : decode cX8_why 12 = .ok (.aload_n 0, 1) := by decide +kernel
theorem dX8_why_13 : decode cX8_why 13 = .ok (.iload_n 1, 1) := by decide +kernel
theorem dX8_why_14 : decode cX8_why 14 = .ok (.invokevirtual 95, 3) := by decide +kernel
theorem dX8_why_17 : decode cX8_why 17 = .ok (.invokestatic 203, 3) := by decide +kernel
theorem dX8_why_20 : decode cX8_why 20 = .ok (.goto 5, 3) := by decide +kernel
theorem dX8_why_23 : decode cX8_why 23 = .ok (.ldc 85, 2) := by decide +kernel
theorem dX8_why_25 : decode cX8_why 25 = .ok (.ireturn, 1) := by decide +kernel
theorem dX8_joined_0 : decode cX8_joined 0 = .ok (.iload_n 0, 1) := by decide +kernel
theorem dX8_joined_1 : decode cX8_joined 1 = .ok (.tableswitch 196 38 62 #[182, 196, 196, 196, 123, 115, 196, 119, 196, 127, 196, 196, 196, 196, 196, 196, 196, 196, 196, 196, 196, 196, 149, 171, 160], 115) := by decide +kernel
theorem dX8_joined_116 : decode cX8_joined 116 = .ok (.iload_n 1, 1) := by decide +kernel
theorem dX8_joined_117 : decode cX8_joined 117 = .ok (.iload_n 2, 1) := by decide +kernel
theorem dX8_joined_118 : decode cX8_joined 118 = .ok (.iadd, 1) := by decide +kernel
theorem dX8_joined_119 : decode cX8_joined 119 = .ok (.ireturn, 1) := by decide +kernel
theorem dX8_joined_120 : decode cX8_joined 120 = .ok (.iload_n 1, 1) := by decide +kernel
theorem dX8_joined_121 : decode cX8_joined 121 = .ok (.iload_n 2, 1) := by decide +kernel
theorem dX8_joined_122 : decode cX8_joined 122 = .ok (.isub, 1) := by decide +kernel
theorem dX8_joined_123 : decode cX8_joined 123 = .ok (.ireturn, 1) := by decide +kernel
theorem dX8_joined_124 : decode cX8_joined 124 = .ok (.iload_n 1, 1) := by decide +kernel
theorem dX8_joined_125 : decode cX8_joined 125 = .ok (.iload_n 2, 1) := by decide +kernel
theorem dX8_joined_126 : decode cX8_joined 126 = .ok (.imul, 1) := by decide +kernel
theorem dX8_joined_127 : decode cX8_joined 127 = .ok (.ireturn, 1) := by decide +kernel
theorem dX8_joined_128 : decode cX8_joined 128 = .ok (.iload_n 2, 1) := by decide +kernel
theorem dX8_joined_129 : decode cX8_joined 129 = .ok (.ifCond .ne 7, 3) := by decide +kernel
theorem dX8_joined_132 : decode cX8_joined 132 = .ok (.iconst 0, 1) := by decide +kernel
theorem dX8_joined_133 : decode cX8_joined 133 = .ok (.goto 16, 3) := by decide +kernel
theorem dX8_joined_136 : decode cX8_joined 136 = .ok (.iload_n 2, 1) := by decide +kernel
theorem dX8_joined_137 : decode cX8_joined 137 = .ok (.iconst (-1), 1) := by decide +kernel
theorem dX8_joined_138 : decode cX8_joined 138 = .ok (.if_icmp .ne 8, 3) := by decide +kernel
theorem dX8_joined_141 : decode cX8_joined 141 = .ok (.iload_n 1, 1) := by decide +kernel
theorem dX8_joined_142 : decode cX8_joined 142 = .ok (.ineg, 1) := by decide +kernel
theorem dX8_joined_143 : decode cX8_joined 143 = .ok (.goto 6, 3) := by decide +kernel
theorem dX8_joined_146 : decode cX8_joined 146 = .ok (.iload_n 1, 1) := by decide +kernel
theorem dX8_joined_147 : decode cX8_joined 147 = .ok (.iload_n 2, 1) := by decide +kernel
theorem dX8_joined_148 : decode cX8_joined 148 = .ok (.idiv, 1) := by decide +kernel
theorem dX8_joined_149 : decode cX8_joined 149 = .ok (.ireturn, 1) := by decide +kernel
theorem dX8_joined_150 : decode cX8_joined 150 = .ok (.iload_n 1, 1) := by decide +kernel
theorem dX8_joined_151 : decode cX8_joined 151 = .ok (.iload_n 2, 1) := by decide +kernel
theorem dX8_joined_152 : decode cX8_joined 152 = .ok (.if_icmp .ge 7, 3) := by decide +kernel
theorem dX8_joined_155 : decode cX8_joined 155 = .ok (.iconst 1, 1) := by decide +kernel
theorem dX8_joined_156 : decode cX8_joined 156 = .ok (.goto 4, 3) := by decide +kernel
theorem dX8_joined_159 : decode cX8_joined 159 = .ok (.iconst 0, 1) := by decide +kernel
theorem dX8_joined_160 : decode cX8_joined 160 = .ok (.ireturn, 1) := by decide +kernel
theorem dX8_joined_161 : decode cX8_joined 161 = .ok (.iload_n 1, 1) := by decide +kernel
theorem dX8_joined_162 : decode cX8_joined 162 = .ok (.iload_n 2, 1) := by decide +kernel
theorem dX8_joined_163 : decode cX8_joined 163 = .ok (.if_icmp .le 7, 3) := by decide +kernel
theorem dX8_joined_166 : decode cX8_joined 166 = .ok (.iconst 1, 1) := by decide +kernel
theorem dX8_joined_167 : decode cX8_joined 167 = .ok (.goto 4, 3) := by decide +kernel
theorem dX8_joined_170 : decode cX8_joined 170 = .ok (.iconst 0, 1) := by decide +kernel
theorem dX8_joined_171 : decode cX8_joined 171 = .ok (.ireturn, 1) := by decide +kernel
theorem dX8_joined_172 : decode cX8_joined 172 = .ok (.iload_n 1, 1) := by decide +kernel
theorem dX8_joined_173 : decode cX8_joined 173 = .ok (.iload_n 2, 1) := by decide +kernel
theorem dX8_joined_174 : decode cX8_joined 174 = .ok (.if_icmp .ne 7, 3) := by decide +kernel
theorem dX8_joined_177 : decode cX8_joined 177 = .ok (.iconst 1, 1) := by decide +kernel
theorem dX8_joined_178 : decode cX8_joined 178 = .ok (.goto 4, 3) := by decide +kernel
theorem dX8_joined_181 : decode cX8_joined 181 = .ok (.iconst 0, 1) := by decide +kernel
theorem dX8_joined_182 : decode cX8_joined 182 = .ok (.ireturn, 1) := by decide +kernel
theorem dX8_joined_183 : decode cX8_joined 183 = .ok (.iload_n 1, 1) := by decide +kernel
theorem dX8_joined_184 : decode cX8_joined 184 = .ok (.ifCond .eq 11, 3) := by decide +kernel
theorem dX8_joined_187 : decode cX8_joined 187 = .ok (.iload_n 2, 1) := by decide +kernel
theorem dX8_joined_188 : decode cX8_joined 188 = .ok (.ifCond .eq 7, 3) := by decide +kernel
theorem dX8_joined_191 : decode cX8_joined 191 = .ok (.iconst 1, 1) := by decide +kernel
theorem dX8_joined_192 : decode cX8_joined 192 = .ok (.goto 4, 3) := by decide +kernel
theorem dX8_joined_195 : decode cX8_joined 195 = .ok (.iconst 0, 1) := by decide +kernel
theorem dX8_joined_196 : decode cX8_joined 196 = .ok (.ireturn, 1) := by decide +kernel
theorem dX8_joined_197 : decode cX8_joined 197 = .ok (.iload_n 1, 1) := by decide +kernel
theorem dX8_joined_198 : decode cX8_joined 198 = .ok (.ifCond .ne 7, 3) := by decide +kernel
theorem dX8_joined_201 : decode cX8_joined 201 = .ok (.iload_n 2, 1) := by decide +kernel
theorem dX8_joined_202 : decode cX8_joined 202 = .ok (.ifCond .eq 7, 3) := by decide +kernel
theorem dX8_joined_205 : decode cX8_joined 205 = .ok (.iconst 1, 1) := by decide +kernel
theorem dX8_joined_206 : decode cX8_joined 206 = .ok (.goto 4, 3) := by decide +kernel
theorem dX8_joined_209 : decode cX8_joined 209 = .ok (.iconst 0, 1) := by decide +kernel
theorem dX8_joined_210 : decode cX8_joined 210 = .ok (.ireturn, 1) := by decide +kernel
theorem dX8_worked_0 : decode cX8_worked 0 = .ok (.iconst 0, 1) := by decide +kernel
theorem dX8_worked_1 : decode cX8_worked 1 = .ok (.istore_n 2, 1) := by decide +kernel
theorem dX8_worked_2 : decode cX8_worked 2 = .ok (.iconst 0, 1) := by decide +kernel
theorem dX8_worked_3 : decode cX8_worked 3 = .ok (.istore_n 3, 1) := by decide +kernel
theorem dX8_worked_4 : decode cX8_worked 4 = .ok (.iload_n 3, 1) := by decide +kernel
theorem dX8_worked_5 : decode cX8_worked 5 = .ok (.aload_n 0, 1) := by decide +kernel
theorem dX8_worked_6 : decode cX8_worked 6 = .ok (.getfield 7, 3) := by decide +kernel
theorem dX8_worked_9 : decode cX8_worked 9 = .ok (.aload_n 0, 1) := by decide +kernel
theorem dX8_worked_10 : decode cX8_worked 10 = .ok (.iload_n 1, 1) := by decide +kernel
theorem dX8_worked_11 : decode cX8_worked 11 = .ok (.invokevirtual 291, 3) := by decide +kernel
theorem dX8_worked_14 : decode cX8_worked 14 = .ok (.iconst 2, 1) := by decide +kernel
theorem dX8_worked_15 : decode cX8_worked 15 = .ok (.iadd, 1) := by decide +kernel
theorem dX8_worked_16 : decode cX8_worked 16 = .ok (.iaload, 1) := by decide +kernel
theorem dX8_worked_17 : decode cX8_worked 17 = .ok (.if_icmp .ge 146, 3) := by decide +kernel
theorem dX8_worked_20 : decode cX8_worked 20 = .ok (.aload_n 0, 1) := by decide +kernel
theorem dX8_worked_21 : decode cX8_worked 21 = .ok (.getfield 7, 3) := by decide +kernel
theorem dX8_worked_24 : decode cX8_worked 24 = .ok (.aload_n 0, 1) := by decide +kernel
theorem dX8_worked_25 : decode cX8_worked 25 = .ok (.iload_n 1, 1) := by decide +kernel
theorem dX8_worked_26 : decode cX8_worked 26 = .ok (.invokevirtual 291, 3) := by decide +kernel
theorem dX8_worked_29 : decode cX8_worked 29 = .ok (.iconst 4, 1) := by decide +kernel
theorem dX8_worked_30 : decode cX8_worked 30 = .ok (.iadd, 1) := by decide +kernel
theorem dX8_worked_31 : decode cX8_worked 31 = .ok (.iconst 2, 1) := by decide +kernel
theorem dX8_worked_32 : decode cX8_worked 32 = .ok (.iload_n 3, 1) := by decide +kernel
theorem dX8_worked_33 : decode cX8_worked 33 = .ok (.imul, 1) := by decide +kernel
theorem dX8_worked_34 : decode cX8_worked 34 = .ok (.iadd, 1) := by decide +kernel
theorem dX8_worked_35 : decode cX8_worked 35 = .ok (.iaload, 1) := by decide +kernel
theorem dX8_worked_36 : decode cX8_worked 36 = .ok (.istore 4, 2) := by decide +kernel
theorem dX8_worked_38 : decode cX8_worked 38 = .ok (.aload_n 0, 1) := by decide +kernel
theorem dX8_worked_39 : decode cX8_worked 39 = .ok (.getfield 7, 3) := by decide +kernel
theorem dX8_worked_42 : decode cX8_worked 42 = .ok (.aload_n 0, 1) := by decide +kernel
theorem dX8_worked_43 : decode cX8_worked 43 = .ok (.iload_n 1, 1) := by decide +kernel
theorem dX8_worked_44 : decode cX8_worked 44 = .ok (.invokevirtual 291, 3) := by decide +kernel
theorem dX8_worked_47 : decode cX8_worked 47 = .ok (.iconst 4, 1) := by decide +kernel
theorem dX8_worked_48 : decode cX8_worked 48 = .ok (.iadd, 1) := by decide +kernel
theorem dX8_worked_49 : decode cX8_worked 49 = .ok (.iconst 2, 1) := by decide +kernel
theorem dX8_worked_50 : decode cX8_worked 50 = .ok (.iload_n 3, 1) := by decide +kernel
theorem dX8_worked_51 : decode cX8_worked 51 = .ok (.imul, 1) := by decide +kernel
theorem dX8_worked_52 : decode cX8_worked 52 = .ok (.iadd, 1) := by decide +kernel
theorem dX8_worked_53 : decode cX8_worked 53 = .ok (.iconst 1, 1) := by decide +kernel
theorem dX8_worked_54 : decode cX8_worked 54 = .ok (.iadd, 1) := by decide +kernel
theorem dX8_worked_55 : decode cX8_worked 55 = .ok (.iaload, 1) := by decide +kernel
theorem dX8_worked_56 : decode cX8_worked 56 = .ok (.istore 5, 2) := by decide +kernel
theorem dX8_worked_58 : decode cX8_worked 58 = .ok (.iload 4, 2) := by decide +kernel
theorem dX8_worked_60 : decode cX8_worked 60 = .ok (.iconst 2, 1) := by decide +kernel
theorem dX8_worked_61 : decode cX8_worked 61 = .ok (.if_icmp .eq 32, 3) := by decide +kernel
theorem dX8_worked_64 : decode cX8_worked 64 = .ok (.aload_n 0, 1) := by decide +kernel
theorem dX8_worked_65 : decode cX8_worked 65 = .ok (.getfield 59, 3) := by decide +kernel
theorem dX8_worked_68 : decode cX8_worked 68 = .ok (.iload_n 2, 1) := by decide +kernel
theorem dX8_worked_69 : decode cX8_worked 69 = .ok (.iload 4, 2) := by decide +kernel
theorem dX8_worked_71 : decode cX8_worked 71 = .ok (.ifCond .ne 8, 3) := by decide +kernel
theorem dX8_worked_74 : decode cX8_worked 74 = .ok (.iload 5, 2) := by decide +kernel
theorem dX8_worked_76 : decode cX8_worked 76 = .ok (.goto 10, 3) := by decide +kernel
theorem dX8_worked_79 : decode cX8_worked 79 = .ok (.aload_n 0, 1) := by decide +kernel
theorem dX8_worked_80 : decode cX8_worked 80 = .ok (.getfield 56, 3) := by decide +kernel
theorem dX8_worked_83 : decode cX8_worked 83 = .ok (.iload 5, 2) := by decide +kernel
theorem dX8_worked_85 : decode cX8_worked 85 = .ok (.iaload, 1) := by decide +kernel
theorem dX8_worked_86 : decode cX8_worked 86 = .ok (.iastore, 1) := by decide +kernel
theorem dX8_worked_87 : decode cX8_worked 87 = .ok (.iinc 2 1, 3) := by decide +kernel
theorem dX8_worked_90 : decode cX8_worked 90 = .ok (.goto 67, 3) := by decide +kernel
theorem dX8_worked_93 : decode cX8_worked 93 = .ok (.iload 5, 2) := by decide +kernel
theorem dX8_worked_95 : decode cX8_worked 95 = .ok (.bipush 33, 2) := by decide +kernel
theorem dX8_worked_97 : decode cX8_worked 97 = .ok (.if_icmp .ne 30, 3) := by decide +kernel
theorem dX8_worked_100 : decode cX8_worked 100 = .ok (.aload_n 0, 1) := by decide +kernel
theorem dX8_worked_101 : decode cX8_worked 101 = .ok (.getfield 59, 3) := by decide +kernel
theorem dX8_worked_104 : decode cX8_worked 104 = .ok (.iload_n 2, 1) := by decide +kernel
theorem dX8_worked_105 : decode cX8_worked 105 = .ok (.iconst 1, 1) := by decide +kernel
theorem dX8_worked_106 : decode cX8_worked 106 = .ok (.isub, 1) := by decide +kernel
theorem dX8_worked_107 : decode cX8_worked 107 = .ok (.aload_n 0, 1) := by decide +kernel
theorem dX8_worked_108 : decode cX8_worked 108 = .ok (.getfield 59, 3) := by decide +kernel
theorem dX8_worked_111 : decode cX8_worked 111 = .ok (.iload_n 2, 1) := by decide +kernel
theorem dX8_worked_112 : decode cX8_worked 112 = .ok (.iconst 1, 1) := by decide +kernel
theorem dX8_worked_113 : decode cX8_worked 113 = .ok (.isub, 1) := by decide +kernel
theorem dX8_worked_114 : decode cX8_worked 114 = .ok (.iaload, 1) := by decide +kernel
theorem dX8_worked_115 : decode cX8_worked 115 = .ok (.ifCond .ne 7, 3) := by decide +kernel
theorem dX8_worked_118 : decode cX8_worked 118 = .ok (.iconst 1, 1) := by decide +kernel
theorem dX8_worked_119 : decode cX8_worked 119 = .ok (.goto 4, 3) := by decide +kernel
theorem dX8_worked_122 : decode cX8_worked 122 = .ok (.iconst 0, 1) := by decide +kernel
theorem dX8_worked_123 : decode cX8_worked 123 = .ok (.iastore, 1) := by decide +kernel
theorem dX8_worked_124 : decode cX8_worked 124 = .ok (.goto 33, 3) := by decide +kernel
theorem dX8_worked_127 : decode cX8_worked 127 = .ok (.iinc 2 (-1), 3) := by decide +kernel
theorem dX8_worked_130 : decode cX8_worked 130 = .ok (.aload_n 0, 1) := by decide +kernel
theorem dX8_worked_131 : decode cX8_worked 131 = .ok (.getfield 59, 3) := by decide +kernel
theorem dX8_worked_134 : decode cX8_worked 134 = .ok (.iload_n 2, 1) := by decide +kernel
theorem dX8_worked_135 : decode cX8_worked 135 = .ok (.iconst 1, 1) := by decide +kernel
theorem dX8_worked_136 : decode cX8_worked 136 = .ok (.isub, 1) := by decide +kernel
theorem dX8_worked_137 : decode cX8_worked 137 = .ok (.iload 5, 2) := by decide +kernel
theorem dX8_worked_139 : decode cX8_worked 139 = .ok (.aload_n 0, 1) := by decide +kernel
theorem dX8_worked_140 : decode cX8_worked 140 = .ok (.getfield 59, 3) := by decide +kernel
theorem dX8_worked_143 : decode cX8_worked 143 = .ok (.iload_n 2, 1) := by decide +kernel
theorem dX8_worked_144 : decode cX8_worked 144 = .ok (.iconst 1, 1) := by decide +kernel
theorem dX8_worked_145 : decode cX8_worked 145 = .ok (.isub, 1) := by decide +kernel
theorem dX8_worked_146 : decode cX8_worked 146 = .ok (.iaload, 1) := by decide +kernel
theorem dX8_worked_147 : decode cX8_worked 147 = .ok (.aload_n 0, 1) := by decide +kernel
theorem dX8_worked_148 : decode cX8_worked 148 = .ok (.getfield 59, 3) := by decide +kernel
theorem dX8_worked_151 : decode cX8_worked 151 = .ok (.iload_n 2, 1) := by decide +kernel
theorem dX8_worked_152 : decode cX8_worked 152 = .ok (.iaload, 1) := by decide +kernel
theorem dX8_worked_153 : decode cX8_worked 153 = .ok (.invokestatic 305, 3) := by decide +kernel
theorem dX8_worked_156 : decode cX8_worked 156 = .ok (.iastore, 1) := by decide +kernel
theorem dX8_worked_157 : decode cX8_worked 157 = .ok (.iinc 3 1, 3) := by decide +kernel
theorem dX8_worked_160 : decode cX8_worked 160 = .ok (.goto (-156), 3) := by decide +kernel
theorem dX8_worked_163 : decode cX8_worked 163 = .ok (.aload_n 0, 1) := by decide +kernel
theorem dX8_worked_164 : decode cX8_worked 164 = .ok (.getfield 59, 3) := by decide +kernel
theorem dX8_worked_167 : decode cX8_worked 167 = .ok (.iconst 0, 1) := by decide +kernel
theorem dX8_worked_168 : decode cX8_worked 168 = .ok (.iaload, 1) := by decide +kernel
theorem dX8_worked_169 : decode cX8_worked 169 = .ok (.ireturn, 1) := by decide +kernel
theorem dX8_isSheet_0 : decode cX8_isSheet 0 = .ok (.iload_n 0, 1) := by decide +kernel
theorem dX8_isSheet_1 : decode cX8_isSheet 1 = .ok (.i2l, 1) := by decide +kernel
theorem dX8_isSheet_2 : decode cX8_isSheet 2 = .ok (.lconst 0, 1) := by decide +kernel
theorem dX8_isSheet_3 : decode cX8_isSheet 3 = .ok (.ldc2_w 188, 3) := by decide +kernel
theorem dX8_isSheet_6 : decode cX8_isSheet 6 = .ok (.invokestatic 72, 3) := by decide +kernel
theorem dX8_isSheet_9 : decode cX8_isSheet 9 = .ok (.ireturn, 1) := by decide +kernel
theorem dX8_sheet_0 : decode cX8_sheet 0 = .ok (.iload_n 1, 1) := by decide +kernel
theorem dX8_sheet_1 : decode cX8_sheet 1 = .ok (.invokestatic 309, 3) := by decide +kernel
theorem dX8_sheet_4 : decode cX8_sheet 4 = .ok (.ifCond .eq 25, 3) := by decide +kernel
theorem dX8_sheet_7 : decode cX8_sheet 7 = .ok (.iload_n 2, 1) := by decide +kernel
theorem dX8_sheet_8 : decode cX8_sheet 8 = .ok (.i2l, 1) := by decide +kernel
theorem dX8_sheet_9 : decode cX8_sheet 9 = .ok (.ldc2_w 312, 3) := by decide +kernel
theorem dX8_sheet_12 : decode cX8_sheet 12 = .ok (.lconst 1, 1) := by decide +kernel
theorem dX8_sheet_13 : decode cX8_sheet 13 = .ok (.invokestatic 72, 3) := by decide +kernel
theorem dX8_sheet_16 : decode cX8_sheet 16 = .ok (.ifCond .eq 13, 3) := by decide +kernel
theorem dX8_sheet_19 : decode cX8_sheet 19 = .ok (.iload_n 2, 1) := by decide +kernel
theorem dX8_sheet_20 : decode cX8_sheet 20 = .ok (.ifCond .lt 12, 3) := by decide +kernel
theorem dX8_sheet_23 : decode cX8_sheet 23 = .ok (.iload_n 3, 1) := by decide +kernel
theorem dX8_sheet_24 : decode cX8_sheet 24 = .ok (.bipush 24, 2) := by decide +kernel
theorem dX8_sheet_26 : decode cX8_sheet 26 = .ok (.if_icmp .le 6, 3) := by decide +kernel
theorem dX8_sheet_29 : decode cX8_sheet 29 = .ok (.ldc 85, 2) := by decide +kernel
theorem dX8_sheet_31 : decode cX8_sheet 31 = .ok (.ireturn, 1) := by decide +kernel
theorem dX8_sheet_32 : decode cX8_sheet 32 = .ok (.iload_n 2, 1) := by decide +kernel
theorem dX8_sheet_33 : decode cX8_sheet 33 = .ok (.ifCond .lt 11, 3) := by decide +kernel
theorem dX8_sheet_36 : decode cX8_sheet 36 = .ok (.iload_n 3, 1) := by decide +kernel
theorem dX8_sheet_37 : decode cX8_sheet 37 = .ok (.ifCond .ge 7, 3) := by decide +kernel
theorem dX8_sheet_40 : decode cX8_sheet 40 = .ok (.ldc_w 314, 3) := by decide +kernel
theorem dX8_sheet_43 : decode cX8_sheet 43 = .ok (.ireturn, 1) := by decide +kernel
theorem dX8_sheet_44 : decode cX8_sheet 44 = .ok (.aload_n 0, 1) := by decide +kernel
theorem dX8_sheet_45 : decode cX8_sheet 45 = .ok (.getfield 19, 3) := by decide +kernel
theorem dX8_sheet_48 : decode cX8_sheet 48 = .ok (.iload_n 1, 1) := by decide +kernel
theorem dX8_sheet_49 : decode cX8_sheet 49 = .ok (.iload_n 2, 1) := by decide +kernel
theorem dX8_sheet_50 : decode cX8_sheet 50 = .ok (.iastore, 1) := by decide +kernel
theorem dX8_sheet_51 : decode cX8_sheet 51 = .ok (.aload_n 0, 1) := by decide +kernel
theorem dX8_sheet_52 : decode cX8_sheet 52 = .ok (.getfield 22, 3) := by decide +kernel
theorem dX8_sheet_55 : decode cX8_sheet 55 = .ok (.iload_n 1, 1) := by decide +kernel
theorem dX8_sheet_56 : decode cX8_sheet 56 = .ok (.iload_n 2, 1) := by decide +kernel
theorem dX8_sheet_57 : decode cX8_sheet 57 = .ok (.ifCond .ge 7, 3) := by decide +kernel
theorem dX8_sheet_60 : decode cX8_sheet 60 = .ok (.iconst 0, 1) := by decide +kernel
theorem dX8_sheet_61 : decode cX8_sheet 61 = .ok (.goto 4, 3) := by decide +kernel
theorem dX8_sheet_64 : decode cX8_sheet 64 = .ok (.iload_n 3, 1) := by decide +kernel
theorem dX8_sheet_65 : decode cX8_sheet 65 = .ok (.iastore, 1) := by decide +kernel
theorem dX8_sheet_66 : decode cX8_sheet 66 = .ok (.iconst 0, 1) := by decide +kernel
theorem dX8_sheet_67 : decode cX8_sheet 67 = .ok (.istore 4, 2) := by decide +kernel
theorem dX8_sheet_69 : decode cX8_sheet 69 = .ok (.iload 4, 2) := by decide +kernel
theorem dX8_sheet_71 : decode cX8_sheet 71 = .ok (.bipush 24, 2) := by decide +kernel
theorem dX8_sheet_73 : decode cX8_sheet 73 = .ok (.if_icmp .ge 22, 3) := by decide +kernel
theorem dX8_sheet_76 : decode cX8_sheet 76 = .ok (.aload_n 0, 1) := by decide +kernel
theorem dX8_sheet_77 : decode cX8_sheet 77 = .ok (.getfield 25, 3) := by decide +kernel
theorem dX8_sheet_80 : decode cX8_sheet 80 = .ok (.bipush 24, 2) := by decide +kernel
theorem dX8_sheet_82 : decode cX8_sheet 82 = .ok (.iload_n 1, 1) := by decide +kernel
theorem dX8_sheet_83 : decode cX8_sheet 83 = .ok (.imul, 1) := by decide +kernel
theorem dX8_sheet_84 : decode cX8_sheet 84 = .ok (.iload 4, 2) := by decide +kernel
theorem dX8_sheet_86 : decode cX8_sheet 86 = .ok (.iadd, 1) := by decide +kernel
theorem dX8_sheet_87 : decode cX8_sheet 87 = .ok (.iconst 0, 1) := by decide +kernel
theorem dX8_sheet_88 : decode cX8_sheet 88 = .ok (.iastore, 1) := by decide +kernel
theorem dX8_sheet_89 : decode cX8_sheet 89 = .ok (.iinc 4 1, 3) := by decide +kernel
theorem dX8_sheet_92 : decode cX8_sheet 92 = .ok (.goto (-23), 3) := by decide +kernel
theorem dX8_sheet_95 : decode cX8_sheet 95 = .ok (.aload_n 0, 1) := by decide +kernel
theorem dX8_sheet_96 : decode cX8_sheet 96 = .ok (.getfield 22, 3) := by decide +kernel
theorem dX8_sheet_99 : decode cX8_sheet 99 = .ok (.iload_n 1, 1) := by decide +kernel
theorem dX8_sheet_100 : decode cX8_sheet 100 = .ok (.iaload, 1) := by decide +kernel
theorem dX8_sheet_101 : decode cX8_sheet 101 = .ok (.ireturn, 1) := by decide +kernel
theorem dX8_mark_0 : decode cX8_mark 0 = .ok (.iload_n 1, 1) := by decide +kernel
theorem dX8_mark_1 : decode cX8_mark 1 = .ok (.invokestatic 309, 3) := by decide +kernel
theorem dX8_mark_4 : decode cX8_mark 4 = .ok (.ifCond .ne 6, 3) := by decide +kernel
theorem dX8_mark_7 : decode cX8_mark 7 = .ok (.ldc 85, 2) := by decide +kernel
theorem dX8_mark_9 : decode cX8_mark 9 = .ok (.ireturn, 1) := by decide +kernel
theorem dX8_mark_10 : decode cX8_mark 10 = .ok (.aload_n 0, 1) := by decide +kernel
theorem dX8_mark_11 : decode cX8_mark 11 = .ok (.getfield 19, 3) := by decide +kernel
theorem dX8_mark_14 : decode cX8_mark 14 = .ok (.iload_n 1, 1) := by decide +kernel
theorem dX8_mark_15 : decode cX8_mark 15 = .ok (.iaload, 1) := by decide +kernel
theorem dX8_mark_16 : decode cX8_mark 16 = .ok (.ifCond .ge 7, 3) := by decide +kernel
theorem dX8_mark_19 : decode cX8_mark 19 = .ok (.ldc_w 315, 3) := by decide +kernel
theorem dX8_mark_22 : decode cX8_mark 22 = .ok (.ireturn, 1) := by decide +kernel
theorem dX8_mark_23 : decode cX8_mark 23 = .ok (.iload_n 2, 1) := by decide +kernel
theorem dX8_mark_24 : decode cX8_mark 24 = .ok (.i2l, 1) := by decide +kernel
theorem dX8_mark_25 : decode cX8_mark 25 = .ok (.lconst 0, 1) := by decide +kernel
theorem dX8_mark_26 : decode cX8_mark 26 = .ok (.aload_n 0, 1) := by decide +kernel
theorem dX8_mark_27 : decode cX8_mark 27 = .ok (.getfield 22, 3) := by decide +kernel
theorem dX8_mark_30 : decode cX8_mark 30 = .ok (.iload_n 1, 1) := by decide +kernel
theorem dX8_mark_31 : decode cX8_mark 31 = .ok (.iaload, 1) := by decide +kernel
theorem dX8_mark_32 : decode cX8_mark 32 = .ok (.iconst 1, 1) := by decide +kernel
theorem dX8_mark_33 : decode cX8_mark 33 = .ok (.isub, 1) := by decide +kernel
theorem dX8_mark_34 : decode cX8_mark 34 = .ok (.i2l, 1) := by decide +kernel
theorem dX8_mark_35 : decode cX8_mark 35 = .ok (.invokestatic 72, 3) := by decide +kernel
theorem dX8_mark_38 : decode cX8_mark 38 = .ok (.ifCond .ne 7, 3) := by decide +kernel
theorem dX8_mark_41 : decode cX8_mark 41 = .ok (.ldc_w 316, 3) := by decide +kernel
theorem dX8_mark_44 : decode cX8_mark 44 = .ok (.ireturn, 1) := by decide +kernel
theorem dX8_mark_45 : decode cX8_mark 45 = .ok (.aload_n 0, 1) := by decide +kernel
theorem dX8_mark_46 : decode cX8_mark 46 = .ok (.getfield 19, 3) := by decide +kernel
theorem dX8_mark_49 : decode cX8_mark 49 = .ok (.iload_n 1, 1) := by decide +kernel
theorem dX8_mark_50 : decode cX8_mark 50 = .ok (.iaload, 1) := by decide +kernel
theorem dX8_mark_51 : decode cX8_mark 51 = .ok (.ifCond .ne 12, 3) := by decide +kernel
theorem dX8_mark_54 : decode cX8_mark 54 = .ok (.iload_n 3, 1) := by decide +kernel
theorem dX8_mark_55 : decode cX8_mark 55 = .ok (.ldc 71, 2) := by decide +kernel
theorem dX8_mark_57 : decode cX8_mark 57 = .ok (.if_icmp .ne 6, 3) := by decide +kernel
theorem dX8_mark_60 : decode cX8_mark 60 = .ok (.ldc 131, 2) := by decide +kernel
theorem dX8_mark_62 : decode cX8_mark 62 = .ok (.ireturn, 1) := by decide +kernel
theorem dX8_mark_63 : decode cX8_mark 63 = .ok (.aload_n 0, 1) := by decide +kernel
theorem dX8_mark_64 : decode cX8_mark 64 = .ok (.getfield 19, 3) := by decide +kernel
theorem dX8_mark_67 : decode cX8_mark 67 = .ok (.iload_n 1, 1) := by decide +kernel
theorem dX8_mark_68 : decode cX8_mark 68 = .ok (.iaload, 1) := by decide +kernel
theorem dX8_mark_69 : decode cX8_mark 69 = .ok (.iconst 1, 1) := by decide +kernel
theorem dX8_mark_70 : decode cX8_mark 70 = .ok (.if_icmp .ne 26, 3) := by decide +kernel
theorem dX8_mark_73 : decode cX8_mark 73 = .ok (.iload_n 3, 1) := by decide +kernel
theorem dX8_mark_74 : decode cX8_mark 74 = .ok (.ldc 71, 2) := by decide +kernel
theorem dX8_mark_76 : decode cX8_mark 76 = .ok (.if_icmp .eq 20, 3) := by decide +kernel
theorem dX8_mark_79 : decode cX8_mark 79 = .ok (.iload_n 3, 1) := by decide +kernel
theorem dX8_mark_80 : decode cX8_mark 80 = .ok (.i2l, 1) := by decide +kernel
theorem dX8_mark_81 : decode cX8_mark 81 = .ok (.ldc2_w 317, 3) := by decide +kernel
theorem dX8_mark_84 : decode cX8_mark 84 = .ok (.ldc2_w 319, 3) := by decide +kernel
theorem dX8_mark_87 : decode cX8_mark 87 = .ok (.invokestatic 72, 3) := by decide +kernel
theorem dX8_mark_90 : decode cX8_mark 90 = .ok (.ifCond .ne 6, 3) := by decide +kernel
theorem dX8_mark_93 : decode cX8_mark 93 = .ok (.ldc 85, 2) := by decide +kernel
theorem dX8_mark_95 : decode cX8_mark 95 = .ok (.ireturn, 1) := by decide +kernel
theorem dX8_mark_96 : decode cX8_mark 96 = .ok (.aload_n 0, 1) := by decide +kernel
theorem dX8_mark_97 : decode cX8_mark 97 = .ok (.getfield 25, 3) := by decide +kernel
theorem dX8_mark_100 : decode cX8_mark 100 = .ok (.bipush 24, 2) := by decide +kernel
theorem dX8_mark_102 : decode cX8_mark 102 = .ok (.iload_n 1, 1) := by decide +kernel
theorem dX8_mark_103 : decode cX8_mark 103 = .ok (.imul, 1) := by decide +kernel
theorem dX8_mark_104 : decode cX8_mark 104 = .ok (.iload_n 2, 1) := by decide +kernel
theorem dX8_mark_105 : decode cX8_mark 105 = .ok (.iadd, 1) := by decide +kernel
theorem dX8_mark_106 : decode cX8_mark 106 = .ok (.aload_n 0, 1) := by decide +kernel
theorem dX8_mark_107 : decode cX8_mark 107 = .ok (.getfield 19, 3) := by decide +kernel
theorem dX8_mark_110 : decode cX8_mark 110 = .ok (.iload_n 1, 1) := by decide +kernel
theorem dX8_mark_111 : decode cX8_mark 111 = .ok (.iaload, 1) := by decide +kernel
theorem dX8_mark_112 : decode cX8_mark 112 = .ok (.ifCond .ne 13, 3) := by decide +kernel
theorem dX8_mark_115 : decode cX8_mark 115 = .ok (.iload_n 3, 1) := by decide +kernel
theorem dX8_mark_116 : decode cX8_mark 116 = .ok (.bipush 16, 2) := by decide +kernel
theorem dX8_mark_118 : decode cX8_mark 118 = .ok (.ishl, 1) := by decide +kernel
theorem dX8_mark_119 : decode cX8_mark 119 = .ok (.bipush 16, 2) := by decide +kernel
theorem dX8_mark_121 : decode cX8_mark 121 = .ok (.ishr, 1) := by decide +kernel
theorem dX8_mark_122 : decode cX8_mark 122 = .ok (.goto 4, 3) := by decide +kernel
theorem dX8_mark_125 : decode cX8_mark 125 = .ok (.iload_n 3, 1) := by decide +kernel
theorem dX8_mark_126 : decode cX8_mark 126 = .ok (.iastore, 1) := by decide +kernel
theorem dX8_mark_127 : decode cX8_mark 127 = .ok (.iconst 1, 1) := by decide +kernel
theorem dX8_mark_128 : decode cX8_mark 128 = .ok (.ireturn, 1) := by decide +kernel
theorem dX8_pour_0 : decode cX8_pour 0 = .ok (.iload_n 1, 1) := by decide +kernel
theorem dX8_pour_1 : decode cX8_pour 1 = .ok (.invokestatic 309, 3) := by decide +kernel
theorem dX8_pour_4 : decode cX8_pour 4 = .ok (.ifCond .ne 6, 3) := by decide +kernel
theorem dX8_pour_7 : decode cX8_pour 7 = .ok (.ldc 85, 2) := by decide +kernel
theorem dX8_pour_9 : decode cX8_pour 9 = .ok (.ireturn, 1) := by decide +kernel
theorem dX8_pour_10 : decode cX8_pour 10 = .ok (.aload_n 0, 1) := by decide +kernel
theorem dX8_pour_11 : decode cX8_pour 11 = .ok (.getfield 19, 3) := by decide +kernel
theorem dX8_pour_14 : decode cX8_pour 14 = .ok (.iload_n 1, 1) := by decide +kernel
theorem dX8_pour_15 : decode cX8_pour 15 = .ok (.iaload, 1) := by decide +kernel
theorem dX8_pour_16 : decode cX8_pour 16 = .ok (.ifCond .ge 7, 3) := by decide +kernel
theorem dX8_pour_19 : decode cX8_pour 19 = .ok (.ldc_w 315, 3) := by decide +kernel
theorem dX8_pour_22 : decode cX8_pour 22 = .ok (.ireturn, 1) := by decide +kernel
theorem dX8_pour_23 : decode cX8_pour 23 = .ok (.iconst 0, 1) := by decide +kernel
theorem dX8_pour_24 : decode cX8_pour 24 = .ok (.istore_n 2, 1) := by decide +kernel
theorem dX8_pour_25 : decode cX8_pour 25 = .ok (.iconst 0, 1) := by decide +kernel
theorem dX8_pour_26 : decode cX8_pour 26 = .ok (.istore_n 3, 1) := by decide +kernel
theorem dX8_pour_27 : decode cX8_pour 27 = .ok (.iload_n 3, 1) := by decide +kernel
theorem dX8_pour_28 : decode cX8_pour 28 = .ok (.aload_n 0, 1) := by decide +kernel
theorem dX8_pour_29 : decode cX8_pour 29 = .ok (.getfield 22, 3) := by decide +kernel
theorem dX8_pour_32 : decode cX8_pour 32 = .ok (.iload_n 1, 1) := by decide +kernel
theorem dX8_pour_33 : decode cX8_pour 33 = .ok (.iaload, 1) := by decide +kernel
theorem dX8_pour_34 : decode cX8_pour 34 = .ok (.if_icmp .ge 84, 3) := by decide +kernel
theorem dX8_pour_37 : decode cX8_pour 37 = .ok (.iload_n 3, 1) := by decide +kernel
theorem dX8_pour_38 : decode cX8_pour 38 = .ok (.aload_n 0, 1) := by decide +kernel
theorem dX8_pour_39 : decode cX8_pour 39 = .ok (.getfield 7, 3) := by decide +kernel
theorem dX8_pour_42 : decode cX8_pour 42 = .ok (.iconst 0, 1) := by decide +kernel
theorem dX8_pour_43 : decode cX8_pour 43 = .ok (.iaload, 1) := by decide +kernel
theorem dX8_pour_44 : decode cX8_pour 44 = .ok (.if_icmp .ge 74, 3) := by decide +kernel
theorem dX8_pour_47 : decode cX8_pour 47 = .ok (.aload_n 0, 1) := by decide +kernel
theorem dX8_pour_48 : decode cX8_pour 48 = .ok (.getfield 25, 3) := by decide +kernel
theorem dX8_pour_51 : decode cX8_pour 51 = .ok (.bipush 24, 2) := by decide +kernel
theorem dX8_pour_53 : decode cX8_pour 53 = .ok (.iload_n 1, 1) := by decide +kernel
theorem dX8_pour_54 : decode cX8_pour 54 = .ok (.imul, 1) := by decide +kernel
theorem dX8_pour_55 : decode cX8_pour 55 = .ok (.iload_n 3, 1) := by decide +kernel
theorem dX8_pour_56 : decode cX8_pour 56 = .ok (.iadd, 1) := by decide +kernel
theorem dX8_pour_57 : decode cX8_pour 57 = .ok (.iaload, 1) := by decide +kernel
theorem dX8_pour_58 : decode cX8_pour 58 = .ok (.istore 4, 2) := by decide +kernel
theorem dX8_pour_60 : decode cX8_pour 60 = .ok (.aload_n 0, 1) := by decide +kernel
theorem dX8_pour_61 : decode cX8_pour 61 = .ok (.iload_n 3, 1) := by decide +kernel
theorem dX8_pour_62 : decode cX8_pour 62 = .ok (.iconst 3, 1) := by decide +kernel
theorem dX8_pour_63 : decode cX8_pour 63 = .ok (.invokevirtual 91, 3) := by decide +kernel
theorem dX8_pour_66 : decode cX8_pour 66 = .ok (.istore 5, 2) := by decide +kernel
theorem dX8_pour_68 : decode cX8_pour 68 = .ok (.iload 4, 2) := by decide +kernel
theorem dX8_pour_70 : decode cX8_pour 70 = .ok (.ldc 71, 2) := by decide +kernel
theorem dX8_pour_72 : decode cX8_pour 72 = .ok (.if_icmp .ne 8, 3) := by decide +kernel
theorem dX8_pour_75 : decode cX8_pour 75 = .ok (.iload 5, 2) := by decide +kernel
theorem dX8_pour_77 : decode cX8_pour 77 = .ok (.goto 10, 3) := by decide +kernel
theorem dX8_pour_80 : decode cX8_pour 80 = .ok (.iload 4, 2) := by decide +kernel
theorem dX8_pour_82 : decode cX8_pour 82 = .ok (.bipush 9, 2) := by decide +kernel
theorem dX8_pour_84 : decode cX8_pour 84 = .ok (.invokestatic 110, 3) := by decide +kernel
theorem dX8_pour_87 : decode cX8_pour 87 = .ok (.istore 6, 2) := by decide +kernel
theorem dX8_pour_89 : decode cX8_pour 89 = .ok (.aload_n 0, 1) := by decide +kernel
theorem dX8_pour_90 : decode cX8_pour 90 = .ok (.iload_n 3, 1) := by decide +kernel
theorem dX8_pour_91 : decode cX8_pour 91 = .ok (.iconst 3, 1) := by decide +kernel
theorem dX8_pour_92 : decode cX8_pour 92 = .ok (.iload 6, 2) := by decide +kernel
theorem dX8_pour_94 : decode cX8_pour 94 = .ok (.invokevirtual 151, 3) := by decide +kernel
theorem dX8_pour_97 : decode cX8_pour 97 = .ok (.iload_n 2, 1) := by decide +kernel
theorem dX8_pour_98 : decode cX8_pour 98 = .ok (.iload 6, 2) := by decide +kernel
theorem dX8_pour_100 : decode cX8_pour 100 = .ok (.iload 5, 2) := by decide +kernel
theorem dX8_pour_102 : decode cX8_pour 102 = .ok (.if_icmp .ne 7, 3) := by decide +kernel
theorem dX8_pour_105 : decode cX8_pour 105 = .ok (.iconst 0, 1) := by decide +kernel
theorem dX8_pour_106 : decode cX8_pour 106 = .ok (.goto 4, 3) := by decide +kernel
theorem dX8_pour_109 : decode cX8_pour 109 = .ok (.iconst 1, 1) := by decide +kernel
theorem dX8_pour_110 : decode cX8_pour 110 = .ok (.iadd, 1) := by decide +kernel
theorem dX8_pour_111 : decode cX8_pour 111 = .ok (.istore_n 2, 1) := by decide +kernel
theorem dX8_pour_112 : decode cX8_pour 112 = .ok (.iinc 3 1, 3) := by decide +kernel
theorem dX8_pour_115 : decode cX8_pour 115 = .ok (.goto (-88), 3) := by decide +kernel
theorem dX8_pour_118 : decode cX8_pour 118 = .ok (.iload_n 2, 1) := by decide +kernel
theorem dX8_pour_119 : decode cX8_pour 119 = .ok (.ireturn, 1) := by decide +kernel
theorem dX8_waterBehind_0 : decode cX8_waterBehind 0 = .ok (.aload_n 0, 1) := by decide +kernel
theorem dX8_waterBehind_1 : decode cX8_waterBehind 1 = .ok (.getfield 7, 3) := by decide +kernel
theorem dX8_waterBehind_4 : decode cX8_waterBehind 4 = .ok (.iconst 5, 1) := by decide +kernel
theorem dX8_waterBehind_5 : decode cX8_waterBehind 5 = .ok (.iaload, 1) := by decide +kernel
theorem dX8_waterBehind_6 : decode cX8_waterBehind 6 = .ok (.aload_n 0, 1) := by decide +kernel
theorem dX8_waterBehind_7 : decode cX8_waterBehind 7 = .ok (.getfield 7, 3) := by decide +kernel
theorem dX8_waterBehind_10 : decode cX8_waterBehind 10 = .ok (.bipush 8, 2) := by decide +kernel
theorem dX8_waterBehind_12 : decode cX8_waterBehind 12 = .ok (.iaload, 1) := by decide +kernel
theorem dX8_waterBehind_13 : decode cX8_waterBehind 13 = .ok (.iload_n 1, 1) := by decide +kernel
theorem dX8_waterBehind_14 : decode cX8_waterBehind 14 = .ok (.iadd, 1) := by decide +kernel
theorem dX8_waterBehind_15 : decode cX8_waterBehind 15 = .ok (.iload_n 2, 1) := by decide +kernel
theorem dX8_waterBehind_16 : decode cX8_waterBehind 16 = .ok (.idiv, 1) := by decide +kernel
theorem dX8_waterBehind_17 : decode cX8_waterBehind 17 = .ok (.iadd, 1) := by decide +kernel
theorem dX8_waterBehind_18 : decode cX8_waterBehind 18 = .ok (.istore_n 3, 1) := by decide +kernel
theorem dX8_waterBehind_19 : decode cX8_waterBehind 19 = .ok (.iload_n 3, 1) := by decide +kernel
theorem dX8_waterBehind_20 : decode cX8_waterBehind 20 = .ok (.aload_n 0, 1) := by decide +kernel
theorem dX8_waterBehind_21 : decode cX8_waterBehind 21 = .ok (.getfield 7, 3) := by decide +kernel
theorem dX8_waterBehind_24 : decode cX8_waterBehind 24 = .ok (.iconst 4, 1) := by decide +kernel
theorem dX8_waterBehind_25 : decode cX8_waterBehind 25 = .ok (.iaload, 1) := by decide +kernel
theorem dX8_waterBehind_26 : decode cX8_waterBehind 26 = .ok (.if_icmp .le 12, 3) := by decide +kernel
theorem dX8_waterBehind_29 : decode cX8_waterBehind 29 = .ok (.aload_n 0, 1) := by decide +kernel
theorem dX8_waterBehind_30 : decode cX8_waterBehind 30 = .ok (.getfield 7, 3) := by decide +kernel
theorem dX8_waterBehind_33 : decode cX8_waterBehind 33 = .ok (.iconst 4, 1) := by decide +kernel
theorem dX8_waterBehind_34 : decode cX8_waterBehind 34 = .ok (.iaload, 1) := by decide +kernel
theorem dX8_waterBehind_35 : decode cX8_waterBehind 35 = .ok (.goto 4, 3) := by decide +kernel
theorem dX8_waterBehind_38 : decode cX8_waterBehind 38 = .ok (.iload_n 3, 1) := by decide +kernel
theorem dX8_waterBehind_39 : decode cX8_waterBehind 39 = .ok (.istore_n 3, 1) := by decide +kernel
theorem dX8_waterBehind_40 : decode cX8_waterBehind 40 = .ok (.iload_n 3, 1) := by decide +kernel
theorem dX8_waterBehind_41 : decode cX8_waterBehind 41 = .ok (.aload_n 0, 1) := by decide +kernel
theorem dX8_waterBehind_42 : decode cX8_waterBehind 42 = .ok (.getfield 7, 3) := by decide +kernel
theorem dX8_waterBehind_45 : decode cX8_waterBehind 45 = .ok (.iconst 5, 1) := by decide +kernel
theorem dX8_waterBehind_46 : decode cX8_waterBehind 46 = .ok (.iaload, 1) := by decide +kernel
theorem dX8_waterBehind_47 : decode cX8_waterBehind 47 = .ok (.if_icmp .ge 12, 3) := by decide +kernel
theorem dX8_waterBehind_50 : decode cX8_waterBehind 50 = .ok (.aload_n 0, 1) := by decide +kernel
theorem dX8_waterBehind_51 : decode cX8_waterBehind 51 = .ok (.getfield 7, 3) := by decide +kernel
theorem dX8_waterBehind_54 : decode cX8_waterBehind 54 = .ok (.iconst 5, 1) := by decide +kernel
theorem dX8_waterBehind_55 : decode cX8_waterBehind 55 = .ok (.iaload, 1) := by decide +kernel
theorem dX8_waterBehind_56 : decode cX8_waterBehind 56 = .ok (.goto 4, 3) := by decide +kernel
theorem dX8_waterBehind_59 : decode cX8_waterBehind 59 = .ok (.iload_n 3, 1) := by decide +kernel
theorem dX8_waterBehind_60 : decode cX8_waterBehind 60 = .ok (.ireturn, 1) := by decide +kernel
theorem dX8_explained_0 : decode cX8_explained 0 = .ok (.iload_n 1, 1) := by decide +kernel
theorem dX8_explained_1 : decode cX8_explained 1 = .ok (.invokestatic 309, 3) := by decide +kernel
theorem dX8_explained_4 : decode cX8_explained 4 = .ok (.ifCond .eq 13, 3) := by decide +kernel
theorem dX8_explained_7 : decode cX8_explained 7 = .ok (.iload_n 2, 1) := by decide +kernel
theorem dX8_explained_8 : decode cX8_explained 8 = .ok (.i2l, 1) := by decide +kernel
theorem dX8_explained_9 : decode cX8_explained 9 = .ok (.lconst 0, 1) := by decide +kernel
theorem dX8_explained_10 : decode cX8_explained 10 = .ok (.lconst 1, 1) := by decide +kernel
theorem dX8_explained_11 : decode cX8_explained 11 = .ok (.invokestatic 72, 3) := by decide +kernel
theorem dX8_explained_14 : decode cX8_explained 14 = .ok (.ifCond .ne 6, 3) := by decide +kernel
theorem dX8_explained_17 : decode cX8_explained 17 = .ok (.ldc 85, 2) := by decide +kernel
theorem dX8_explained_19 : decode cX8_explained 19 = .ok (.ireturn, 1) := by decide +kernel
theorem dX8_explained_20 : decode cX8_explained 20 = .ok (.aload_n 0, 1) := by decide +kernel
theorem dX8_explained_21 : decode cX8_explained 21 = .ok (.getfield 19, 3) := by decide +kernel
theorem dX8_explained_24 : decode cX8_explained 24 = .ok (.iload_n 1, 1) := by decide +kernel
theorem dX8_explained_25 : decode cX8_explained 25 = .ok (.iaload, 1) := by decide +kernel
theorem dX8_explained_26 : decode cX8_explained 26 = .ok (.ifCond .ge 7, 3) := by decide +kernel
theorem dX8_explained_29 : decode cX8_explained 29 = .ok (.ldc_w 315, 3) := by decide +kernel
theorem dX8_explained_32 : decode cX8_explained 32 = .ok (.ireturn, 1) := by decide +kernel
theorem dX8_explained_33 : decode cX8_explained 33 = .ok (.iconst 0, 1) := by decide +kernel
theorem dX8_explained_34 : decode cX8_explained 34 = .ok (.istore_n 3, 1) := by decide +kernel
theorem dX8_explained_35 : decode cX8_explained 35 = .ok (.iconst 0, 1) := by decide +kernel
theorem dX8_explained_36 : decode cX8_explained 36 = .ok (.istore 4, 2) := by decide +kernel
theorem dX8_explained_38 : decode cX8_explained 38 = .ok (.iconst 1, 1) := by decide +kernel
theorem dX8_explained_39 : decode cX8_explained 39 = .ok (.istore 5, 2) := by decide +kernel
theorem dX8_explained_41 : decode cX8_explained 41 = .ok (.iload 5, 2) := by decide +kernel
theorem dX8_explained_43 : decode cX8_explained 43 = .ok (.bipush 60, 2) := by decide +kernel
theorem dX8_explained_45 : decode cX8_explained 45 = .ok (.if_icmp .gt 109, 3) := by decide +kernel
theorem dX8_explained_48 : decode cX8_explained 48 = .ok (.iconst 0, 1) := by decide +kernel
theorem dX8_explained_49 : decode cX8_explained 49 = .ok (.istore 6, 2) := by decide +kernel
theorem dX8_explained_51 : decode cX8_explained 51 = .ok (.iconst 0, 1) := by decide +kernel
theorem dX8_explained_52 : decode cX8_explained 52 = .ok (.istore 7, 2) := by decide +kernel
theorem dX8_explained_54 : decode cX8_explained 54 = .ok (.iload 7, 2) := by decide +kernel
theorem dX8_explained_56 : decode cX8_explained 56 = .ok (.aload_n 0, 1) := by decide +kernel
theorem dX8_explained_57 : decode cX8_explained 57 = .ok (.getfield 22, 3) := by decide +kernel
theorem dX8_explained_60 : decode cX8_explained 60 = .ok (.iload_n 1, 1) := by decide +kernel
theorem dX8_explained_61 : decode cX8_explained 61 = .ok (.iaload, 1) := by decide +kernel
theorem dX8_explained_62 : decode cX8_explained 62 = .ok (.if_icmp .ge 68, 3) := by decide +kernel
theorem dX8_explained_65 : decode cX8_explained 65 = .ok (.aload_n 0, 1) := by decide +kernel
theorem dX8_explained_66 : decode cX8_explained 66 = .ok (.getfield 25, 3) := by decide +kernel
theorem dX8_explained_69 : decode cX8_explained 69 = .ok (.bipush 24, 2) := by decide +kernel
theorem dX8_explained_71 : decode cX8_explained 71 = .ok (.iload_n 1, 1) := by decide +kernel
theorem dX8_explained_72 : decode cX8_explained 72 = .ok (.imul, 1) := by decide +kernel
theorem dX8_explained_73 : decode cX8_explained 73 = .ok (.iload 7, 2) := by decide +kernel
theorem dX8_explained_75 : decode cX8_explained 75 = .ok (.iadd, 1) := by decide +kernel
theorem dX8_explained_76 : decode cX8_explained 76 = .ok (.iaload, 1) := by decide +kernel
theorem dX8_explained_77 : decode cX8_explained 77 = .ok (.istore 8, 2) := by decide +kernel
theorem dX8_explained_79 : decode cX8_explained 79 = .ok (.iload 8, 2) := by decide +kernel
theorem dX8_explained_81 : decode cX8_explained 81 = .ok (.ldc 71, 2) := by decide +kernel
theorem dX8_explained_83 : decode cX8_explained 83 = .ok (.if_icmp .ne 7, 3) := by decide +kernel
theorem dX8_explained_86 : decode cX8_explained 86 = .ok (.iconst 0, 1) := by decide +kernel
theorem dX8_explained_87 : decode cX8_explained 87 = .ok (.goto 17, 3) := by decide +kernel
theorem dX8_explained_90 : decode cX8_explained 90 = .ok (.iload 8, 2) := by decide +kernel
theorem dX8_explained_92 : decode cX8_explained 92 = .ok (.aload_n 0, 1) := by decide +kernel
theorem dX8_explained_93 : decode cX8_explained 93 = .ok (.bipush 10, 2) := by decide +kernel
theorem dX8_explained_95 : decode cX8_explained 95 = .ok (.iload 7, 2) := by decide +kernel
theorem dX8_explained_97 : decode cX8_explained 97 = .ok (.imul, 1) := by decide +kernel
theorem dX8_explained_98 : decode cX8_explained 98 = .ok (.iload 5, 2) := by decide +kernel
theorem dX8_explained_100 : decode cX8_explained 100 = .ok (.invokevirtual 321, 3) := by decide +kernel
theorem dX8_explained_103 : decode cX8_explained 103 = .ok (.isub, 1) := by decide +kernel
theorem dX8_explained_104 : decode cX8_explained 104 = .ok (.istore 9, 2) := by decide +kernel
theorem dX8_explained_106 : decode cX8_explained 106 = .ok (.iload 6, 2) := by decide +kernel
theorem dX8_explained_108 : decode cX8_explained 108 = .ok (.iload 9, 2) := by decide +kernel
theorem dX8_explained_110 : decode cX8_explained 110 = .ok (.ifCond .ge 9, 3) := by decide +kernel
theorem dX8_explained_113 : decode cX8_explained 113 = .ok (.iload 9, 2) := by decide +kernel
theorem dX8_explained_115 : decode cX8_explained 115 = .ok (.ineg, 1) := by decide +kernel
theorem dX8_explained_116 : decode cX8_explained 116 = .ok (.goto 5, 3) := by decide +kernel
theorem dX8_explained_119 : decode cX8_explained 119 = .ok (.iload 9, 2) := by decide +kernel
theorem dX8_explained_121 : decode cX8_explained 121 = .ok (.iadd, 1) := by decide +kernel
theorem dX8_explained_122 : decode cX8_explained 122 = .ok (.istore 6, 2) := by decide +kernel
theorem dX8_explained_124 : decode cX8_explained 124 = .ok (.iinc 7 1, 3) := by decide +kernel
theorem dX8_explained_127 : decode cX8_explained 127 = .ok (.goto (-73), 3) := by decide +kernel
theorem dX8_explained_130 : decode cX8_explained 130 = .ok (.iload_n 3, 1) := by decide +kernel
theorem dX8_explained_131 : decode cX8_explained 131 = .ok (.ifCond .eq 10, 3) := by decide +kernel
theorem dX8_explained_134 : decode cX8_explained 134 = .ok (.iload 6, 2) := by decide +kernel
theorem dX8_explained_136 : decode cX8_explained 136 = .ok (.iload 4, 2) := by decide +kernel
theorem dX8_explained_138 : decode cX8_explained 138 = .ok (.if_icmp .ge 10, 3) := by decide +kernel
theorem dX8_explained_141 : decode cX8_explained 141 = .ok (.iload 5, 2) := by decide +kernel
theorem dX8_explained_143 : decode cX8_explained 143 = .ok (.istore_n 3, 1) := by decide +kernel
theorem dX8_explained_144 : decode cX8_explained 144 = .ok (.iload 6, 2) := by decide +kernel
theorem dX8_explained_146 : decode cX8_explained 146 = .ok (.istore 4, 2) := by decide +kernel
theorem dX8_explained_148 : decode cX8_explained 148 = .ok (.iinc 5 1, 3) := by decide +kernel
theorem dX8_explained_151 : decode cX8_explained 151 = .ok (.goto (-110), 3) := by decide +kernel
theorem dX8_explained_154 : decode cX8_explained 154 = .ok (.iload_n 2, 1) := by decide +kernel
theorem dX8_explained_155 : decode cX8_explained 155 = .ok (.ifCond .ne 7, 3) := by decide +kernel
theorem dX8_explained_158 : decode cX8_explained 158 = .ok (.iload_n 3, 1) := by decide +kernel
theorem dX8_explained_159 : decode cX8_explained 159 = .ok (.goto 5, 3) := by decide +kernel
theorem dX8_explained_162 : decode cX8_explained 162 = .ok (.iload 4, 2) := by decide +kernel
theorem dX8_explained_164 : decode cX8_explained 164 = .ok (.ireturn, 1) := by decide +kernel
theorem dX8_copy_0 : decode cX8_copy 0 = .ok (.iload_n 1, 1) := by decide +kernel
theorem dX8_copy_1 : decode cX8_copy 1 = .ok (.invokestatic 309, 3) := by decide +kernel
theorem dX8_copy_4 : decode cX8_copy 4 = .ok (.ifCond .eq 10, 3) := by decide +kernel
theorem dX8_copy_7 : decode cX8_copy 7 = .ok (.iload_n 3, 1) := by decide +kernel
theorem dX8_copy_8 : decode cX8_copy 8 = .ok (.invokestatic 309, 3) := by decide +kernel
theorem dX8_copy_11 : decode cX8_copy 11 = .ok (.ifCond .ne 6, 3) := by decide +kernel
theorem dX8_copy_14 : decode cX8_copy 14 = .ok (.ldc 85, 2) := by decide +kernel
theorem dX8_copy_16 : decode cX8_copy 16 = .ok (.ireturn, 1) := by decide +kernel
theorem dX8_copy_17 : decode cX8_copy 17 = .ok (.aload_n 0, 1) := by decide +kernel
theorem dX8_copy_18 : decode cX8_copy 18 = .ok (.getfield 19, 3) := by decide +kernel
theorem dX8_copy_21 : decode cX8_copy 21 = .ok (.iload_n 1, 1) := by decide +kernel
theorem dX8_copy_22 : decode cX8_copy 22 = .ok (.iaload, 1) := by decide +kernel
theorem dX8_copy_23 : decode cX8_copy 23 = .ok (.ifCond .lt 12, 3) := by decide +kernel
theorem dX8_copy_26 : decode cX8_copy 26 = .ok (.aload_n 0, 1) := by decide +kernel
theorem dX8_copy_27 : decode cX8_copy 27 = .ok (.getfield 19, 3) := by decide +kernel
theorem dX8_copy_30 : decode cX8_copy 30 = .ok (.iload_n 3, 1) := by decide +kernel
theorem dX8_copy_31 : decode cX8_copy 31 = .ok (.iaload, 1) := by decide +kernel
theorem dX8_copy_32 : decode cX8_copy 32 = .ok (.ifCond .ge 7, 3) := by decide +kernel
theorem dX8_copy_35 : decode cX8_copy 35 = .ok (.ldc_w 315, 3) := by decide +kernel
theorem dX8_copy_38 : decode cX8_copy 38 = .ok (.ireturn, 1) := by decide +kernel
theorem dX8_copy_39 : decode cX8_copy 39 = .ok (.aload_n 0, 1) := by decide +kernel
theorem dX8_copy_40 : decode cX8_copy 40 = .ok (.getfield 19, 3) := by decide +kernel
theorem dX8_copy_43 : decode cX8_copy 43 = .ok (.iload_n 1, 1) := by decide +kernel
theorem dX8_copy_44 : decode cX8_copy 44 = .ok (.iaload, 1) := by decide +kernel
theorem dX8_copy_45 : decode cX8_copy 45 = .ok (.aload_n 0, 1) := by decide +kernel
theorem dX8_copy_46 : decode cX8_copy 46 = .ok (.getfield 19, 3) := by decide +kernel
theorem dX8_copy_49 : decode cX8_copy 49 = .ok (.iload_n 3, 1) := by decide +kernel
theorem dX8_copy_50 : decode cX8_copy 50 = .ok (.iaload, 1) := by decide +kernel
theorem dX8_copy_51 : decode cX8_copy 51 = .ok (.if_icmp .eq 6, 3) := by decide +kernel
theorem dX8_copy_54 : decode cX8_copy 54 = .ok (.ldc 131, 2) := by decide +kernel
theorem dX8_copy_56 : decode cX8_copy 56 = .ok (.ireturn, 1) := by decide +kernel
theorem dX8_copy_57 : decode cX8_copy 57 = .ok (.iload_n 2, 1) := by decide +kernel
theorem dX8_copy_58 : decode cX8_copy 58 = .ok (.ifCond .lt 48, 3) := by decide +kernel
theorem dX8_copy_61 : decode cX8_copy 61 = .ok (.iload 4, 2) := by decide +kernel
theorem dX8_copy_63 : decode cX8_copy 63 = .ok (.ifCond .lt 43, 3) := by decide +kernel
theorem dX8_copy_66 : decode cX8_copy 66 = .ok (.iload 5, 2) := by decide +kernel
theorem dX8_copy_68 : decode cX8_copy 68 = .ok (.ifCond .lt 38, 3) := by decide +kernel
theorem dX8_copy_71 : decode cX8_copy 71 = .ok (.iload_n 2, 1) := by decide +kernel
theorem dX8_copy_72 : decode cX8_copy 72 = .ok (.i2l, 1) := by decide +kernel
theorem dX8_copy_73 : decode cX8_copy 73 = .ok (.iload 5, 2) := by decide +kernel
theorem dX8_copy_75 : decode cX8_copy 75 = .ok (.i2l, 1) := by decide +kernel
theorem dX8_copy_76 : decode cX8_copy 76 = .ok (.ladd, 1) := by decide +kernel
theorem dX8_copy_77 : decode cX8_copy 77 = .ok (.aload_n 0, 1) := by decide +kernel
theorem dX8_copy_78 : decode cX8_copy 78 = .ok (.getfield 22, 3) := by decide +kernel
theorem dX8_copy_81 : decode cX8_copy 81 = .ok (.iload_n 1, 1) := by decide +kernel
theorem dX8_copy_82 : decode cX8_copy 82 = .ok (.iaload, 1) := by decide +kernel
theorem dX8_copy_83 : decode cX8_copy 83 = .ok (.i2l, 1) := by decide +kernel
theorem dX8_copy_84 : decode cX8_copy 84 = .ok (.lcmp, 1) := by decide +kernel
theorem dX8_copy_85 : decode cX8_copy 85 = .ok (.ifCond .gt 21, 3) := by decide +kernel
theorem dX8_copy_88 : decode cX8_copy 88 = .ok (.iload 4, 2) := by decide +kernel
theorem dX8_copy_90 : decode cX8_copy 90 = .ok (.i2l, 1) := by decide +kernel
theorem dX8_copy_91 : decode cX8_copy 91 = .ok (.iload 5, 2) := by decide +kernel
theorem dX8_copy_93 : decode cX8_copy 93 = .ok (.i2l, 1) := by decide +kernel
theorem dX8_copy_94 : decode cX8_copy 94 = .ok (.ladd, 1) := by decide +kernel
theorem dX8_copy_95 : decode cX8_copy 95 = .ok (.aload_n 0, 1) := by decide +kernel
theorem dX8_copy_96 : decode cX8_copy 96 = .ok (.getfield 22, 3) := by decide +kernel
theorem dX8_copy_99 : decode cX8_copy 99 = .ok (.iload_n 3, 1) := by decide +kernel
theorem dX8_copy_100 : decode cX8_copy 100 = .ok (.iaload, 1) := by decide +kernel
theorem dX8_copy_101 : decode cX8_copy 101 = .ok (.i2l, 1) := by decide +kernel
theorem dX8_copy_102 : decode cX8_copy 102 = .ok (.lcmp, 1) := by decide +kernel
theorem dX8_copy_103 : decode cX8_copy 103 = .ok (.ifCond .le 7, 3) := by decide +kernel
theorem dX8_copy_106 : decode cX8_copy 106 = .ok (.ldc_w 316, 3) := by decide +kernel
theorem dX8_copy_109 : decode cX8_copy 109 = .ok (.ireturn, 1) := by decide +kernel
theorem dX8_copy_110 : decode cX8_copy 110 = .ok (.iconst 0, 1) := by decide +kernel
theorem dX8_copy_111 : decode cX8_copy 111 = .ok (.istore 6, 2) := by decide +kernel
theorem dX8_copy_113 : decode cX8_copy 113 = .ok (.iload 6, 2) := by decide +kernel
theorem dX8_copy_115 : decode cX8_copy 115 = .ok (.iload 5, 2) := by decide +kernel
theorem dX8_copy_117 : decode cX8_copy 117 = .ok (.if_icmp .ge 30, 3) := by decide +kernel
theorem dX8_copy_120 : decode cX8_copy 120 = .ok (.aload_n 0, 1) := by decide +kernel
theorem dX8_copy_121 : decode cX8_copy 121 = .ok (.getfield 62, 3) := by decide +kernel
theorem dX8_copy_124 : decode cX8_copy 124 = .ok (.iload 6, 2) := by decide +kernel
theorem dX8_copy_126 : decode cX8_copy 126 = .ok (.aload_n 0, 1) := by decide +kernel
theorem dX8_copy_127 : decode cX8_copy 127 = .ok (.getfield 25, 3) := by decide +kernel
theorem dX8_copy_130 : decode cX8_copy 130 = .ok (.bipush 24, 2) := by decide +kernel
theorem dX8_copy_132 : decode cX8_copy 132 = .ok (.iload_n 1, 1) := by decide +kernel
theorem dX8_copy_133 : decode cX8_copy 133 = .ok (.imul, 1) := by decide +kernel
theorem dX8_copy_134 : decode cX8_copy 134 = .ok (.iload_n 2, 1) := by decide +kernel
theorem dX8_copy_135 : decode cX8_copy 135 = .ok (.iadd, 1) := by decide +kernel
theorem dX8_copy_136 : decode cX8_copy 136 = .ok (.iload 6, 2) := by decide +kernel
theorem dX8_copy_138 : decode cX8_copy 138 = .ok (.iadd, 1) := by decide +kernel
theorem dX8_copy_139 : decode cX8_copy 139 = .ok (.iaload, 1) := by decide +kernel
theorem dX8_copy_140 : decode cX8_copy 140 = .ok (.iastore, 1) := by decide +kernel
theorem dX8_copy_141 : decode cX8_copy 141 = .ok (.iinc 6 1, 3) := by decide +kernel
theorem dX8_copy_144 : decode cX8_copy 144 = .ok (.goto (-31), 3) := by decide +kernel
theorem dX8_copy_147 : decode cX8_copy 147 = .ok (.iconst 0, 1) := by decide +kernel
theorem dX8_copy_148 : decode cX8_copy 148 = .ok (.istore 6, 2) := by decide +kernel
theorem dX8_copy_150 : decode cX8_copy 150 = .ok (.iload 6, 2) := by decide +kernel
theorem dX8_copy_152 : decode cX8_copy 152 = .ok (.iload 5, 2) := by decide +kernel
theorem dX8_copy_154 : decode cX8_copy 154 = .ok (.if_icmp .ge 31, 3) := by decide +kernel
theorem dX8_copy_157 : decode cX8_copy 157 = .ok (.aload_n 0, 1) := by decide +kernel
theorem dX8_copy_158 : decode cX8_copy 158 = .ok (.getfield 25, 3) := by decide +kernel
theorem dX8_copy_161 : decode cX8_copy 161 = .ok (.bipush 24, 2) := by decide +kernel
theorem dX8_copy_163 : decode cX8_copy 163 = .ok (.iload_n 3, 1) := by decide +kernel
theorem dX8_copy_164 : decode cX8_copy 164 = .ok (.imul, 1) := by decide +kernel
theorem dX8_copy_165 : decode cX8_copy 165 = .ok (.iload 4, 2) := by decide +kernel
theorem dX8_copy_167 : decode cX8_copy 167 = .ok (.iadd, 1) := by decide +kernel
theorem dX8_copy_168 : decode cX8_copy 168 = .ok (.iload 6, 2) := by decide +kernel
theorem dX8_copy_170 : decode cX8_copy 170 = .ok (.iadd, 1) := by decide +kernel
theorem dX8_copy_171 : decode cX8_copy 171 = .ok (.aload_n 0, 1) := by decide +kernel
theorem dX8_copy_172 : decode cX8_copy 172 = .ok (.getfield 62, 3) := by decide +kernel
theorem dX8_copy_175 : decode cX8_copy 175 = .ok (.iload 6, 2) := by decide +kernel
theorem dX8_copy_177 : decode cX8_copy 177 = .ok (.iaload, 1) := by decide +kernel
theorem dX8_copy_178 : decode cX8_copy 178 = .ok (.iastore, 1) := by decide +kernel
theorem dX8_copy_179 : decode cX8_copy 179 = .ok (.iinc 6 1, 3) := by decide +kernel
theorem dX8_copy_182 : decode cX8_copy 182 = .ok (.goto (-32), 3) := by decide +kernel
theorem dX8_copy_185 : decode cX8_copy 185 = .ok (.iload 5, 2) := by decide +kernel
theorem dX8_copy_187 : decode cX8_copy 187 = .ok (.ireturn, 1) := by decide +kernel
theorem dX8_isSlot_0 : decode cX8_isSlot 0 = .ok (.iload_n 0, 1) := by decide +kernel
theorem dX8_isSlot_1 : decode cX8_isSlot 1 = .ok (.i2l, 1) := by decide +kernel
theorem dX8_isSlot_2 : decode cX8_isSlot 2 = .ok (.lconst 0, 1) := by decide +kernel
theorem dX8_isSlot_3 : decode cX8_isSlot 3 = .ok (.ldc2_w 135, 3) := by decide +kernel
theorem dX8_isSlot_6 : decode cX8_isSlot 6 = .ok (.invokestatic 72, 3) := by decide +kernel
theorem dX8_isSlot_9 : decode cX8_isSlot 9 = .ok (.ireturn, 1) := by decide +kernel
theorem dX8_lay_0 : decode cX8_lay 0 = .ok (.iload_n 2, 1) := by decide +kernel
theorem dX8_lay_1 : decode cX8_lay 1 = .ok (.ifCond .eq 33, 3) := by decide +kernel
theorem dX8_lay_4 : decode cX8_lay 4 = .ok (.iload_n 2, 1) := by decide +kernel
theorem dX8_lay_5 : decode cX8_lay 5 = .ok (.iconst 3, 1) := by decide +kernel
theorem dX8_lay_6 : decode cX8_lay 6 = .ok (.if_icmp .eq 28, 3) := by decide +kernel
theorem dX8_lay_9 : decode cX8_lay 9 = .ok (.iload_n 2, 1) := by decide +kernel
theorem dX8_lay_10 : decode cX8_lay 10 = .ok (.iconst 1, 1) := by decide +kernel
theorem dX8_lay_11 : decode cX8_lay 11 = .ok (.if_icmp .ne 11, 3) := by decide +kernel
theorem dX8_lay_14 : decode cX8_lay 14 = .ok (.aload_n 0, 1) := by decide +kernel
theorem dX8_lay_15 : decode cX8_lay 15 = .ok (.iload_n 3, 1) := by decide +kernel
theorem dX8_lay_16 : decode cX8_lay 16 = .ok (.invokevirtual 113, 3) := by decide +kernel
theorem dX8_lay_19 : decode cX8_lay 19 = .ok (.ifCond .ne 15, 3) := by decide +kernel
theorem dX8_lay_22 : decode cX8_lay 22 = .ok (.iload_n 2, 1) := by decide +kernel
theorem dX8_lay_23 : decode cX8_lay 23 = .ok (.iconst 2, 1) := by decide +kernel
theorem dX8_lay_24 : decode cX8_lay 24 = .ok (.if_icmp .ne 14, 3) := by decide +kernel
theorem dX8_lay_27 : decode cX8_lay 27 = .ok (.iload_n 3, 1) := by decide +kernel
theorem dX8_lay_28 : decode cX8_lay 28 = .ok (.invokestatic 309, 3) := by decide +kernel
theorem dX8_lay_31 : decode cX8_lay 31 = .ok (.ifCond .eq 7, 3) := by decide +kernel
theorem dX8_lay_34 : decode cX8_lay 34 = .ok (.iconst 1, 1) := by decide +kernel
theorem dX8_lay_35 : decode cX8_lay 35 = .ok (.goto 4, 3) := by decide +kernel
theorem dX8_lay_38 : decode cX8_lay 38 = .ok (.iconst 0, 1) := by decide +kernel
theorem dX8_lay_39 : decode cX8_lay 39 = .ok (.istore 4, 2) := by decide +kernel
theorem dX8_lay_41 : decode cX8_lay 41 = .ok (.iload_n 1, 1) := by decide +kernel
theorem dX8_lay_42 : decode cX8_lay 42 = .ok (.invokestatic 324, 3) := by decide +kernel
theorem dX8_lay_45 : decode cX8_lay 45 = .ok (.ifCond .eq 8, 3) := by decide +kernel
theorem dX8_lay_48 : decode cX8_lay 48 = .ok (.iload 4, 2) := by decide +kernel
theorem dX8_lay_50 : decode cX8_lay 50 = .ok (.ifCond .ne 6, 3) := by decide +kernel
theorem dX8_lay_53 : decode cX8_lay 53 = .ok (.ldc 85, 2) := by decide +kernel
theorem dX8_lay_55 : decode cX8_lay 55 = .ok (.ireturn, 1) := by decide +kernel
theorem dX8_lay_56 : decode cX8_lay 56 = .ok (.iload_n 2, 1) := by decide +kernel
theorem dX8_lay_57 : decode cX8_lay 57 = .ok (.iconst 2, 1) := by decide +kernel
theorem dX8_lay_58 : decode cX8_lay 58 = .ok (.if_icmp .ne 16, 3) := by decide +kernel
theorem dX8_lay_61 : decode cX8_lay 61 = .ok (.aload_n 0, 1) := by decide +kernel
theorem dX8_lay_62 : decode cX8_lay 62 = .ok (.getfield 19, 3) := by decide +kernel
theorem dX8_lay_65 : decode cX8_lay 65 = .ok (.iload_n 3, 1) := by decide +kernel
theorem dX8_lay_66 : decode cX8_lay 66 = .ok (.iaload, 1) := by decide +kernel
theorem dX8_lay_67 : decode cX8_lay 67 = .ok (.ifCond .ge 7, 3) := by decide +kernel
theorem dX8_lay_70 : decode cX8_lay 70 = .ok (.ldc_w 315, 3) := by decide +kernel
theorem dX8_lay_73 : decode cX8_lay 73 = .ok (.ireturn, 1) := by decide +kernel
theorem dX8_lay_74 : decode cX8_lay 74 = .ok (.aload_n 0, 1) := by decide +kernel
theorem dX8_lay_75 : decode cX8_lay 75 = .ok (.getfield 28, 3) := by decide +kernel
theorem dX8_lay_78 : decode cX8_lay 78 = .ok (.iload_n 1, 1) := by decide +kernel
theorem dX8_lay_79 : decode cX8_lay 79 = .ok (.iaload, 1) := by decide +kernel
theorem dX8_lay_80 : decode cX8_lay 80 = .ok (.istore 5, 2) := by decide +kernel
theorem dX8_lay_82 : decode cX8_lay 82 = .ok (.aload_n 0, 1) := by decide +kernel
theorem dX8_lay_83 : decode cX8_lay 83 = .ok (.getfield 28, 3) := by decide +kernel
theorem dX8_lay_86 : decode cX8_lay 86 = .ok (.iload_n 1, 1) := by decide +kernel
theorem dX8_lay_87 : decode cX8_lay 87 = .ok (.iload_n 2, 1) := by decide +kernel
theorem dX8_lay_88 : decode cX8_lay 88 = .ok (.iastore, 1) := by decide +kernel
theorem dX8_lay_89 : decode cX8_lay 89 = .ok (.aload_n 0, 1) := by decide +kernel
theorem dX8_lay_90 : decode cX8_lay 90 = .ok (.getfield 31, 3) := by decide +kernel
theorem dX8_lay_93 : decode cX8_lay 93 = .ok (.iload_n 1, 1) := by decide +kernel
theorem dX8_lay_94 : decode cX8_lay 94 = .ok (.iload_n 2, 1) := by decide +kernel
theorem dX8_lay_95 : decode cX8_lay 95 = .ok (.iconst 1, 1) := by decide +kernel
theorem dX8_lay_96 : decode cX8_lay 96 = .ok (.if_icmp .ne 12, 3) := by decide +kernel
theorem dX8_lay_99 : decode cX8_lay 99 = .ok (.aload_n 0, 1) := by decide +kernel
theorem dX8_lay_100 : decode cX8_lay 100 = .ok (.iload_n 3, 1) := by decide +kernel
theorem dX8_lay_101 : decode cX8_lay 101 = .ok (.iconst 0, 1) := by decide +kernel
theorem dX8_lay_102 : decode cX8_lay 102 = .ok (.invokevirtual 91, 3) := by decide +kernel
theorem dX8_lay_105 : decode cX8_lay 105 = .ok (.goto 4, 3) := by decide +kernel
theorem dX8_lay_108 : decode cX8_lay 108 = .ok (.iload_n 3, 1) := by decide +kernel
theorem dX8_lay_109 : decode cX8_lay 109 = .ok (.iastore, 1) := by decide +kernel
theorem dX8_lay_110 : decode cX8_lay 110 = .ok (.aload_n 0, 1) := by decide +kernel
theorem dX8_lay_111 : decode cX8_lay 111 = .ok (.getfield 34, 3) := by decide +kernel
theorem dX8_lay_114 : decode cX8_lay 114 = .ok (.iload_n 1, 1) := by decide +kernel
theorem dX8_lay_115 : decode cX8_lay 115 = .ok (.iload_n 2, 1) := by decide +kernel
theorem dX8_lay_116 : decode cX8_lay 116 = .ok (.iconst 1, 1) := by decide +kernel
theorem dX8_lay_117 : decode cX8_lay 117 = .ok (.if_icmp .ne 11, 3) := by decide +kernel
theorem dX8_lay_120 : decode cX8_lay 120 = .ok (.aload_n 0, 1) := by decide +kernel
theorem dX8_lay_121 : decode cX8_lay 121 = .ok (.iload_n 3, 1) := by decide +kernel
theorem dX8_lay_122 : decode cX8_lay 122 = .ok (.invokevirtual 118, 3) := by decide +kernel
theorem dX8_lay_125 : decode cX8_lay 125 = .ok (.goto 4, 3) := by decide +kernel
theorem dX8_lay_128 : decode cX8_lay 128 = .ok (.iconst 0, 1) := by decide +kernel
theorem dX8_lay_129 : decode cX8_lay 129 = .ok (.iastore, 1) := by decide +kernel
theorem dX8_lay_130 : decode cX8_lay 130 = .ok (.iload_n 2, 1) := by decide +kernel
theorem dX8_lay_131 : decode cX8_lay 131 = .ok (.iconst 2, 1) := by decide +kernel
theorem dX8_lay_132 : decode cX8_lay 132 = .ok (.if_icmp .ne 55, 3) := by decide +kernel
theorem dX8_lay_135 : decode cX8_lay 135 = .ok (.aload_n 0, 1) := by decide +kernel
theorem dX8_lay_136 : decode cX8_lay 136 = .ok (.getfield 37, 3) := by decide +kernel
theorem dX8_lay_139 : decode cX8_lay 139 = .ok (.iload_n 1, 1) := by decide +kernel
theorem dX8_lay_140 : decode cX8_lay 140 = .ok (.aload_n 0, 1) := by decide +kernel
theorem dX8_lay_141 : decode cX8_lay 141 = .ok (.getfield 22, 3) := by decide +kernel
theorem dX8_lay_144 : decode cX8_lay 144 = .ok (.iload_n 3, 1) := by decide +kernel
theorem dX8_lay_145 : decode cX8_lay 145 = .ok (.iaload, 1) := by decide +kernel
theorem dX8_lay_146 : decode cX8_lay 146 = .ok (.iastore, 1) := by decide +kernel
theorem dX8_lay_147 : decode cX8_lay 147 = .ok (.iconst 0, 1) := by decide +kernel
theorem dX8_lay_148 : decode cX8_lay 148 = .ok (.istore 6, 2) := by decide +kernel
theorem dX8_lay_150 : decode cX8_lay 150 = .ok (.iload 6, 2) := by decide +kernel
theorem dX8_lay_152 : decode cX8_lay 152 = .ok (.bipush 24, 2) := by decide +kernel
theorem dX8_lay_154 : decode cX8_lay 154 = .ok (.if_icmp .ge 33, 3) := by decide +kernel
theorem dX8_lay_157 : decode cX8_lay 157 = .ok (.aload_n 0, 1) := by decide +kernel
theorem dX8_lay_158 : decode cX8_lay 158 = .ok (.getfield 40, 3) := by decide +kernel
theorem dX8_lay_161 : decode cX8_lay 161 = .ok (.bipush 24, 2) := by decide +kernel
theorem dX8_lay_163 : decode cX8_lay 163 = .ok (.iload_n 1, 1) := by decide +kernel
theorem dX8_lay_164 : decode cX8_lay 164 = .ok (.imul, 1) := by decide +kernel
theorem dX8_lay_165 : decode cX8_lay 165 = .ok (.iload 6, 2) := by decide +kernel
theorem dX8_lay_167 : decode cX8_lay 167 = .ok (.iadd, 1) := by decide +kernel
theorem dX8_lay_168 : decode cX8_lay 168 = .ok (.aload_n 0, 1) := by decide +kernel
theorem dX8_lay_169 : decode cX8_lay 169 = .ok (.getfield 25, 3) := by decide +kernel
theorem dX8_lay_172 : decode cX8_lay 172 = .ok (.bipush 24, 2) := by decide +kernel
theorem dX8_lay_174 : decode cX8_lay 174 = .ok (.iload_n 3, 1) := by decide +kernel
theorem dX8_lay_175 : decode cX8_lay 175 = .ok (.imul, 1) := by decide +kernel
theorem dX8_lay_176 : decode cX8_lay 176 = .ok (.iload 6, 2) := by decide +kernel
theorem dX8_lay_178 : decode cX8_lay 178 = .ok (.iadd, 1) := by decide +kernel
theorem dX8_lay_179 : decode cX8_lay 179 = .ok (.iaload, 1) := by decide +kernel
theorem dX8_lay_180 : decode cX8_lay 180 = .ok (.iastore, 1) := by decide +kernel
theorem dX8_lay_181 : decode cX8_lay 181 = .ok (.iinc 6 1, 3) := by decide +kernel
theorem dX8_lay_184 : decode cX8_lay 184 = .ok (.goto (-34), 3) := by decide +kernel
theorem dX8_lay_187 : decode cX8_lay 187 = .ok (.iload 5, 2) := by decide +kernel
theorem dX8_lay_189 : decode cX8_lay 189 = .ok (.ireturn, 1) := by decide +kernel
theorem dX8_ask_0 : decode cX8_ask 0 = .ok (.iload_n 1, 1) := by decide +kernel
theorem dX8_ask_1 : decode cX8_ask 1 = .ok (.invokestatic 324, 3) := by decide +kernel
theorem dX8_ask_4 : decode cX8_ask 4 = .ok (.ifCond .eq 15, 3) := by decide +kernel
theorem dX8_ask_7 : decode cX8_ask 7 = .ok (.iload_n 2, 1) := by decide +kernel
theorem dX8_ask_8 : decode cX8_ask 8 = .ok (.i2l, 1) := by decide +kernel
theorem dX8_ask_9 : decode cX8_ask 9 = .ok (.lconst 0, 1) := by decide +kernel
theorem dX8_ask_10 : decode cX8_ask 10 = .ok (.ldc2_w 77, 3) := by decide +kernel
theorem dX8_ask_13 : decode cX8_ask 13 = .ok (.invokestatic 72, 3) := by decide +kernel
theorem dX8_ask_16 : decode cX8_ask 16 = .ok (.ifCond .ne 6, 3) := by decide +kernel
theorem dX8_ask_19 : decode cX8_ask 19 = .ok (.ldc 85, 2) := by decide +kernel
theorem dX8_ask_21 : decode cX8_ask 21 = .ok (.ireturn, 1) := by decide +kernel
theorem dX8_ask_22 : decode cX8_ask 22 = .ok (.aload_n 0, 1) := by decide +kernel
theorem dX8_ask_23 : decode cX8_ask 23 = .ok (.getfield 28, 3) := by decide +kernel
theorem dX8_ask_26 : decode cX8_ask 26 = .ok (.iload_n 1, 1) := by decide +kernel
theorem dX8_ask_27 : decode cX8_ask 27 = .ok (.iaload, 1) := by decide +kernel
theorem dX8_ask_28 : decode cX8_ask 28 = .ok (.ifCond .ne 7, 3) := by decide +kernel
theorem dX8_ask_31 : decode cX8_ask 31 = .ok (.ldc_w 315, 3) := by decide +kernel
theorem dX8_ask_34 : decode cX8_ask 34 = .ok (.ireturn, 1) := by decide +kernel
theorem dX8_ask_35 : decode cX8_ask 35 = .ok (.aload_n 0, 1) := by decide +kernel
theorem dX8_ask_36 : decode cX8_ask 36 = .ok (.getfield 28, 3) := by decide +kernel
theorem dX8_ask_39 : decode cX8_ask 39 = .ok (.iload_n 1, 1) := by decide +kernel
theorem dX8_ask_40 : decode cX8_ask 40 = .ok (.iaload, 1) := by decide +kernel
theorem dX8_ask_41 : decode cX8_ask 41 = .ok (.iconst 1, 1) := by decide +kernel
theorem dX8_ask_42 : decode cX8_ask 42 = .ok (.if_icmp .ne 25, 3) := by decide +kernel
theorem dX8_ask_45 : decode cX8_ask 45 = .ok (.aload_n 0, 1) := by decide +kernel
theorem dX8_ask_46 : decode cX8_ask 46 = .ok (.getfield 31, 3) := by decide +kernel
theorem dX8_ask_49 : decode cX8_ask 49 = .ok (.iload_n 1, 1) := by decide +kernel
theorem dX8_ask_50 : decode cX8_ask 50 = .ok (.iaload, 1) := by decide +kernel
theorem dX8_ask_51 : decode cX8_ask 51 = .ok (.iload_n 2, 1) := by decide +kernel
theorem dX8_ask_52 : decode cX8_ask 52 = .ok (.invokestatic 127, 3) := by decide +kernel
theorem dX8_ask_55 : decode cX8_ask 55 = .ok (.ifCond .eq 12, 3) := by decide +kernel
theorem dX8_ask_58 : decode cX8_ask 58 = .ok (.aload_n 0, 1) := by decide +kernel
theorem dX8_ask_59 : decode cX8_ask 59 = .ok (.getfield 34, 3) := by decide +kernel
theorem dX8_ask_62 : decode cX8_ask 62 = .ok (.iload_n 1, 1) := by decide +kernel
theorem dX8_ask_63 : decode cX8_ask 63 = .ok (.iaload, 1) := by decide +kernel
theorem dX8_ask_64 : decode cX8_ask 64 = .ok (.goto 5, 3) := by decide +kernel
theorem dX8_ask_67 : decode cX8_ask 67 = .ok (.ldc 131, 2) := by decide +kernel
theorem dX8_ask_69 : decode cX8_ask 69 = .ok (.ireturn, 1) := by decide +kernel
theorem dX8_item_0 : decode cX8_item 0 = .ok (.iload_n 1, 1) := by decide +kernel
theorem dX8_item_1 : decode cX8_item 1 = .ok (.invokestatic 324, 3) := by decide +kernel
theorem dX8_item_4 : decode cX8_item 4 = .ok (.ifCond .ne 6, 3) := by decide +kernel
theorem dX8_item_7 : decode cX8_item 7 = .ok (.ldc 85, 2) := by decide +kernel
theorem dX8_item_9 : decode cX8_item 9 = .ok (.ireturn, 1) := by decide +kernel
theorem dX8_item_10 : decode cX8_item 10 = .ok (.aload_n 0, 1) := by decide +kernel
theorem dX8_item_11 : decode cX8_item 11 = .ok (.getfield 28, 3) := by decide +kernel
theorem dX8_item_14 : decode cX8_item 14 = .ok (.iload_n 1, 1) := by decide +kernel
theorem dX8_item_15 : decode cX8_item 15 = .ok (.iaload, 1) := by decide +kernel
theorem dX8_item_16 : decode cX8_item 16 = .ok (.iconst 2, 1) := by decide +kernel
theorem dX8_item_17 : decode cX8_item 17 = .ok (.if_icmp .eq 21, 3) := by decide +kernel
theorem dX8_item_20 : decode cX8_item 20 = .ok (.aload_n 0, 1) := by decide +kernel
theorem dX8_item_21 : decode cX8_item 21 = .ok (.getfield 28, 3) := by decide +kernel
theorem dX8_item_24 : decode cX8_item 24 = .ok (.iload_n 1, 1) := by decide +kernel
theorem dX8_item_25 : decode cX8_item 25 = .ok (.iaload, 1) := by decide +kernel
theorem dX8_item_26 : decode cX8_item 26 = .ok (.ifCond .ne 9, 3) := by decide +kernel
theorem dX8_item_29 : decode cX8_item 29 = .ok (.ldc_w 315, 3) := by decide +kernel
theorem dX8_item_32 : decode cX8_item 32 = .ok (.goto 5, 3) := by decide +kernel
theorem dX8_item_35 : decode cX8_item 35 = .ok (.ldc 131, 2) := by decide +kernel
theorem dX8_item_37 : decode cX8_item 37 = .ok (.ireturn, 1) := by decide +kernel
theorem dX8_item_38 : decode cX8_item 38 = .ok (.iload_n 2, 1) := by decide +kernel
theorem dX8_item_39 : decode cX8_item 39 = .ok (.i2l, 1) := by decide +kernel
theorem dX8_item_40 : decode cX8_item 40 = .ok (.lconst 0, 1) := by decide +kernel
theorem dX8_item_41 : decode cX8_item 41 = .ok (.aload_n 0, 1) := by decide +kernel
theorem dX8_item_42 : decode cX8_item 42 = .ok (.getfield 37, 3) := by decide +kernel
theorem dX8_item_45 : decode cX8_item 45 = .ok (.iload_n 1, 1) := by decide +kernel
theorem dX8_item_46 : decode cX8_item 46 = .ok (.iaload, 1) := by decide +kernel
theorem dX8_item_47 : decode cX8_item 47 = .ok (.iconst 1, 1) := by decide +kernel
theorem dX8_item_48 : decode cX8_item 48 = .ok (.isub, 1) := by decide +kernel
theorem dX8_item_49 : decode cX8_item 49 = .ok (.i2l, 1) := by decide +kernel
theorem dX8_item_50 : decode cX8_item 50 = .ok (.invokestatic 72, 3) := by decide +kernel
theorem dX8_item_53 : decode cX8_item 53 = .ok (.ifCond .ne 7, 3) := by decide +kernel
theorem dX8_item_56 : decode cX8_item 56 = .ok (.ldc_w 316, 3) := by decide +kernel
theorem dX8_item_59 : decode cX8_item 59 = .ok (.ireturn, 1) := by decide +kernel
theorem dX8_item_60 : decode cX8_item 60 = .ok (.aload_n 0, 1) := by decide +kernel
theorem dX8_item_61 : decode cX8_item 61 = .ok (.getfield 40, 3) := by decide +kernel
theorem dX8_item_64 : decode cX8_item 64 = .ok (.bipush 24, 2) := by decide +kernel
theorem dX8_item_66 : decode cX8_item 66 = .ok (.iload_n 1, 1) := by decide +kernel
theorem dX8_item_67 : decode cX8_item 67 = .ok (.imul, 1) := by decide +kernel
theorem dX8_item_68 : decode cX8_item 68 = .ok (.iload_n 2, 1) := by decide +kernel
theorem dX8_item_69 : decode cX8_item 69 = .ok (.iadd, 1) := by decide +kernel
theorem dX8_item_70 : decode cX8_item 70 = .ok (.iaload, 1) := by decide +kernel
theorem dX8_item_71 : decode cX8_item 71 = .ok (.istore_n 3, 1) := by decide +kernel
theorem dX8_item_72 : decode cX8_item 72 = .ok (.iload_n 3, 1) := by decide +kernel
theorem dX8_item_73 : decode cX8_item 73 = .ok (.ldc 71, 2) := by decide +kernel
theorem dX8_item_75 : decode cX8_item 75 = .ok (.if_icmp .ne 8, 3) := by decide +kernel
theorem dX8_item_78 : decode cX8_item 78 = .ok (.ldc 131, 2) := by decide +kernel
theorem dX8_item_80 : decode cX8_item 80 = .ok (.goto 4, 3) := by decide +kernel
theorem dX8_item_83 : decode cX8_item 83 = .ok (.iload_n 3, 1) := by decide +kernel
theorem dX8_item_84 : decode cX8_item 84 = .ok (.ireturn, 1) := by decide +kernel
theorem dX8_rest_0 : decode cX8_rest 0 = .ok (.iload_n 1, 1) := by decide +kernel
theorem dX8_rest_1 : decode cX8_rest 1 = .ok (.invokestatic 324, 3) := by decide +kernel
theorem dX8_rest_4 : decode cX8_rest 4 = .ok (.ifCond .ne 6, 3) := by decide +kernel
theorem dX8_rest_7 : decode cX8_rest 7 = .ok (.ldc 85, 2) := by decide +kernel
theorem dX8_rest_9 : decode cX8_rest 9 = .ok (.ireturn, 1) := by decide +kernel
theorem dX8_rest_10 : decode cX8_rest 10 = .ok (.aload_n 0, 1) := by decide +kernel
theorem dX8_rest_11 : decode cX8_rest 11 = .ok (.getfield 28, 3) := by decide +kernel
theorem dX8_rest_14 : decode cX8_rest 14 = .ok (.iload_n 1, 1) := by decide +kernel
theorem dX8_rest_15 : decode cX8_rest 15 = .ok (.iaload, 1) := by decide +kernel
theorem dX8_rest_16 : decode cX8_rest 16 = .ok (.iconst 3, 1) := by decide +kernel
theorem dX8_rest_17 : decode cX8_rest 17 = .ok (.if_icmp .eq 21, 3) := by decide +kernel
theorem dX8_rest_20 : decode cX8_rest 20 = .ok (.aload_n 0, 1) := by decide +kernel
theorem dX8_rest_21 : decode cX8_rest 21 = .ok (.getfield 28, 3) := by decide +kernel
theorem dX8_rest_24 : decode cX8_rest 24 = .ok (.iload_n 1, 1) := by decide +kernel
theorem dX8_rest_25 : decode cX8_rest 25 = .ok (.iaload, 1) := by decide +kernel
theorem dX8_rest_26 : decode cX8_rest 26 = .ok (.ifCond .ne 9, 3) := by decide +kernel
theorem dX8_rest_29 : decode cX8_rest 29 = .ok (.ldc_w 315, 3) := by decide +kernel
theorem dX8_rest_32 : decode cX8_rest 32 = .ok (.goto 5, 3) := by decide +kernel
theorem dX8_rest_35 : decode cX8_rest 35 = .ok (.ldc 131, 2) := by decide +kernel
theorem dX8_rest_37 : decode cX8_rest 37 = .ok (.ireturn, 1) := by decide +kernel
theorem dX8_rest_38 : decode cX8_rest 38 = .ok (.iload_n 2, 1) := by decide +kernel
theorem dX8_rest_39 : decode cX8_rest 39 = .ok (.ifCond .ne 9, 3) := by decide +kernel
theorem dX8_rest_42 : decode cX8_rest 42 = .ok (.ldc_w 327, 3) := by decide +kernel
theorem dX8_rest_45 : decode cX8_rest 45 = .ok (.goto 11, 3) := by decide +kernel
theorem dX8_rest_48 : decode cX8_rest 48 = .ok (.aload_n 0, 1) := by decide +kernel
theorem dX8_rest_49 : decode cX8_rest 49 = .ok (.getfield 31, 3) := by decide +kernel
theorem dX8_rest_52 : decode cX8_rest 52 = .ok (.iload_n 1, 1) := by decide +kernel
theorem dX8_rest_53 : decode cX8_rest 53 = .ok (.iaload, 1) := by decide +kernel
theorem dX8_rest_54 : decode cX8_rest 54 = .ok (.iload_n 2, 1) := by decide +kernel
theorem dX8_rest_55 : decode cX8_rest 55 = .ok (.irem, 1) := by decide +kernel
theorem dX8_rest_56 : decode cX8_rest 56 = .ok (.ireturn, 1) := by decide +kernel
theorem dX8_tell_0 : decode cX8_tell 0 = .ok (.aload_n 0, 1) := by decide +kernel
theorem dX8_tell_1 : decode cX8_tell 1 = .ok (.getfield 328, 3) := by decide +kernel
theorem dX8_tell_4 : decode cX8_tell 4 = .ok (.bipush 60, 2) := by decide +kernel
theorem dX8_tell_6 : decode cX8_tell 6 = .ok (.if_icmp .ne 6, 3) := by decide +kernel
theorem dX8_tell_9 : decode cX8_tell 9 = .ok (.ldc 86, 2) := by decide +kernel
theorem dX8_tell_11 : decode cX8_tell 11 = .ok (.ireturn, 1) := by decide +kernel
theorem dX8_tell_12 : decode cX8_tell 12 = .ok (.aload_n 0, 1) := by decide +kernel
theorem dX8_tell_13 : decode cX8_tell 13 = .ok (.getfield 65, 3) := by decide +kernel
theorem dX8_tell_16 : decode cX8_tell 16 = .ok (.aload_n 0, 1) := by decide +kernel
theorem dX8_tell_17 : decode cX8_tell 17 = .ok (.getfield 328, 3) := by decide +kernel
theorem dX8_tell_20 : decode cX8_tell 20 = .ok (.iload_n 1, 1) := by decide +kernel
theorem dX8_tell_21 : decode cX8_tell 21 = .ok (.iastore, 1) := by decide +kernel
theorem dX8_tell_22 : decode cX8_tell 22 = .ok (.aload_n 0, 1) := by decide +kernel
theorem dX8_tell_23 : decode cX8_tell 23 = .ok (.dup, 1) := by decide +kernel
theorem dX8_tell_24 : decode cX8_tell 24 = .ok (.getfield 328, 3) := by decide +kernel
theorem dX8_tell_27 : decode cX8_tell 27 = .ok (.iconst 1, 1) := by decide +kernel
theorem dX8_tell_28 : decode cX8_tell 28 = .ok (.iadd, 1) := by decide +kernel
theorem dX8_tell_29 : decode cX8_tell 29 = .ok (.putfield 328, 3) := by decide +kernel
theorem dX8_tell_32 : decode cX8_tell 32 = .ok (.aload_n 0, 1) := by decide +kernel
theorem dX8_tell_33 : decode cX8_tell 33 = .ok (.getfield 328, 3) := by decide +kernel
theorem dX8_tell_36 : decode cX8_tell 36 = .ok (.ireturn, 1) := by decide +kernel
theorem dX8_setAside_0 : decode cX8_setAside 0 = .ok (.iconst 0, 1) := by decide +kernel
theorem dX8_setAside_1 : decode cX8_setAside 1 = .ok (.istore_n 3, 1) := by decide +kernel
theorem dX8_setAside_2 : decode cX8_setAside 2 = .ok (.iload_n 3, 1) := by decide +kernel
theorem dX8_setAside_3 : decode cX8_setAside 3 = .ok (.sipush 2908, 3) := by decide +kernel
theorem dX8_setAside_6 : decode cX8_setAside 6 = .ok (.if_icmp .ge 15, 3) := by decide +kernel
theorem dX8_setAside_9 : decode cX8_setAside 9 = .ok (.aload_n 2, 1) := by decide +kernel
theorem dX8_setAside_10 : decode cX8_setAside 10 = .ok (.iload_n 3, 1) := by decide +kernel
theorem dX8_setAside_11 : decode cX8_setAside 11 = .ok (.aload_n 1, 1) := by decide +kernel
theorem dX8_setAside_12 : decode cX8_setAside 12 = .ok (.iload_n 3, 1) := by decide +kernel
theorem dX8_setAside_13 : decode cX8_setAside 13 = .ok (.iaload, 1) := by decide +kernel
theorem dX8_setAside_14 : decode cX8_setAside 14 = .ok (.iastore, 1) := by decide +kernel
theorem dX8_setAside_15 : decode cX8_setAside 15 = .ok (.iinc 3 1, 3) := by decide +kernel
theorem dX8_setAside_18 : decode cX8_setAside 18 = .ok (.goto (-16), 3) := by decide +kernel
theorem dX8_setAside_21 : decode cX8_setAside 21 = .ok (.return_, 1) := by decide +kernel
theorem dX8_check_0 : decode cX8_check 0 = .ok (.aload_n 0, 1) := by decide +kernel
theorem dX8_check_1 : decode cX8_check 1 = .ok (.getfield 328, 3) := by decide +kernel
theorem dX8_check_4 : decode cX8_check 4 = .ok (.istore_n 2, 1) := by decide +kernel
theorem dX8_check_5 : decode cX8_check 5 = .ok (.aload_n 0, 1) := by decide +kernel
theorem dX8_check_6 : decode cX8_check 6 = .ok (.iconst 0, 1) := by decide +kernel
theorem dX8_check_7 : decode cX8_check 7 = .ok (.putfield 328, 3) := by decide +kernel
theorem dX8_check_10 : decode cX8_check 10 = .ok (.iload_n 1, 1) := by decide +kernel
theorem dX8_check_11 : decode cX8_check 11 = .ok (.i2l, 1) := by decide +kernel
theorem dX8_check_12 : decode cX8_check 12 = .ok (.lconst 1, 1) := by decide +kernel
theorem dX8_check_13 : decode cX8_check 13 = .ok (.ldc2_w 81, 3) := by decide +kernel
theorem dX8_check_16 : decode cX8_check 16 = .ok (.invokestatic 72, 3) := by decide +kernel
theorem dX8_check_19 : decode cX8_check 19 = .ok (.ifCond .ne 6, 3) := by decide +kernel
theorem dX8_check_22 : decode cX8_check 22 = .ok (.ldc 85, 2) := by decide +kernel
theorem dX8_check_24 : decode cX8_check 24 = .ok (.ireturn, 1) := by decide +kernel
theorem dX8_check_25 : decode cX8_check 25 = .ok (.aload_n 0, 1) := by decide +kernel
theorem dX8_check_26 : decode cX8_check 26 = .ok (.getfield 331, 3) := by decide +kernel
theorem dX8_check_29 : decode cX8_check 29 = .ok (.ifCond .ne 7, 3) := by decide +kernel
theorem dX8_check_32 : decode cX8_check 32 = .ok (.ldc_w 327, 3) := by decide +kernel
theorem dX8_check_35 : decode cX8_check 35 = .ok (.ireturn, 1) := by decide +kernel
theorem dX8_check_36 : decode cX8_check 36 = .ok (.aload_n 0, 1) := by decide +kernel
theorem dX8_check_37 : decode cX8_check 37 = .ok (.aload_n 0, 1) := by decide +kernel
theorem dX8_check_38 : decode cX8_check 38 = .ok (.getfield 7, 3) := by decide +kernel
theorem dX8_check_41 : decode cX8_check 41 = .ok (.aload_n 0, 1) := by decide +kernel
theorem dX8_check_42 : decode cX8_check 42 = .ok (.getfield 16, 3) := by decide +kernel
theorem dX8_check_45 : decode cX8_check 45 = .ok (.invokevirtual 335, 3) := by decide +kernel
theorem dX8_check_48 : decode cX8_check 48 = .ok (.aload_n 0, 1) := by decide +kernel
theorem dX8_check_49 : decode cX8_check 49 = .ok (.aload_n 0, 1) := by decide +kernel
theorem dX8_check_50 : decode cX8_check 50 = .ok (.getfield 13, 3) := by decide +kernel
theorem dX8_check_53 : decode cX8_check 53 = .ok (.aload_n 0, 1) := by decide +kernel
theorem dX8_check_54 : decode cX8_check 54 = .ok (.getfield 7, 3) := by decide +kernel
theorem dX8_check_57 : decode cX8_check 57 = .ok (.invokevirtual 335, 3) := by decide +kernel
theorem dX8_check_60 : decode cX8_check 60 = .ok (.iconst 0, 1) := by decide +kernel
theorem dX8_check_61 : decode cX8_check 61 = .ok (.istore_n 3, 1) := by decide +kernel
theorem dX8_check_62 : decode cX8_check 62 = .ok (.iconst 0, 1) := by decide +kernel
theorem dX8_check_63 : decode cX8_check 63 = .ok (.istore 4, 2) := by decide +kernel
theorem dX8_check_65 : decode cX8_check 65 = .ok (.iload 4, 2) := by decide +kernel
theorem dX8_check_67 : decode cX8_check 67 = .ok (.iload_n 1, 1) := by decide +kernel
theorem dX8_check_68 : decode cX8_check 68 = .ok (.if_icmp .ge 51, 3) := by decide +kernel
theorem dX8_check_71 : decode cX8_check 71 = .ok (.aload_n 0, 1) := by decide +kernel
theorem dX8_check_72 : decode cX8_check 72 = .ok (.getfield 7, 3) := by decide +kernel
theorem dX8_check_75 : decode cX8_check 75 = .ok (.iconst 2, 1) := by decide +kernel
theorem dX8_check_76 : decode cX8_check 76 = .ok (.iaload, 1) := by decide +kernel
theorem dX8_check_77 : decode cX8_check 77 = .ok (.ldc 181, 2) := by decide +kernel
theorem dX8_check_79 : decode cX8_check 79 = .ok (.if_icmp .ge 40, 3) := by decide +kernel
theorem dX8_check_82 : decode cX8_check 82 = .ok (.aload_n 0, 1) := by decide +kernel
theorem dX8_check_83 : decode cX8_check 83 = .ok (.invokevirtual 182, 3) := by decide +kernel
theorem dX8_check_86 : decode cX8_check 86 = .ok (.aload_n 0, 1) := by decide +kernel
theorem dX8_check_87 : decode cX8_check 87 = .ok (.getfield 68, 3) := by decide +kernel
theorem dX8_check_90 : decode cX8_check 90 = .ok (.iload_n 3, 1) := by decide +kernel
theorem dX8_check_91 : decode cX8_check 91 = .ok (.aload_n 0, 1) := by decide +kernel
theorem dX8_check_92 : decode cX8_check 92 = .ok (.getfield 7, 3) := by decide +kernel
theorem dX8_check_95 : decode cX8_check 95 = .ok (.iconst 5, 1) := by decide +kernel
theorem dX8_check_96 : decode cX8_check 96 = .ok (.iaload, 1) := by decide +kernel
theorem dX8_check_97 : decode cX8_check 97 = .ok (.iastore, 1) := by decide +kernel
theorem dX8_check_98 : decode cX8_check 98 = .ok (.aload_n 0, 1) := by decide +kernel
theorem dX8_check_99 : decode cX8_check 99 = .ok (.getfield 68, 3) := by decide +kernel
theorem dX8_check_102 : decode cX8_check 102 = .ok (.iload_n 3, 1) := by decide +kernel
theorem dX8_check_103 : decode cX8_check 103 = .ok (.iconst 1, 1) := by decide +kernel
theorem dX8_check_104 : decode cX8_check 104 = .ok (.iadd, 1) := by decide +kernel
theorem dX8_check_105 : decode cX8_check 105 = .ok (.aload_n 0, 1) := by decide +kernel
theorem dX8_check_106 : decode cX8_check 106 = .ok (.invokevirtual 106, 3) := by decide +kernel
theorem dX8_check_109 : decode cX8_check 109 = .ok (.iastore, 1) := by decide +kernel
theorem dX8_check_110 : decode cX8_check 110 = .ok (.iinc 3 2, 3) := by decide +kernel
theorem dX8_check_113 : decode cX8_check 113 = .ok (.iinc 4 1, 3) := by decide +kernel
theorem dX8_check_116 : decode cX8_check 116 = .ok (.goto (-51), 3) := by decide +kernel
theorem dX8_check_119 : decode cX8_check 119 = .ok (.aload_n 0, 1) := by decide +kernel
theorem dX8_check_120 : decode cX8_check 120 = .ok (.aload_n 0, 1) := by decide +kernel
theorem dX8_check_121 : decode cX8_check 121 = .ok (.getfield 16, 3) := by decide +kernel
theorem dX8_check_124 : decode cX8_check 124 = .ok (.aload_n 0, 1) := by decide +kernel
theorem dX8_check_125 : decode cX8_check 125 = .ok (.getfield 7, 3) := by decide +kernel
theorem dX8_check_128 : decode cX8_check 128 = .ok (.invokevirtual 335, 3) := by decide +kernel
theorem dX8_check_131 : decode cX8_check 131 = .ok (.iconst 0, 1) := by decide +kernel
theorem dX8_check_132 : decode cX8_check 132 = .ok (.istore 4, 2) := by decide +kernel
theorem dX8_check_134 : decode cX8_check 134 = .ok (.iload 4, 2) := by decide +kernel
theorem dX8_check_136 : decode cX8_check 136 = .ok (.iload_n 2, 1) := by decide +kernel
theorem dX8_check_137 : decode cX8_check 137 = .ok (.if_icmp .ge 32, 3) := by decide +kernel
theorem dX8_check_140 : decode cX8_check 140 = .ok (.iload 4, 2) := by decide +kernel
theorem dX8_check_142 : decode cX8_check 142 = .ok (.iload_n 3, 1) := by decide +kernel
theorem dX8_check_143 : decode cX8_check 143 = .ok (.if_icmp .ge 26, 3) := by decide +kernel
theorem dX8_check_146 : decode cX8_check 146 = .ok (.aload_n 0, 1) := by decide +kernel
theorem dX8_check_147 : decode cX8_check 147 = .ok (.getfield 65, 3) := by decide +kernel
theorem dX8_check_150 : decode cX8_check 150 = .ok (.iload 4, 2) := by decide +kernel
theorem dX8_check_152 : decode cX8_check 152 = .ok (.iaload, 1) := by decide +kernel
theorem dX8_check_153 : decode cX8_check 153 = .ok (.aload_n 0, 1) := by decide +kernel
theorem dX8_check_154 : decode cX8_check 154 = .ok (.getfield 68, 3) := by decide +kernel
theorem dX8_check_157 : decode cX8_check 157 = .ok (.iload 4, 2) := by decide +kernel
theorem dX8_check_159 : decode cX8_check 159 = .ok (.iaload, 1) := by decide +kernel
theorem dX8_check_160 : decode cX8_check 160 = .ok (.if_icmp .ne 9, 3) := by decide +kernel
theorem dX8_check_163 : decode cX8_check 163 = .ok (.iinc 4 1, 3) := by decide +kernel
theorem dX8_check_166 : decode cX8_check 166 = .ok (.goto (-32), 3) := by decide +kernel
theorem dX8_check_169 : decode cX8_check 169 = .ok (.iload 4, 2) := by decide +kernel
theorem dX8_check_171 : decode cX8_check 171 = .ok (.iload_n 2, 1) := by decide +kernel
theorem dX8_check_172 : decode cX8_check 172 = .ok (.if_icmp .ne 13, 3) := by decide +kernel
theorem dX8_check_175 : decode cX8_check 175 = .ok (.iload 4, 2) := by decide +kernel
theorem dX8_check_177 : decode cX8_check 177 = .ok (.iload_n 3, 1) := by decide +kernel
theorem dX8_check_178 : decode cX8_check 178 = .ok (.if_icmp .ne 7, 3) := by decide +kernel
theorem dX8_check_181 : decode cX8_check 181 = .ok (.iconst 0, 1) := by decide +kernel
theorem dX8_check_182 : decode cX8_check 182 = .ok (.goto 7, 3) := by decide +kernel
theorem dX8_check_185 : decode cX8_check 185 = .ok (.iconst 1, 1) := by decide +kernel
theorem dX8_check_186 : decode cX8_check 186 = .ok (.iload 4, 2) := by decide +kernel
theorem dX8_check_188 : decode cX8_check 188 = .ok (.iadd, 1) := by decide +kernel
theorem dX8_check_189 : decode cX8_check 189 = .ok (.ireturn, 1) := by decide +kernel
theorem dX8_keep_0 : decode cX8_keep 0 = .ok (.aload_n 0, 1) := by decide +kernel
theorem dX8_keep_1 : decode cX8_keep 1 = .ok (.iconst 1, 1) := by decide +kernel
theorem dX8_keep_2 : decode cX8_keep 2 = .ok (.putfield 331, 3) := by decide +kernel
theorem dX8_keep_5 : decode cX8_keep 5 = .ok (.aload_n 0, 1) := by decide +kernel
theorem dX8_keep_6 : decode cX8_keep 6 = .ok (.aload_n 0, 1) := by decide +kernel
theorem dX8_keep_7 : decode cX8_keep 7 = .ok (.getfield 7, 3) := by decide +kernel
theorem dX8_keep_10 : decode cX8_keep 10 = .ok (.aload_n 0, 1) := by decide +kernel
theorem dX8_keep_11 : decode cX8_keep 11 = .ok (.getfield 13, 3) := by decide +kernel
theorem dX8_keep_14 : decode cX8_keep 14 = .ok (.invokevirtual 335, 3) := by decide +kernel
theorem dX8_keep_17 : decode cX8_keep 17 = .ok (.aload_n 0, 1) := by decide +kernel
theorem dX8_keep_18 : decode cX8_keep 18 = .ok (.getfield 7, 3) := by decide +kernel
theorem dX8_keep_21 : decode cX8_keep 21 = .ok (.iconst 0, 1) := by decide +kernel
theorem dX8_keep_22 : decode cX8_keep 22 = .ok (.iaload, 1) := by decide +kernel
theorem dX8_keep_23 : decode cX8_keep 23 = .ok (.ireturn, 1) := by decide +kernel
theorem dX8_back_0 : decode cX8_back 0 = .ok (.aload_n 0, 1) := by decide +kernel
theorem dX8_back_1 : decode cX8_back 1 = .ok (.getfield 331, 3) := by decide +kernel
theorem dX8_back_4 : decode cX8_back 4 = .ok (.ifCond .ne 7, 3) := by decide +kernel
theorem dX8_back_7 : decode cX8_back 7 = .ok (.ldc_w 327, 3) := by decide +kernel
theorem dX8_back_10 : decode cX8_back 10 = .ok (.ireturn, 1) := by decide +kernel
theorem dX8_back_11 : decode cX8_back 11 = .ok (.aload_n 0, 1) := by decide +kernel
theorem dX8_back_12 : decode cX8_back 12 = .ok (.aload_n 0, 1) := by decide +kernel
theorem dX8_back_13 : decode cX8_back 13 = .ok (.getfield 13, 3) := by decide +kernel
theorem dX8_back_16 : decode cX8_back 16 = .ok (.aload_n 0, 1) := by decide +kernel
theorem dX8_back_17 : decode cX8_back 17 = .ok (.getfield 7, 3) := by decide +kernel
theorem dX8_back_20 : decode cX8_back 20 = .ok (.invokevirtual 335, 3) := by decide +kernel
theorem dX8_back_23 : decode cX8_back 23 = .ok (.aload_n 0, 1) := by decide +kernel
theorem dX8_back_24 : decode cX8_back 24 = .ok (.getfield 7, 3) := by decide +kernel
theorem dX8_back_27 : decode cX8_back 27 = .ok (.iconst 0, 1) := by decide +kernel
theorem dX8_back_28 : decode cX8_back 28 = .ok (.iaload, 1) := by decide +kernel
theorem dX8_back_29 : decode cX8_back 29 = .ok (.ireturn, 1) := by decide +kernel
theorem dX8_count_0 : decode cX8_count 0 = .ok (.iload_n 1, 1) := by decide +kernel
theorem dX8_count_1 : decode cX8_count 1 = .ok (.tableswitch 144 0 11 #[63, 70, 75, 82, 89, 97, 105, 112, 119, 126, 131, 136], 63) := by decide +kernel
theorem dX8_count_64 : decode cX8_count 64 = .ok (.aload_n 0, 1) := by decide +kernel
theorem dX8_count_65 : decode cX8_count 65 = .ok (.getfield 7, 3) := by decide +kernel
theorem dX8_count_68 : decode cX8_count 68 = .ok (.iconst 0, 1) := by decide +kernel
theorem dX8_count_69 : decode cX8_count 69 = .ok (.iaload, 1) := by decide +kernel
theorem dX8_count_70 : decode cX8_count 70 = .ok (.ireturn, 1) := by decide +kernel
theorem dX8_count_71 : decode cX8_count 71 = .ok (.aload_n 0, 1) := by decide +kernel
theorem dX8_count_72 : decode cX8_count 72 = .ok (.invokevirtual 106, 3) := by decide +kernel
theorem dX8_count_75 : decode cX8_count 75 = .ok (.ireturn, 1) := by decide +kernel
theorem dX8_count_76 : decode cX8_count 76 = .ok (.aload_n 0, 1) := by decide +kernel
theorem dX8_count_77 : decode cX8_count 77 = .ok (.getfield 7, 3) := by decide +kernel
theorem dX8_count_80 : decode cX8_count 80 = .ok (.iconst 2, 1) := by decide +kernel
theorem dX8_count_81 : decode cX8_count 81 = .ok (.iaload, 1) := by decide +kernel
theorem dX8_count_82 : decode cX8_count 82 = .ok (.ireturn, 1) := by decide +kernel
theorem dX8_count_83 : decode cX8_count 83 = .ok (.aload_n 0, 1) := by decide +kernel
theorem dX8_count_84 : decode cX8_count 84 = .ok (.getfield 7, 3) := by decide +kernel
theorem dX8_count_87 : decode cX8_count 87 = .ok (.iconst 5, 1) := by decide +kernel
theorem dX8_count_88 : decode cX8_count 88 = .ok (.iaload, 1) := by decide +kernel
theorem dX8_count_89 : decode cX8_count 89 = .ok (.ireturn, 1) := by decide +kernel
theorem dX8_count_90 : decode cX8_count 90 = .ok (.aload_n 0, 1) := by decide +kernel
theorem dX8_count_91 : decode cX8_count 91 = .ok (.getfield 7, 3) := by decide +kernel
theorem dX8_count_94 : decode cX8_count 94 = .ok (.bipush 8, 2) := by decide +kernel
theorem dX8_count_96 : decode cX8_count 96 = .ok (.iaload, 1) := by decide +kernel
theorem dX8_count_97 : decode cX8_count 97 = .ok (.ireturn, 1) := by decide +kernel
theorem dX8_count_98 : decode cX8_count 98 = .ok (.aload_n 0, 1) := by decide +kernel
theorem dX8_count_99 : decode cX8_count 99 = .ok (.getfield 7, 3) := by decide +kernel
theorem dX8_count_102 : decode cX8_count 102 = .ok (.bipush 9, 2) := by decide +kernel
theorem dX8_count_104 : decode cX8_count 104 = .ok (.iaload, 1) := by decide +kernel
theorem dX8_count_105 : decode cX8_count 105 = .ok (.ireturn, 1) := by decide +kernel
theorem dX8_count_106 : decode cX8_count 106 = .ok (.aload_n 0, 1) := by decide +kernel
theorem dX8_count_107 : decode cX8_count 107 = .ok (.bipush 9, 2) := by decide +kernel
theorem dX8_count_109 : decode cX8_count 109 = .ok (.invokevirtual 185, 3) := by decide +kernel
theorem dX8_count_112 : decode cX8_count 112 = .ok (.ireturn, 1) := by decide +kernel
theorem dX8_count_113 : decode cX8_count 113 = .ok (.aload_n 0, 1) := by decide +kernel
theorem dX8_count_114 : decode cX8_count 114 = .ok (.bipush 10, 2) := by decide +kernel
theorem dX8_count_116 : decode cX8_count 116 = .ok (.invokevirtual 185, 3) := by decide +kernel
theorem dX8_count_119 : decode cX8_count 119 = .ok (.ireturn, 1) := by decide +kernel
theorem dX8_count_120 : decode cX8_count 120 = .ok (.aload_n 0, 1) := by decide +kernel
theorem dX8_count_121 : decode cX8_count 121 = .ok (.getfield 7, 3) := by decide +kernel
theorem dX8_count_124 : decode cX8_count 124 = .ok (.iconst 1, 1) := by decide +kernel
theorem dX8_count_125 : decode cX8_count 125 = .ok (.iaload, 1) := by decide +kernel
theorem dX8_count_126 : decode cX8_count 126 = .ok (.ireturn, 1) := by decide +kernel
theorem dX8_count_127 : decode cX8_count 127 = .ok (.aload_n 0, 1) := by decide +kernel
theorem dX8_count_128 : decode cX8_count 128 = .ok (.getfield 328, 3) := by decide +kernel
theorem dX8_count_131 : decode cX8_count 131 = .ok (.ireturn, 1) := by decide +kernel
theorem dX8_count_132 : decode cX8_count 132 = .ok (.aload_n 0, 1) := by decide +kernel
theorem dX8_count_133 : decode cX8_count 133 = .ok (.getfield 206, 3) := by decide +kernel
theorem dX8_count_136 : decode cX8_count 136 = .ok (.ireturn, 1) := by decide +kernel
theorem dX8_count_137 : decode cX8_count 137 = .ok (.aload_n 0, 1) := by decide +kernel
theorem dX8_count_138 : decode cX8_count 138 = .ok (.getfield 7, 3) := by decide +kernel
theorem dX8_count_141 : decode cX8_count 141 = .ok (.bipush 10, 2) := by decide +kernel
theorem dX8_count_143 : decode cX8_count 143 = .ok (.iaload, 1) := by decide +kernel
theorem dX8_count_144 : decode cX8_count 144 = .ok (.ireturn, 1) := by decide +kernel
theorem dX8_count_145 : decode cX8_count 145 = .ok (.ldc 85, 2) := by decide +kernel
theorem dX8_count_147 : decode cX8_count 147 = .ok (.ireturn, 1) := by decide +kernel
