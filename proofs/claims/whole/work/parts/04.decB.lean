theorem dX6_init_0 : decode cX6_init 0 = .ok (.aload_n 0, 1) := by decide +kernel
theorem dX6_init_1 : decode cX6_init 1 = .ok (.invokespecial 1, 3) := by decide +kernel
theorem dX6_init_4 : decode cX6_init 4 = .ok (.aload_n 0, 1) := by decide +kernel
theorem dX6_init_5 : decode cX6_init 5 = .ok (.bipush 23, 2) := by decide +kernel
theorem dX6_init_7 : decode cX6_init 7 = .ok (.newarray .int, 2) := by decide +kernel
theorem dX6_init_9 : decode cX6_init 9 = .ok (.putfield 7, 3) := by decide +kernel
theorem dX6_init_12 : decode cX6_init 12 = .ok (.aload_n 0, 1) := by decide +kernel
theorem dX6_init_13 : decode cX6_init 13 = .ok (.bipush 9, 2) := by decide +kernel
theorem dX6_init_15 : decode cX6_init 15 = .ok (.newarray .int, 2) := by decide +kernel
theorem dX6_init_17 : decode cX6_init 17 = .ok (.putfield 13, 3) := by decide +kernel
theorem dX6_init_20 : decode cX6_init 20 = .ok (.aload_n 0, 1) := by decide +kernel
theorem dX6_init_21 : decode cX6_init 21 = .ok (.iconst 5, 1) := by decide +kernel
theorem dX6_init_22 : decode cX6_init 22 = .ok (.newarray .int, 2) := by decide +kernel
theorem dX6_init_24 : decode cX6_init 24 = .ok (.putfield 16, 3) := by decide +kernel
theorem dX6_init_27 : decode cX6_init 27 = .ok (.aload_n 0, 1) := by decide +kernel
theorem dX6_init_28 : decode cX6_init 28 = .ok (.bipush 8, 2) := by decide +kernel
theorem dX6_init_30 : decode cX6_init 30 = .ok (.newarray .int, 2) := by decide +kernel
theorem dX6_init_32 : decode cX6_init 32 = .ok (.putfield 19, 3) := by decide +kernel
theorem dX6_init_35 : decode cX6_init 35 = .ok (.aload_n 0, 1) := by decide +kernel
theorem dX6_init_36 : decode cX6_init 36 = .ok (.bipush 8, 2) := by decide +kernel
theorem dX6_init_38 : decode cX6_init 38 = .ok (.newarray .int, 2) := by decide +kernel
theorem dX6_init_40 : decode cX6_init 40 = .ok (.putfield 22, 3) := by decide +kernel
theorem dX6_init_43 : decode cX6_init 43 = .ok (.aload_n 0, 1) := by decide +kernel
theorem dX6_init_44 : decode cX6_init 44 = .ok (.iconst 4, 1) := by decide +kernel
theorem dX6_init_45 : decode cX6_init 45 = .ok (.newarray .int, 2) := by decide +kernel
theorem dX6_init_47 : decode cX6_init 47 = .ok (.putfield 25, 3) := by decide +kernel
theorem dX6_init_50 : decode cX6_init 50 = .ok (.aload_n 0, 1) := by decide +kernel
theorem dX6_init_51 : decode cX6_init 51 = .ok (.bipush 10, 2) := by decide +kernel
theorem dX6_init_53 : decode cX6_init 53 = .ok (.newarray .int, 2) := by decide +kernel
theorem dX6_init_55 : decode cX6_init 55 = .ok (.putfield 28, 3) := by decide +kernel
theorem dX6_init_58 : decode cX6_init 58 = .ok (.aload_n 0, 1) := by decide +kernel
theorem dX6_init_59 : decode cX6_init 59 = .ok (.bipush 10, 2) := by decide +kernel
theorem dX6_init_61 : decode cX6_init 61 = .ok (.newarray .int, 2) := by decide +kernel
theorem dX6_init_63 : decode cX6_init 63 = .ok (.putfield 31, 3) := by decide +kernel
theorem dX6_init_66 : decode cX6_init 66 = .ok (.aload_n 0, 1) := by decide +kernel
theorem dX6_init_67 : decode cX6_init 67 = .ok (.bipush 12, 2) := by decide +kernel
theorem dX6_init_69 : decode cX6_init 69 = .ok (.newarray .int, 2) := by decide +kernel
theorem dX6_init_71 : decode cX6_init 71 = .ok (.putfield 34, 3) := by decide +kernel
theorem dX6_init_74 : decode cX6_init 74 = .ok (.aload_n 0, 1) := by decide +kernel
theorem dX6_init_75 : decode cX6_init 75 = .ok (.bipush 12, 2) := by decide +kernel
theorem dX6_init_77 : decode cX6_init 77 = .ok (.newarray .int, 2) := by decide +kernel
theorem dX6_init_79 : decode cX6_init 79 = .ok (.putfield 37, 3) := by decide +kernel
theorem dX6_init_82 : decode cX6_init 82 = .ok (.aload_n 0, 1) := by decide +kernel
theorem dX6_init_83 : decode cX6_init 83 = .ok (.bipush 12, 2) := by decide +kernel
theorem dX6_init_85 : decode cX6_init 85 = .ok (.newarray .int, 2) := by decide +kernel
theorem dX6_init_87 : decode cX6_init 87 = .ok (.putfield 40, 3) := by decide +kernel
theorem dX6_init_90 : decode cX6_init 90 = .ok (.aload_n 0, 1) := by decide +kernel
theorem dX6_init_91 : decode cX6_init 91 = .ok (.bipush 6, 2) := by decide +kernel
theorem dX6_init_93 : decode cX6_init 93 = .ok (.newarray .int, 2) := by decide +kernel
theorem dX6_init_95 : decode cX6_init 95 = .ok (.putfield 43, 3) := by decide +kernel
theorem dX6_init_98 : decode cX6_init 98 = .ok (.aload_n 0, 1) := by decide +kernel
theorem dX6_init_99 : decode cX6_init 99 = .ok (.bipush 6, 2) := by decide +kernel
theorem dX6_init_101 : decode cX6_init 101 = .ok (.newarray .int, 2) := by decide +kernel
theorem dX6_init_103 : decode cX6_init 103 = .ok (.putfield 46, 3) := by decide +kernel
theorem dX6_init_106 : decode cX6_init 106 = .ok (.aload_n 0, 1) := by decide +kernel
theorem dX6_init_107 : decode cX6_init 107 = .ok (.bipush 40, 2) := by decide +kernel
theorem dX6_init_109 : decode cX6_init 109 = .ok (.newarray .int, 2) := by decide +kernel
theorem dX6_init_111 : decode cX6_init 111 = .ok (.putfield 49, 3) := by decide +kernel
theorem dX6_init_114 : decode cX6_init 114 = .ok (.aload_n 0, 1) := by decide +kernel
theorem dX6_init_115 : decode cX6_init 115 = .ok (.bipush 80, 2) := by decide +kernel
theorem dX6_init_117 : decode cX6_init 117 = .ok (.newarray .int, 2) := by decide +kernel
theorem dX6_init_119 : decode cX6_init 119 = .ok (.putfield 52, 3) := by decide +kernel
theorem dX6_init_122 : decode cX6_init 122 = .ok (.aload_n 0, 1) := by decide +kernel
theorem dX6_init_123 : decode cX6_init 123 = .ok (.bipush 40, 2) := by decide +kernel
theorem dX6_init_125 : decode cX6_init 125 = .ok (.newarray .int, 2) := by decide +kernel
theorem dX6_init_127 : decode cX6_init 127 = .ok (.putfield 55, 3) := by decide +kernel
theorem dX6_init_130 : decode cX6_init 130 = .ok (.aload_n 0, 1) := by decide +kernel
theorem dX6_init_131 : decode cX6_init 131 = .ok (.iconst 3, 1) := by decide +kernel
theorem dX6_init_132 : decode cX6_init 132 = .ok (.newarray .int, 2) := by decide +kernel
theorem dX6_init_134 : decode cX6_init 134 = .ok (.putfield 58, 3) := by decide +kernel
theorem dX6_init_137 : decode cX6_init 137 = .ok (.aload_n 0, 1) := by decide +kernel
theorem dX6_init_138 : decode cX6_init 138 = .ok (.bipush 6, 2) := by decide +kernel
theorem dX6_init_140 : decode cX6_init 140 = .ok (.newarray .int, 2) := by decide +kernel
theorem dX6_init_142 : decode cX6_init 142 = .ok (.putfield 61, 3) := by decide +kernel
theorem dX6_init_145 : decode cX6_init 145 = .ok (.aload_n 0, 1) := by decide +kernel
theorem dX6_init_146 : decode cX6_init 146 = .ok (.bipush 6, 2) := by decide +kernel
theorem dX6_init_148 : decode cX6_init 148 = .ok (.newarray .int, 2) := by decide +kernel
theorem dX6_init_150 : decode cX6_init 150 = .ok (.putfield 64, 3) := by decide +kernel
theorem dX6_init_153 : decode cX6_init 153 = .ok (.aload_n 0, 1) := by decide +kernel
theorem dX6_init_154 : decode cX6_init 154 = .ok (.bipush 6, 2) := by decide +kernel
theorem dX6_init_156 : decode cX6_init 156 = .ok (.newarray .int, 2) := by decide +kernel
theorem dX6_init_158 : decode cX6_init 158 = .ok (.putfield 67, 3) := by decide +kernel
theorem dX6_init_161 : decode cX6_init 161 = .ok (.aload_n 0, 1) := by decide +kernel
theorem dX6_init_162 : decode cX6_init 162 = .ok (.sipush 729, 3) := by decide +kernel
theorem dX6_init_165 : decode cX6_init 165 = .ok (.newarray .int, 2) := by decide +kernel
theorem dX6_init_167 : decode cX6_init 167 = .ok (.putfield 70, 3) := by decide +kernel
theorem dX6_init_170 : decode cX6_init 170 = .ok (.aload_n 0, 1) := by decide +kernel
theorem dX6_init_171 : decode cX6_init 171 = .ok (.bipush 8, 2) := by decide +kernel
theorem dX6_init_173 : decode cX6_init 173 = .ok (.newarray .int, 2) := by decide +kernel
theorem dX6_init_175 : decode cX6_init 175 = .ok (.putfield 73, 3) := by decide +kernel
theorem dX6_init_178 : decode cX6_init 178 = .ok (.aload_n 0, 1) := by decide +kernel
theorem dX6_init_179 : decode cX6_init 179 = .ok (.bipush 8, 2) := by decide +kernel
theorem dX6_init_181 : decode cX6_init 181 = .ok (.newarray .int, 2) := by decide +kernel
theorem dX6_init_183 : decode cX6_init 183 = .ok (.putfield 76, 3) := by decide +kernel
theorem dX6_init_186 : decode cX6_init 186 = .ok (.aload_n 0, 1) := by decide +kernel
theorem dX6_init_187 : decode cX6_init 187 = .ok (.bipush 8, 2) := by decide +kernel
theorem dX6_init_189 : decode cX6_init 189 = .ok (.newarray .int, 2) := by decide +kernel
theorem dX6_init_191 : decode cX6_init 191 = .ok (.putfield 79, 3) := by decide +kernel
theorem dX6_init_194 : decode cX6_init 194 = .ok (.aload_n 0, 1) := by decide +kernel
theorem dX6_init_195 : decode cX6_init 195 = .ok (.bipush 8, 2) := by decide +kernel
theorem dX6_init_197 : decode cX6_init 197 = .ok (.newarray .int, 2) := by decide +kernel
theorem dX6_init_199 : decode cX6_init 199 = .ok (.putfield 82, 3) := by decide +kernel
theorem dX6_init_202 : decode cX6_init 202 = .ok (.aload_n 0, 1) := by decide +kernel
theorem dX6_init_203 : decode cX6_init 203 = .ok (.bipush 8, 2) := by decide +kernel
theorem dX6_init_205 : decode cX6_init 205 = .ok (.newarray .int, 2) := by decide +kernel
theorem dX6_init_207 : decode cX6_init 207 = .ok (.putfield 85, 3) := by decide +kernel
theorem dX6_init_210 : decode cX6_init 210 = .ok (.aload_n 0, 1) := by decide +kernel
theorem dX6_init_211 : decode cX6_init 211 = .ok (.iconst 4, 1) := by decide +kernel
theorem dX6_init_212 : decode cX6_init 212 = .ok (.newarray .boolean, 2) := by decide +kernel
theorem dX6_init_214 : decode cX6_init 214 = .ok (.putfield 88, 3) := by decide +kernel
theorem dX6_init_217 : decode cX6_init 217 = .ok (.aload_n 0, 1) := by decide +kernel
theorem dX6_init_218 : decode cX6_init 218 = .ok (.iconst 4, 1) := by decide +kernel
theorem dX6_init_219 : decode cX6_init 219 = .ok (.newarray .int, 2) := by decide +kernel
theorem dX6_init_221 : decode cX6_init 221 = .ok (.putfield 92, 3) := by decide +kernel
theorem dX6_init_224 : decode cX6_init 224 = .ok (.aload_n 0, 1) := by decide +kernel
theorem dX6_init_225 : decode cX6_init 225 = .ok (.iconst 4, 1) := by decide +kernel
theorem dX6_init_226 : decode cX6_init 226 = .ok (.newarray .int, 2) := by decide +kernel
theorem dX6_init_228 : decode cX6_init 228 = .ok (.putfield 95, 3) := by decide +kernel
theorem dX6_init_231 : decode cX6_init 231 = .ok (.aload_n 0, 1) := by decide +kernel
theorem dX6_init_232 : decode cX6_init 232 = .ok (.sipush 240, 3) := by decide +kernel
theorem dX6_init_235 : decode cX6_init 235 = .ok (.newarray .int, 2) := by decide +kernel
theorem dX6_init_237 : decode cX6_init 237 = .ok (.putfield 98, 3) := by decide +kernel
theorem dX6_init_240 : decode cX6_init 240 = .ok (.aload_n 0, 1) := by decide +kernel
theorem dX6_init_241 : decode cX6_init 241 = .ok (.bipush 60, 2) := by decide +kernel
theorem dX6_init_243 : decode cX6_init 243 = .ok (.newarray .int, 2) := by decide +kernel
theorem dX6_init_245 : decode cX6_init 245 = .ok (.putfield 101, 3) := by decide +kernel
theorem dX6_init_248 : decode cX6_init 248 = .ok (.return_, 1) := by decide +kernel
theorem dX6_in_0 : decode cX6_in 0 = .ok (.iload_n 0, 1) := by decide +kernel
theorem dX6_in_1 : decode cX6_in 1 = .ok (.iload_n 1, 1) := by decide +kernel
theorem dX6_in_2 : decode cX6_in 2 = .ok (.if_icmp .lt 12, 3) := by decide +kernel
theorem dX6_in_5 : decode cX6_in 5 = .ok (.iload_n 0, 1) := by decide +kernel
theorem dX6_in_6 : decode cX6_in 6 = .ok (.iload_n 2, 1) := by decide +kernel
theorem dX6_in_7 : decode cX6_in 7 = .ok (.if_icmp .gt 7, 3) := by decide +kernel
theorem dX6_in_10 : decode cX6_in 10 = .ok (.iconst 1, 1) := by decide +kernel
theorem dX6_in_11 : decode cX6_in 11 = .ok (.goto 4, 3) := by decide +kernel
theorem dX6_in_14 : decode cX6_in 14 = .ok (.iconst 0, 1) := by decide +kernel
theorem dX6_in_15 : decode cX6_in 15 = .ok (.ireturn, 1) := by decide +kernel
theorem dX6_isIn_0 : decode cX6_isIn 0 = .ok (.iload_n 0, 1) := by decide +kernel
theorem dX6_isIn_1 : decode cX6_isIn 1 = .ok (.iload_n 1, 1) := by decide +kernel
theorem dX6_isIn_2 : decode cX6_isIn 2 = .ok (.ishr, 1) := by decide +kernel
theorem dX6_isIn_3 : decode cX6_isIn 3 = .ok (.iconst 1, 1) := by decide +kernel
theorem dX6_isIn_4 : decode cX6_isIn 4 = .ok (.iand, 1) := by decide +kernel
theorem dX6_isIn_5 : decode cX6_isIn 5 = .ok (.iconst 1, 1) := by decide +kernel
theorem dX6_isIn_6 : decode cX6_isIn 6 = .ok (.if_icmp .ne 7, 3) := by decide +kernel
theorem dX6_isIn_9 : decode cX6_isIn 9 = .ok (.iconst 1, 1) := by decide +kernel
theorem dX6_isIn_10 : decode cX6_isIn 10 = .ok (.goto 4, 3) := by decide +kernel
theorem dX6_isIn_13 : decode cX6_isIn 13 = .ok (.iconst 0, 1) := by decide +kernel
theorem dX6_isIn_14 : decode cX6_isIn 14 = .ok (.ireturn, 1) := by decide +kernel
theorem dX6_ones_0 : decode cX6_ones 0 = .ok (.iconst 0, 1) := by decide +kernel
theorem dX6_ones_1 : decode cX6_ones 1 = .ok (.istore_n 1, 1) := by decide +kernel
theorem dX6_ones_2 : decode cX6_ones 2 = .ok (.iconst 0, 1) := by decide +kernel
theorem dX6_ones_3 : decode cX6_ones 3 = .ok (.istore_n 2, 1) := by decide +kernel
theorem dX6_ones_4 : decode cX6_ones 4 = .ok (.iload_n 2, 1) := by decide +kernel
theorem dX6_ones_5 : decode cX6_ones 5 = .ok (.bipush 8, 2) := by decide +kernel
theorem dX6_ones_7 : decode cX6_ones 7 = .ok (.if_icmp .ge 17, 3) := by decide +kernel
theorem dX6_ones_10 : decode cX6_ones 10 = .ok (.iload_n 1, 1) := by decide +kernel
theorem dX6_ones_11 : decode cX6_ones 11 = .ok (.iload_n 0, 1) := by decide +kernel
theorem dX6_ones_12 : decode cX6_ones 12 = .ok (.iload_n 2, 1) := by decide +kernel
theorem dX6_ones_13 : decode cX6_ones 13 = .ok (.ishr, 1) := by decide +kernel
theorem dX6_ones_14 : decode cX6_ones 14 = .ok (.iconst 1, 1) := by decide +kernel
theorem dX6_ones_15 : decode cX6_ones 15 = .ok (.iand, 1) := by decide +kernel
theorem dX6_ones_16 : decode cX6_ones 16 = .ok (.iadd, 1) := by decide +kernel
theorem dX6_ones_17 : decode cX6_ones 17 = .ok (.istore_n 1, 1) := by decide +kernel
theorem dX6_ones_18 : decode cX6_ones 18 = .ok (.iinc 2 1, 3) := by decide +kernel
theorem dX6_ones_21 : decode cX6_ones 21 = .ok (.goto (-17), 3) := by decide +kernel
theorem dX6_ones_24 : decode cX6_ones 24 = .ok (.iload_n 1, 1) := by decide +kernel
theorem dX6_ones_25 : decode cX6_ones 25 = .ok (.ireturn, 1) := by decide +kernel
theorem dX6_no_0 : decode cX6_no 0 = .ok (.ldc2_w 104, 3) := by decide +kernel
theorem dX6_no_3 : decode cX6_no 3 = .ok (.iload_n 0, 1) := by decide +kernel
theorem dX6_no_4 : decode cX6_no 4 = .ok (.i2l, 1) := by decide +kernel
theorem dX6_no_5 : decode cX6_no 5 = .ok (.lsub, 1) := by decide +kernel
theorem dX6_no_6 : decode cX6_no 6 = .ok (.lreturn, 1) := by decide +kernel
theorem dX6_lowest_0 : decode cX6_lowest 0 = .ok (.lload_n 0, 1) := by decide +kernel
theorem dX6_lowest_1 : decode cX6_lowest 1 = .ok (.lstore 5, 2) := by decide +kernel
theorem dX6_lowest_3 : decode cX6_lowest 3 = .ok (.lload_n 2, 1) := by decide +kernel
theorem dX6_lowest_4 : decode cX6_lowest 4 = .ok (.lstore 7, 2) := by decide +kernel
theorem dX6_lowest_6 : decode cX6_lowest 6 = .ok (.lload 7, 2) := by decide +kernel
theorem dX6_lowest_8 : decode cX6_lowest 8 = .ok (.lconst 0, 1) := by decide +kernel
theorem dX6_lowest_9 : decode cX6_lowest 9 = .ok (.lcmp, 1) := by decide +kernel
theorem dX6_lowest_10 : decode cX6_lowest 10 = .ok (.ifCond .eq 21, 3) := by decide +kernel
theorem dX6_lowest_13 : decode cX6_lowest 13 = .ok (.lload 5, 2) := by decide +kernel
theorem dX6_lowest_15 : decode cX6_lowest 15 = .ok (.lload 7, 2) := by decide +kernel
theorem dX6_lowest_17 : decode cX6_lowest 17 = .ok (.lrem, 1) := by decide +kernel
theorem dX6_lowest_18 : decode cX6_lowest 18 = .ok (.lstore 9, 2) := by decide +kernel
theorem dX6_lowest_20 : decode cX6_lowest 20 = .ok (.lload 7, 2) := by decide +kernel
theorem dX6_lowest_22 : decode cX6_lowest 22 = .ok (.lstore 5, 2) := by decide +kernel
theorem dX6_lowest_24 : decode cX6_lowest 24 = .ok (.lload 9, 2) := by decide +kernel
theorem dX6_lowest_26 : decode cX6_lowest 26 = .ok (.lstore 7, 2) := by decide +kernel
theorem dX6_lowest_28 : decode cX6_lowest 28 = .ok (.goto (-22), 3) := by decide +kernel
theorem dX6_lowest_31 : decode cX6_lowest 31 = .ok (.iload 4, 2) := by decide +kernel
theorem dX6_lowest_33 : decode cX6_lowest 33 = .ok (.ifCond .ne 10, 3) := by decide +kernel
theorem dX6_lowest_36 : decode cX6_lowest 36 = .ok (.lload_n 0, 1) := by decide +kernel
theorem dX6_lowest_37 : decode cX6_lowest 37 = .ok (.lload 5, 2) := by decide +kernel
theorem dX6_lowest_39 : decode cX6_lowest 39 = .ok (.ldiv, 1) := by decide +kernel
theorem dX6_lowest_40 : decode cX6_lowest 40 = .ok (.goto 7, 3) := by decide +kernel
theorem dX6_lowest_43 : decode cX6_lowest 43 = .ok (.lload_n 2, 1) := by decide +kernel
theorem dX6_lowest_44 : decode cX6_lowest 44 = .ok (.lload 5, 2) := by decide +kernel
theorem dX6_lowest_46 : decode cX6_lowest 46 = .ok (.ldiv, 1) := by decide +kernel
theorem dX6_lowest_47 : decode cX6_lowest 47 = .ok (.lreturn, 1) := by decide +kernel
theorem dX6_isDay_0 : decode cX6_isDay 0 = .ok (.iload_n 0, 1) := by decide +kernel
theorem dX6_isDay_1 : decode cX6_isDay 1 = .ok (.iconst 0, 1) := by decide +kernel
theorem dX6_isDay_2 : decode cX6_isDay 2 = .ok (.bipush 39, 2) := by decide +kernel
theorem dX6_isDay_4 : decode cX6_isDay 4 = .ok (.invokestatic 106, 3) := by decide +kernel
theorem dX6_isDay_7 : decode cX6_isDay 7 = .ok (.ireturn, 1) := by decide +kernel
theorem dX6_isEight_0 : decode cX6_isEight 0 = .ok (.iload_n 0, 1) := by decide +kernel
theorem dX6_isEight_1 : decode cX6_isEight 1 = .ok (.iconst 0, 1) := by decide +kernel
theorem dX6_isEight_2 : decode cX6_isEight 2 = .ok (.bipush 7, 2) := by decide +kernel
theorem dX6_isEight_4 : decode cX6_isEight 4 = .ok (.invokestatic 106, 3) := by decide +kernel
theorem dX6_isEight_7 : decode cX6_isEight 7 = .ok (.ireturn, 1) := by decide +kernel
theorem dX6_isTwo_0 : decode cX6_isTwo 0 = .ok (.iload_n 0, 1) := by decide +kernel
theorem dX6_isTwo_1 : decode cX6_isTwo 1 = .ok (.iconst 0, 1) := by decide +kernel
theorem dX6_isTwo_2 : decode cX6_isTwo 2 = .ok (.iconst 1, 1) := by decide +kernel
theorem dX6_isTwo_3 : decode cX6_isTwo 3 = .ok (.invokestatic 106, 3) := by decide +kernel
theorem dX6_isTwo_6 : decode cX6_isTwo 6 = .ok (.ireturn, 1) := by decide +kernel
theorem dX6_type_0 : decode cX6_type 0 = .ok (.iload_n 1, 1) := by decide +kernel
theorem dX6_type_1 : decode cX6_type 1 = .ok (.iconst 0, 1) := by decide +kernel
theorem dX6_type_2 : decode cX6_type 2 = .ok (.sipush 255, 3) := by decide +kernel
theorem dX6_type_5 : decode cX6_type 5 = .ok (.invokestatic 106, 3) := by decide +kernel
theorem dX6_type_8 : decode cX6_type 8 = .ok (.ifCond .ne 6, 3) := by decide +kernel
theorem dX6_type_11 : decode cX6_type 11 = .ok (.bipush (-2), 2) := by decide +kernel
theorem dX6_type_13 : decode cX6_type 13 = .ok (.ireturn, 1) := by decide +kernel
theorem dX6_type_14 : decode cX6_type 14 = .ok (.aload_n 0, 1) := by decide +kernel
theorem dX6_type_15 : decode cX6_type 15 = .ok (.getfield 110, 3) := by decide +kernel
theorem dX6_type_18 : decode cX6_type 18 = .ok (.bipush 23, 2) := by decide +kernel
theorem dX6_type_20 : decode cX6_type 20 = .ok (.if_icmp .ne 6, 3) := by decide +kernel
theorem dX6_type_23 : decode cX6_type 23 = .ok (.bipush (-4), 2) := by decide +kernel
theorem dX6_type_25 : decode cX6_type 25 = .ok (.ireturn, 1) := by decide +kernel
theorem dX6_type_26 : decode cX6_type 26 = .ok (.aload_n 0, 1) := by decide +kernel
theorem dX6_type_27 : decode cX6_type 27 = .ok (.getfield 7, 3) := by decide +kernel
theorem dX6_type_30 : decode cX6_type 30 = .ok (.aload_n 0, 1) := by decide +kernel
theorem dX6_type_31 : decode cX6_type 31 = .ok (.getfield 110, 3) := by decide +kernel
theorem dX6_type_34 : decode cX6_type 34 = .ok (.iload_n 1, 1) := by decide +kernel
theorem dX6_type_35 : decode cX6_type 35 = .ok (.iastore, 1) := by decide +kernel
theorem dX6_type_36 : decode cX6_type 36 = .ok (.aload_n 0, 1) := by decide +kernel
theorem dX6_type_37 : decode cX6_type 37 = .ok (.dup, 1) := by decide +kernel
theorem dX6_type_38 : decode cX6_type 38 = .ok (.getfield 110, 3) := by decide +kernel
theorem dX6_type_41 : decode cX6_type 41 = .ok (.iconst 1, 1) := by decide +kernel
theorem dX6_type_42 : decode cX6_type 42 = .ok (.iadd, 1) := by decide +kernel
theorem dX6_type_43 : decode cX6_type 43 = .ok (.putfield 110, 3) := by decide +kernel
theorem dX6_type_46 : decode cX6_type 46 = .ok (.aload_n 0, 1) := by decide +kernel
theorem dX6_type_47 : decode cX6_type 47 = .ok (.getfield 110, 3) := by decide +kernel
theorem dX6_type_50 : decode cX6_type 50 = .ok (.ireturn, 1) := by decide +kernel
theorem dX6_wipe_0 : decode cX6_wipe 0 = .ok (.aload_n 0, 1) := by decide +kernel
theorem dX6_wipe_1 : decode cX6_wipe 1 = .ok (.getfield 110, 3) := by decide +kernel
theorem dX6_wipe_4 : decode cX6_wipe 4 = .ok (.istore_n 1, 1) := by decide +kernel
theorem dX6_wipe_5 : decode cX6_wipe 5 = .ok (.aload_n 0, 1) := by decide +kernel
theorem dX6_wipe_6 : decode cX6_wipe 6 = .ok (.iconst 0, 1) := by decide +kernel
theorem dX6_wipe_7 : decode cX6_wipe 7 = .ok (.putfield 110, 3) := by decide +kernel
theorem dX6_wipe_10 : decode cX6_wipe 10 = .ok (.iload_n 1, 1) := by decide +kernel
theorem dX6_wipe_11 : decode cX6_wipe 11 = .ok (.ireturn, 1) := by decide +kernel
theorem dX6_undo_0 : decode cX6_undo 0 = .ok (.aload_n 0, 1) := by decide +kernel
theorem dX6_undo_1 : decode cX6_undo 1 = .ok (.getfield 110, 3) := by decide +kernel
theorem dX6_undo_4 : decode cX6_undo 4 = .ok (.ifCond .ne 6, 3) := by decide +kernel
theorem dX6_undo_7 : decode cX6_undo 7 = .ok (.bipush (-3), 2) := by decide +kernel
theorem dX6_undo_9 : decode cX6_undo 9 = .ok (.ireturn, 1) := by decide +kernel
theorem dX6_undo_10 : decode cX6_undo 10 = .ok (.aload_n 0, 1) := by decide +kernel
theorem dX6_undo_11 : decode cX6_undo 11 = .ok (.dup, 1) := by decide +kernel
theorem dX6_undo_12 : decode cX6_undo 12 = .ok (.getfield 110, 3) := by decide +kernel
theorem dX6_undo_15 : decode cX6_undo 15 = .ok (.iconst 1, 1) := by decide +kernel
theorem dX6_undo_16 : decode cX6_undo 16 = .ok (.isub, 1) := by decide +kernel
theorem dX6_undo_17 : decode cX6_undo 17 = .ok (.putfield 110, 3) := by decide +kernel
theorem dX6_undo_20 : decode cX6_undo 20 = .ok (.aload_n 0, 1) := by decide +kernel
theorem dX6_undo_21 : decode cX6_undo 21 = .ok (.getfield 110, 3) := by decide +kernel
theorem dX6_undo_24 : decode cX6_undo 24 = .ok (.ireturn, 1) := by decide +kernel
theorem dX6_faultNow_0 : decode cX6_faultNow 0 = .ok (.iconst 0, 1) := by decide +kernel
theorem dX6_faultNow_1 : decode cX6_faultNow 1 = .ok (.istore_n 1, 1) := by decide +kernel
theorem dX6_faultNow_2 : decode cX6_faultNow 2 = .ok (.iconst 0, 1) := by decide +kernel
theorem dX6_faultNow_3 : decode cX6_faultNow 3 = .ok (.istore_n 2, 1) := by decide +kernel
theorem dX6_faultNow_4 : decode cX6_faultNow 4 = .ok (.iconst 0, 1) := by decide +kernel
theorem dX6_faultNow_5 : decode cX6_faultNow 5 = .ok (.istore_n 3, 1) := by decide +kernel
theorem dX6_faultNow_6 : decode cX6_faultNow 6 = .ok (.aload_n 0, 1) := by decide +kernel
theorem dX6_faultNow_7 : decode cX6_faultNow 7 = .ok (.iconst 0, 1) := by decide +kernel
theorem dX6_faultNow_8 : decode cX6_faultNow 8 = .ok (.putfield 114, 3) := by decide +kernel
theorem dX6_faultNow_11 : decode cX6_faultNow 11 = .ok (.aload_n 0, 1) := by decide +kernel
theorem dX6_faultNow_12 : decode cX6_faultNow 12 = .ok (.iconst 0, 1) := by decide +kernel
theorem dX6_faultNow_13 : decode cX6_faultNow 13 = .ok (.putfield 117, 3) := by decide +kernel
theorem dX6_faultNow_16 : decode cX6_faultNow 16 = .ok (.iload_n 2, 1) := by decide +kernel
theorem dX6_faultNow_17 : decode cX6_faultNow 17 = .ok (.aload_n 0, 1) := by decide +kernel
theorem dX6_faultNow_18 : decode cX6_faultNow 18 = .ok (.getfield 110, 3) := by decide +kernel
theorem dX6_faultNow_21 : decode cX6_faultNow 21 = .ok (.if_icmp .lt 7, 3) := by decide +kernel
theorem dX6_faultNow_24 : decode cX6_faultNow 24 = .ok (.iload_n 2, 1) := by decide +kernel
theorem dX6_faultNow_25 : decode cX6_faultNow 25 = .ok (.ifCond .le 154, 3) := by decide +kernel
theorem dX6_faultNow_28 : decode cX6_faultNow 28 = .ok (.iload_n 2, 1) := by decide +kernel
theorem dX6_faultNow_29 : decode cX6_faultNow 29 = .ok (.iconst 1, 1) := by decide +kernel
theorem dX6_faultNow_30 : decode cX6_faultNow 30 = .ok (.iadd, 1) := by decide +kernel
theorem dX6_faultNow_31 : decode cX6_faultNow 31 = .ok (.aload_n 0, 1) := by decide +kernel
theorem dX6_faultNow_32 : decode cX6_faultNow 32 = .ok (.getfield 110, 3) := by decide +kernel
theorem dX6_faultNow_35 : decode cX6_faultNow 35 = .ok (.if_icmp .ge 14, 3) := by decide +kernel
theorem dX6_faultNow_38 : decode cX6_faultNow 38 = .ok (.aload_n 0, 1) := by decide +kernel
theorem dX6_faultNow_39 : decode cX6_faultNow 39 = .ok (.getfield 7, 3) := by decide +kernel
theorem dX6_faultNow_42 : decode cX6_faultNow 42 = .ok (.iload_n 2, 1) := by decide +kernel
theorem dX6_faultNow_43 : decode cX6_faultNow 43 = .ok (.iconst 1, 1) := by decide +kernel
theorem dX6_faultNow_44 : decode cX6_faultNow 44 = .ok (.iadd, 1) := by decide +kernel
theorem dX6_faultNow_45 : decode cX6_faultNow 45 = .ok (.iaload, 1) := by decide +kernel
theorem dX6_faultNow_46 : decode cX6_faultNow 46 = .ok (.goto 4, 3) := by decide +kernel
theorem dX6_faultNow_49 : decode cX6_faultNow 49 = .ok (.iconst (-1), 1) := by decide +kernel
theorem dX6_faultNow_50 : decode cX6_faultNow 50 = .ok (.istore 4, 2) := by decide +kernel
theorem dX6_faultNow_52 : decode cX6_faultNow 52 = .ok (.iload_n 1, 1) := by decide +kernel
theorem dX6_faultNow_53 : decode cX6_faultNow 53 = .ok (.bipush 8, 2) := by decide +kernel
theorem dX6_faultNow_55 : decode cX6_faultNow 55 = .ok (.if_icmp .eq 27, 3) := by decide +kernel
theorem dX6_faultNow_58 : decode cX6_faultNow 58 = .ok (.iload_n 2, 1) := by decide +kernel
theorem dX6_faultNow_59 : decode cX6_faultNow 59 = .ok (.aload_n 0, 1) := by decide +kernel
theorem dX6_faultNow_60 : decode cX6_faultNow 60 = .ok (.getfield 110, 3) := by decide +kernel
theorem dX6_faultNow_63 : decode cX6_faultNow 63 = .ok (.if_icmp .eq 19, 3) := by decide +kernel
theorem dX6_faultNow_66 : decode cX6_faultNow 66 = .ok (.aload_n 0, 1) := by decide +kernel
theorem dX6_faultNow_67 : decode cX6_faultNow 67 = .ok (.getfield 7, 3) := by decide +kernel
theorem dX6_faultNow_70 : decode cX6_faultNow 70 = .ok (.iload_n 2, 1) := by decide +kernel
theorem dX6_faultNow_71 : decode cX6_faultNow 71 = .ok (.iaload, 1) := by decide +kernel
theorem dX6_faultNow_72 : decode cX6_faultNow 72 = .ok (.bipush 48, 2) := by decide +kernel
theorem dX6_faultNow_74 : decode cX6_faultNow 74 = .ok (.bipush 57, 2) := by decide +kernel
theorem dX6_faultNow_76 : decode cX6_faultNow 76 = .ok (.invokestatic 106, 3) := by decide +kernel
theorem dX6_faultNow_79 : decode cX6_faultNow 79 = .ok (.ifCond .ne 5, 3) := by decide +kernel
theorem dX6_faultNow_82 : decode cX6_faultNow 82 = .ok (.iload_n 2, 1) := by decide +kernel
theorem dX6_faultNow_83 : decode cX6_faultNow 83 = .ok (.ireturn, 1) := by decide +kernel
theorem dX6_faultNow_84 : decode cX6_faultNow 84 = .ok (.iload 4, 2) := by decide +kernel
theorem dX6_faultNow_86 : decode cX6_faultNow 86 = .ok (.bipush 97, 2) := by decide +kernel
theorem dX6_faultNow_88 : decode cX6_faultNow 88 = .ok (.if_icmp .eq 14, 3) := by decide +kernel
theorem dX6_faultNow_91 : decode cX6_faultNow 91 = .ok (.iload 4, 2) := by decide +kernel
theorem dX6_faultNow_93 : decode cX6_faultNow 93 = .ok (.bipush 102, 2) := by decide +kernel
theorem dX6_faultNow_95 : decode cX6_faultNow 95 = .ok (.if_icmp .eq 7, 3) := by decide +kernel
theorem dX6_faultNow_98 : decode cX6_faultNow 98 = .ok (.iload_n 2, 1) := by decide +kernel
theorem dX6_faultNow_99 : decode cX6_faultNow 99 = .ok (.iconst 1, 1) := by decide +kernel
theorem dX6_faultNow_100 : decode cX6_faultNow 100 = .ok (.iadd, 1) := by decide +kernel
theorem dX6_faultNow_101 : decode cX6_faultNow 101 = .ok (.ireturn, 1) := by decide +kernel
theorem dX6_faultNow_102 : decode cX6_faultNow 102 = .ok (.aload_n 0, 1) := by decide +kernel
theorem dX6_faultNow_103 : decode cX6_faultNow 103 = .ok (.getfield 13, 3) := by decide +kernel
theorem dX6_faultNow_106 : decode cX6_faultNow 106 = .ok (.iload_n 1, 1) := by decide +kernel
theorem dX6_faultNow_107 : decode cX6_faultNow 107 = .ok (.aload_n 0, 1) := by decide +kernel
theorem dX6_faultNow_108 : decode cX6_faultNow 108 = .ok (.getfield 7, 3) := by decide +kernel
theorem dX6_faultNow_111 : decode cX6_faultNow 111 = .ok (.iload_n 2, 1) := by decide +kernel
theorem dX6_faultNow_112 : decode cX6_faultNow 112 = .ok (.iaload, 1) := by decide +kernel
theorem dX6_faultNow_113 : decode cX6_faultNow 113 = .ok (.bipush 48, 2) := by decide +kernel
theorem dX6_faultNow_115 : decode cX6_faultNow 115 = .ok (.isub, 1) := by decide +kernel
theorem dX6_faultNow_116 : decode cX6_faultNow 116 = .ok (.iastore, 1) := by decide +kernel
theorem dX6_faultNow_117 : decode cX6_faultNow 117 = .ok (.iload_n 3, 1) := by decide +kernel
theorem dX6_faultNow_118 : decode cX6_faultNow 118 = .ok (.iload 4, 2) := by decide +kernel
theorem dX6_faultNow_120 : decode cX6_faultNow 120 = .ok (.bipush 97, 2) := by decide +kernel
theorem dX6_faultNow_122 : decode cX6_faultNow 122 = .ok (.if_icmp .ne 9, 3) := by decide +kernel
theorem dX6_faultNow_125 : decode cX6_faultNow 125 = .ok (.iconst 1, 1) := by decide +kernel
theorem dX6_faultNow_126 : decode cX6_faultNow 126 = .ok (.iload_n 1, 1) := by decide +kernel
theorem dX6_faultNow_127 : decode cX6_faultNow 127 = .ok (.ishl, 1) := by decide +kernel
theorem dX6_faultNow_128 : decode cX6_faultNow 128 = .ok (.goto 4, 3) := by decide +kernel
theorem dX6_faultNow_131 : decode cX6_faultNow 131 = .ok (.iconst 0, 1) := by decide +kernel
theorem dX6_faultNow_132 : decode cX6_faultNow 132 = .ok (.ior, 1) := by decide +kernel
theorem dX6_faultNow_133 : decode cX6_faultNow 133 = .ok (.istore_n 3, 1) := by decide +kernel
theorem dX6_faultNow_134 : decode cX6_faultNow 134 = .ok (.iinc 1 1, 3) := by decide +kernel
theorem dX6_faultNow_137 : decode cX6_faultNow 137 = .ok (.iinc 2 2, 3) := by decide +kernel
theorem dX6_faultNow_140 : decode cX6_faultNow 140 = .ok (.iload_n 2, 1) := by decide +kernel
theorem dX6_faultNow_141 : decode cX6_faultNow 141 = .ok (.aload_n 0, 1) := by decide +kernel
theorem dX6_faultNow_142 : decode cX6_faultNow 142 = .ok (.getfield 110, 3) := by decide +kernel
theorem dX6_faultNow_145 : decode cX6_faultNow 145 = .ok (.if_icmp .ne 15, 3) := by decide +kernel
theorem dX6_faultNow_148 : decode cX6_faultNow 148 = .ok (.aload_n 0, 1) := by decide +kernel
theorem dX6_faultNow_149 : decode cX6_faultNow 149 = .ok (.iload_n 1, 1) := by decide +kernel
theorem dX6_faultNow_150 : decode cX6_faultNow 150 = .ok (.putfield 114, 3) := by decide +kernel
theorem dX6_faultNow_153 : decode cX6_faultNow 153 = .ok (.aload_n 0, 1) := by decide +kernel
theorem dX6_faultNow_154 : decode cX6_faultNow 154 = .ok (.iload_n 3, 1) := by decide +kernel
theorem dX6_faultNow_155 : decode cX6_faultNow 155 = .ok (.putfield 117, 3) := by decide +kernel
theorem dX6_faultNow_158 : decode cX6_faultNow 158 = .ok (.iconst (-1), 1) := by decide +kernel
theorem dX6_faultNow_159 : decode cX6_faultNow 159 = .ok (.ireturn, 1) := by decide +kernel
theorem dX6_faultNow_160 : decode cX6_faultNow 160 = .ok (.aload_n 0, 1) := by decide +kernel
theorem dX6_faultNow_161 : decode cX6_faultNow 161 = .ok (.getfield 7, 3) := by decide +kernel
theorem dX6_faultNow_164 : decode cX6_faultNow 164 = .ok (.iload_n 2, 1) := by decide +kernel
theorem dX6_faultNow_165 : decode cX6_faultNow 165 = .ok (.iaload, 1) := by decide +kernel
theorem dX6_faultNow_166 : decode cX6_faultNow 166 = .ok (.bipush 59, 2) := by decide +kernel
theorem dX6_faultNow_168 : decode cX6_faultNow 168 = .ok (.if_icmp .eq 5, 3) := by decide +kernel
theorem dX6_faultNow_171 : decode cX6_faultNow 171 = .ok (.iload_n 2, 1) := by decide +kernel
theorem dX6_faultNow_172 : decode cX6_faultNow 172 = .ok (.ireturn, 1) := by decide +kernel
theorem dX6_faultNow_173 : decode cX6_faultNow 173 = .ok (.iinc 2 1, 3) := by decide +kernel
theorem dX6_faultNow_176 : decode cX6_faultNow 176 = .ok (.goto (-160), 3) := by decide +kernel
theorem dX6_faultNow_179 : decode cX6_faultNow 179 = .ok (.iconst (-1), 1) := by decide +kernel
theorem dX6_faultNow_180 : decode cX6_faultNow 180 = .ok (.ireturn, 1) := by decide +kernel
theorem dX6_fault_0 : decode cX6_fault 0 = .ok (.aload_n 0, 1) := by decide +kernel
theorem dX6_fault_1 : decode cX6_fault 1 = .ok (.invokevirtual 120, 3) := by decide +kernel
theorem dX6_fault_4 : decode cX6_fault 4 = .ok (.ireturn, 1) := by decide +kernel
theorem dX6_reads_0 : decode cX6_reads 0 = .ok (.aload_n 0, 1) := by decide +kernel
theorem dX6_reads_1 : decode cX6_reads 1 = .ok (.invokevirtual 120, 3) := by decide +kernel
theorem dX6_reads_4 : decode cX6_reads 4 = .ok (.istore_n 1, 1) := by decide +kernel
theorem dX6_reads_5 : decode cX6_reads 5 = .ok (.return_, 1) := by decide +kernel
theorem dX6_isDeed_0 : decode cX6_isDeed 0 = .ok (.aload_n 0, 1) := by decide +kernel
theorem dX6_isDeed_1 : decode cX6_isDeed 1 = .ok (.invokevirtual 124, 3) := by decide +kernel
theorem dX6_isDeed_4 : decode cX6_isDeed 4 = .ok (.iload_n 1, 1) := by decide +kernel
theorem dX6_isDeed_5 : decode cX6_isDeed 5 = .ok (.iconst 0, 1) := by decide +kernel
theorem dX6_isDeed_6 : decode cX6_isDeed 6 = .ok (.aload_n 0, 1) := by decide +kernel
theorem dX6_isDeed_7 : decode cX6_isDeed 7 = .ok (.getfield 114, 3) := by decide +kernel
theorem dX6_isDeed_10 : decode cX6_isDeed 10 = .ok (.iconst 1, 1) := by decide +kernel
theorem dX6_isDeed_11 : decode cX6_isDeed 11 = .ok (.isub, 1) := by decide +kernel
theorem dX6_isDeed_12 : decode cX6_isDeed 12 = .ok (.invokestatic 106, 3) := by decide +kernel
theorem dX6_isDeed_15 : decode cX6_isDeed 15 = .ok (.ireturn, 1) := by decide +kernel
theorem dX6_allDeeds_0 : decode cX6_allDeeds 0 = .ok (.iconst 1, 1) := by decide +kernel
theorem dX6_allDeeds_1 : decode cX6_allDeeds 1 = .ok (.aload_n 0, 1) := by decide +kernel
theorem dX6_allDeeds_2 : decode cX6_allDeeds 2 = .ok (.getfield 114, 3) := by decide +kernel
theorem dX6_allDeeds_5 : decode cX6_allDeeds 5 = .ok (.ishl, 1) := by decide +kernel
theorem dX6_allDeeds_6 : decode cX6_allDeeds 6 = .ok (.iconst 1, 1) := by decide +kernel
theorem dX6_allDeeds_7 : decode cX6_allDeeds 7 = .ok (.isub, 1) := by decide +kernel
theorem dX6_allDeeds_8 : decode cX6_allDeeds 8 = .ok (.ireturn, 1) := by decide +kernel
theorem dX6_youngerFirst_0 : decode cX6_youngerFirst 0 = .ok (.iconst 0, 1) := by decide +kernel
theorem dX6_youngerFirst_1 : decode cX6_youngerFirst 1 = .ok (.istore_n 1, 1) := by decide +kernel
theorem dX6_youngerFirst_2 : decode cX6_youngerFirst 2 = .ok (.iconst 0, 1) := by decide +kernel
theorem dX6_youngerFirst_3 : decode cX6_youngerFirst 3 = .ok (.istore_n 2, 1) := by decide +kernel
theorem dX6_youngerFirst_4 : decode cX6_youngerFirst 4 = .ok (.iload_n 2, 1) := by decide +kernel
theorem dX6_youngerFirst_5 : decode cX6_youngerFirst 5 = .ok (.aload_n 0, 1) := by decide +kernel
theorem dX6_youngerFirst_6 : decode cX6_youngerFirst 6 = .ok (.getfield 114, 3) := by decide +kernel
theorem dX6_youngerFirst_9 : decode cX6_youngerFirst 9 = .ok (.if_icmp .ge 109, 3) := by decide +kernel
theorem dX6_youngerFirst_12 : decode cX6_youngerFirst 12 = .ok (.iload_n 2, 1) := by decide +kernel
theorem dX6_youngerFirst_13 : decode cX6_youngerFirst 13 = .ok (.iconst 2, 1) := by decide +kernel
theorem dX6_youngerFirst_14 : decode cX6_youngerFirst 14 = .ok (.irem, 1) := by decide +kernel
theorem dX6_youngerFirst_15 : decode cX6_youngerFirst 15 = .ok (.ifCond .ne 9, 3) := by decide +kernel
theorem dX6_youngerFirst_18 : decode cX6_youngerFirst 18 = .ok (.iload_n 2, 1) := by decide +kernel
theorem dX6_youngerFirst_19 : decode cX6_youngerFirst 19 = .ok (.iconst 1, 1) := by decide +kernel
theorem dX6_youngerFirst_20 : decode cX6_youngerFirst 20 = .ok (.iadd, 1) := by decide +kernel
theorem dX6_youngerFirst_21 : decode cX6_youngerFirst 21 = .ok (.goto 6, 3) := by decide +kernel
theorem dX6_youngerFirst_24 : decode cX6_youngerFirst 24 = .ok (.iload_n 2, 1) := by decide +kernel
theorem dX6_youngerFirst_25 : decode cX6_youngerFirst 25 = .ok (.iconst 1, 1) := by decide +kernel
theorem dX6_youngerFirst_26 : decode cX6_youngerFirst 26 = .ok (.isub, 1) := by decide +kernel
theorem dX6_youngerFirst_27 : decode cX6_youngerFirst 27 = .ok (.istore_n 3, 1) := by decide +kernel
theorem dX6_youngerFirst_28 : decode cX6_youngerFirst 28 = .ok (.aload_n 0, 1) := by decide +kernel
theorem dX6_youngerFirst_29 : decode cX6_youngerFirst 29 = .ok (.getfield 117, 3) := by decide +kernel
theorem dX6_youngerFirst_32 : decode cX6_youngerFirst 32 = .ok (.iload_n 2, 1) := by decide +kernel
theorem dX6_youngerFirst_33 : decode cX6_youngerFirst 33 = .ok (.invokestatic 127, 3) := by decide +kernel
theorem dX6_youngerFirst_36 : decode cX6_youngerFirst 36 = .ok (.ifCond .ne 7, 3) := by decide +kernel
theorem dX6_youngerFirst_39 : decode cX6_youngerFirst 39 = .ok (.iconst 1, 1) := by decide +kernel
theorem dX6_youngerFirst_40 : decode cX6_youngerFirst 40 = .ok (.goto 4, 3) := by decide +kernel
theorem dX6_youngerFirst_43 : decode cX6_youngerFirst 43 = .ok (.iconst 0, 1) := by decide +kernel
theorem dX6_youngerFirst_44 : decode cX6_youngerFirst 44 = .ok (.istore 4, 2) := by decide +kernel
theorem dX6_youngerFirst_46 : decode cX6_youngerFirst 46 = .ok (.aload_n 0, 1) := by decide +kernel
theorem dX6_youngerFirst_47 : decode cX6_youngerFirst 47 = .ok (.getfield 131, 3) := by decide +kernel
theorem dX6_youngerFirst_50 : decode cX6_youngerFirst 50 = .ok (.iconst 1, 1) := by decide +kernel
theorem dX6_youngerFirst_51 : decode cX6_youngerFirst 51 = .ok (.if_icmp .ne 21, 3) := by decide +kernel
theorem dX6_youngerFirst_54 : decode cX6_youngerFirst 54 = .ok (.iload_n 3, 1) := by decide +kernel
theorem dX6_youngerFirst_55 : decode cX6_youngerFirst 55 = .ok (.aload_n 0, 1) := by decide +kernel
theorem dX6_youngerFirst_56 : decode cX6_youngerFirst 56 = .ok (.getfield 114, 3) := by decide +kernel
theorem dX6_youngerFirst_59 : decode cX6_youngerFirst 59 = .ok (.if_icmp .ge 13, 3) := by decide +kernel
theorem dX6_youngerFirst_62 : decode cX6_youngerFirst 62 = .ok (.aload_n 0, 1) := by decide +kernel
theorem dX6_youngerFirst_63 : decode cX6_youngerFirst 63 = .ok (.getfield 117, 3) := by decide +kernel
theorem dX6_youngerFirst_66 : decode cX6_youngerFirst 66 = .ok (.iload_n 3, 1) := by decide +kernel
theorem dX6_youngerFirst_67 : decode cX6_youngerFirst 67 = .ok (.invokestatic 127, 3) := by decide +kernel
theorem dX6_youngerFirst_70 : decode cX6_youngerFirst 70 = .ok (.istore 4, 2) := by decide +kernel
theorem dX6_youngerFirst_72 : decode cX6_youngerFirst 72 = .ok (.aload_n 0, 1) := by decide +kernel
theorem dX6_youngerFirst_73 : decode cX6_youngerFirst 73 = .ok (.getfield 131, 3) := by decide +kernel
theorem dX6_youngerFirst_76 : decode cX6_youngerFirst 76 = .ok (.iconst 2, 1) := by decide +kernel
theorem dX6_youngerFirst_77 : decode cX6_youngerFirst 77 = .ok (.if_icmp .ne 20, 3) := by decide +kernel
theorem dX6_youngerFirst_80 : decode cX6_youngerFirst 80 = .ok (.aload_n 0, 1) := by decide +kernel
theorem dX6_youngerFirst_81 : decode cX6_youngerFirst 81 = .ok (.getfield 117, 3) := by decide +kernel
theorem dX6_youngerFirst_84 : decode cX6_youngerFirst 84 = .ok (.iload_n 2, 1) := by decide +kernel
theorem dX6_youngerFirst_85 : decode cX6_youngerFirst 85 = .ok (.iconst 1, 1) := by decide +kernel
theorem dX6_youngerFirst_86 : decode cX6_youngerFirst 86 = .ok (.iadd, 1) := by decide +kernel
theorem dX6_youngerFirst_87 : decode cX6_youngerFirst 87 = .ok (.aload_n 0, 1) := by decide +kernel
theorem dX6_youngerFirst_88 : decode cX6_youngerFirst 88 = .ok (.getfield 114, 3) := by decide +kernel
theorem dX6_youngerFirst_91 : decode cX6_youngerFirst 91 = .ok (.irem, 1) := by decide +kernel
theorem dX6_youngerFirst_92 : decode cX6_youngerFirst 92 = .ok (.invokestatic 127, 3) := by decide +kernel
theorem dX6_youngerFirst_95 : decode cX6_youngerFirst 95 = .ok (.istore 4, 2) := by decide +kernel
theorem dX6_youngerFirst_97 : decode cX6_youngerFirst 97 = .ok (.iload_n 1, 1) := by decide +kernel
theorem dX6_youngerFirst_98 : decode cX6_youngerFirst 98 = .ok (.iload 4, 2) := by decide +kernel
theorem dX6_youngerFirst_100 : decode cX6_youngerFirst 100 = .ok (.ifCond .eq 9, 3) := by decide +kernel
theorem dX6_youngerFirst_103 : decode cX6_youngerFirst 103 = .ok (.iconst 1, 1) := by decide +kernel
theorem dX6_youngerFirst_104 : decode cX6_youngerFirst 104 = .ok (.iload_n 2, 1) := by decide +kernel
theorem dX6_youngerFirst_105 : decode cX6_youngerFirst 105 = .ok (.ishl, 1) := by decide +kernel
theorem dX6_youngerFirst_106 : decode cX6_youngerFirst 106 = .ok (.goto 4, 3) := by decide +kernel
theorem dX6_youngerFirst_109 : decode cX6_youngerFirst 109 = .ok (.iconst 0, 1) := by decide +kernel
theorem dX6_youngerFirst_110 : decode cX6_youngerFirst 110 = .ok (.ior, 1) := by decide +kernel
theorem dX6_youngerFirst_111 : decode cX6_youngerFirst 111 = .ok (.istore_n 1, 1) := by decide +kernel
theorem dX6_youngerFirst_112 : decode cX6_youngerFirst 112 = .ok (.iinc 2 1, 3) := by decide +kernel
theorem dX6_youngerFirst_115 : decode cX6_youngerFirst 115 = .ok (.goto (-111), 3) := by decide +kernel
theorem dX6_youngerFirst_118 : decode cX6_youngerFirst 118 = .ok (.iload_n 1, 1) := by decide +kernel
theorem dX6_youngerFirst_119 : decode cX6_youngerFirst 119 = .ok (.ireturn, 1) := by decide +kernel
theorem dX6_deedOf_0 : decode cX6_deedOf 0 = .ok (.iload_n 2, 1) := by decide +kernel
theorem dX6_deedOf_1 : decode cX6_deedOf 1 = .ok (.ifCond .ne 12, 3) := by decide +kernel
theorem dX6_deedOf_4 : decode cX6_deedOf 4 = .ok (.aload_n 0, 1) := by decide +kernel
theorem dX6_deedOf_5 : decode cX6_deedOf 5 = .ok (.getfield 13, 3) := by decide +kernel
theorem dX6_deedOf_8 : decode cX6_deedOf 8 = .ok (.iload_n 1, 1) := by decide +kernel
theorem dX6_deedOf_9 : decode cX6_deedOf 9 = .ok (.iaload, 1) := by decide +kernel
theorem dX6_deedOf_10 : decode cX6_deedOf 10 = .ok (.goto 23, 3) := by decide +kernel
theorem dX6_deedOf_13 : decode cX6_deedOf 13 = .ok (.iload_n 2, 1) := by decide +kernel
theorem dX6_deedOf_14 : decode cX6_deedOf 14 = .ok (.iconst 1, 1) := by decide +kernel
theorem dX6_deedOf_15 : decode cX6_deedOf 15 = .ok (.if_icmp .ne 10, 3) := by decide +kernel
theorem dX6_deedOf_18 : decode cX6_deedOf 18 = .ok (.aload_n 0, 1) := by decide +kernel
theorem dX6_deedOf_19 : decode cX6_deedOf 19 = .ok (.getfield 117, 3) := by decide +kernel
theorem dX6_deedOf_22 : decode cX6_deedOf 22 = .ok (.goto 7, 3) := by decide +kernel
theorem dX6_deedOf_25 : decode cX6_deedOf 25 = .ok (.aload_n 0, 1) := by decide +kernel
theorem dX6_deedOf_26 : decode cX6_deedOf 26 = .ok (.invokevirtual 134, 3) := by decide +kernel
theorem dX6_deedOf_29 : decode cX6_deedOf 29 = .ok (.iload_n 1, 1) := by decide +kernel
theorem dX6_deedOf_30 : decode cX6_deedOf 30 = .ok (.ishr, 1) := by decide +kernel
theorem dX6_deedOf_31 : decode cX6_deedOf 31 = .ok (.iconst 1, 1) := by decide +kernel
theorem dX6_deedOf_32 : decode cX6_deedOf 32 = .ok (.iand, 1) := by decide +kernel
theorem dX6_deedOf_33 : decode cX6_deedOf 33 = .ok (.ireturn, 1) := by decide +kernel
theorem dX6_deed_0 : decode cX6_deed 0 = .ok (.aload_n 0, 1) := by decide +kernel
theorem dX6_deed_1 : decode cX6_deed 1 = .ok (.iload_n 1, 1) := by decide +kernel
theorem dX6_deed_2 : decode cX6_deed 2 = .ok (.invokevirtual 137, 3) := by decide +kernel
theorem dX6_deed_5 : decode cX6_deed 5 = .ok (.ifCond .eq 21, 3) := by decide +kernel
theorem dX6_deed_8 : decode cX6_deed 8 = .ok (.iload_n 2, 1) := by decide +kernel
theorem dX6_deed_9 : decode cX6_deed 9 = .ok (.iconst 0, 1) := by decide +kernel
theorem dX6_deed_10 : decode cX6_deed 10 = .ok (.iconst 2, 1) := by decide +kernel
theorem dX6_deed_11 : decode cX6_deed 11 = .ok (.invokestatic 106, 3) := by decide +kernel
theorem dX6_deed_14 : decode cX6_deed 14 = .ok (.ifCond .eq 12, 3) := by decide +kernel
theorem dX6_deed_17 : decode cX6_deed 17 = .ok (.aload_n 0, 1) := by decide +kernel
theorem dX6_deed_18 : decode cX6_deed 18 = .ok (.iload_n 1, 1) := by decide +kernel
theorem dX6_deed_19 : decode cX6_deed 19 = .ok (.iload_n 2, 1) := by decide +kernel
theorem dX6_deed_20 : decode cX6_deed 20 = .ok (.invokevirtual 141, 3) := by decide +kernel
theorem dX6_deed_23 : decode cX6_deed 23 = .ok (.goto 5, 3) := by decide +kernel
theorem dX6_deed_26 : decode cX6_deed 26 = .ok (.bipush (-2), 2) := by decide +kernel
theorem dX6_deed_28 : decode cX6_deed 28 = .ok (.ireturn, 1) := by decide +kernel
theorem dX6_set_0 : decode cX6_set 0 = .ok (.iload_n 1, 1) := by decide +kernel
theorem dX6_set_1 : decode cX6_set 1 = .ok (.invokestatic 145, 3) := by decide +kernel
theorem dX6_set_4 : decode cX6_set 4 = .ok (.ifCond .eq 12, 3) := by decide +kernel
theorem dX6_set_7 : decode cX6_set 7 = .ok (.iload_n 2, 1) := by decide +kernel
theorem dX6_set_8 : decode cX6_set 8 = .ok (.iconst 0, 1) := by decide +kernel
theorem dX6_set_9 : decode cX6_set 9 = .ok (.iconst 2, 1) := by decide +kernel
theorem dX6_set_10 : decode cX6_set 10 = .ok (.invokestatic 106, 3) := by decide +kernel
theorem dX6_set_13 : decode cX6_set 13 = .ok (.ifCond .ne 6, 3) := by decide +kernel
theorem dX6_set_16 : decode cX6_set 16 = .ok (.bipush (-2), 2) := by decide +kernel
theorem dX6_set_18 : decode cX6_set 18 = .ok (.ireturn, 1) := by decide +kernel
theorem dX6_set_19 : decode cX6_set 19 = .ok (.iload_n 1, 1) := by decide +kernel
theorem dX6_set_20 : decode cX6_set 20 = .ok (.ifCond .ne 10, 3) := by decide +kernel
theorem dX6_set_23 : decode cX6_set 23 = .ok (.aload_n 0, 1) := by decide +kernel
theorem dX6_set_24 : decode cX6_set 24 = .ok (.getfield 131, 3) := by decide +kernel
theorem dX6_set_27 : decode cX6_set 27 = .ok (.goto 7, 3) := by decide +kernel
theorem dX6_set_30 : decode cX6_set 30 = .ok (.aload_n 0, 1) := by decide +kernel
theorem dX6_set_31 : decode cX6_set 31 = .ok (.getfield 148, 3) := by decide +kernel
theorem dX6_set_34 : decode cX6_set 34 = .ok (.istore_n 3, 1) := by decide +kernel
theorem dX6_set_35 : decode cX6_set 35 = .ok (.aload_n 0, 1) := by decide +kernel
theorem dX6_set_36 : decode cX6_set 36 = .ok (.iload_n 1, 1) := by decide +kernel
theorem dX6_set_37 : decode cX6_set 37 = .ok (.ifCond .ne 7, 3) := by decide +kernel
theorem dX6_set_40 : decode cX6_set 40 = .ok (.iload_n 2, 1) := by decide +kernel
theorem dX6_set_41 : decode cX6_set 41 = .ok (.goto 7, 3) := by decide +kernel
theorem dX6_set_44 : decode cX6_set 44 = .ok (.aload_n 0, 1) := by decide +kernel
theorem dX6_set_45 : decode cX6_set 45 = .ok (.getfield 131, 3) := by decide +kernel
theorem dX6_set_48 : decode cX6_set 48 = .ok (.putfield 131, 3) := by decide +kernel
theorem dX6_set_51 : decode cX6_set 51 = .ok (.aload_n 0, 1) := by decide +kernel
theorem dX6_set_52 : decode cX6_set 52 = .ok (.iload_n 1, 1) := by decide +kernel
theorem dX6_set_53 : decode cX6_set 53 = .ok (.iconst 1, 1) := by decide +kernel
theorem dX6_set_54 : decode cX6_set 54 = .ok (.if_icmp .ne 7, 3) := by decide +kernel
theorem dX6_set_57 : decode cX6_set 57 = .ok (.iload_n 2, 1) := by decide +kernel
theorem dX6_set_58 : decode cX6_set 58 = .ok (.goto 7, 3) := by decide +kernel
theorem dX6_set_61 : decode cX6_set 61 = .ok (.aload_n 0, 1) := by decide +kernel
theorem dX6_set_62 : decode cX6_set 62 = .ok (.getfield 148, 3) := by decide +kernel
theorem dX6_set_65 : decode cX6_set 65 = .ok (.putfield 148, 3) := by decide +kernel
theorem dX6_set_68 : decode cX6_set 68 = .ok (.iload_n 3, 1) := by decide +kernel
theorem dX6_set_69 : decode cX6_set 69 = .ok (.ireturn, 1) := by decide +kernel
theorem dX6_sick_0 : decode cX6_sick 0 = .ok (.iload_n 1, 1) := by decide +kernel
theorem dX6_sick_1 : decode cX6_sick 1 = .ok (.invokestatic 145, 3) := by decide +kernel
theorem dX6_sick_4 : decode cX6_sick 4 = .ok (.ifCond .eq 10, 3) := by decide +kernel
theorem dX6_sick_7 : decode cX6_sick 7 = .ok (.iload_n 2, 1) := by decide +kernel
theorem dX6_sick_8 : decode cX6_sick 8 = .ok (.invokestatic 151, 3) := by decide +kernel
theorem dX6_sick_11 : decode cX6_sick 11 = .ok (.ifCond .ne 6, 3) := by decide +kernel
theorem dX6_sick_14 : decode cX6_sick 14 = .ok (.bipush (-2), 2) := by decide +kernel
theorem dX6_sick_16 : decode cX6_sick 16 = .ok (.ireturn, 1) := by decide +kernel
theorem dX6_sick_17 : decode cX6_sick 17 = .ok (.aload_n 0, 1) := by decide +kernel
theorem dX6_sick_18 : decode cX6_sick 18 = .ok (.getfield 16, 3) := by decide +kernel
theorem dX6_sick_21 : decode cX6_sick 21 = .ok (.iconst 0, 1) := by decide +kernel
theorem dX6_sick_22 : decode cX6_sick 22 = .ok (.iaload, 1) := by decide +kernel
theorem dX6_sick_23 : decode cX6_sick 23 = .ok (.bipush 8, 2) := by decide +kernel
theorem dX6_sick_25 : decode cX6_sick 25 = .ok (.if_icmp .ne 6, 3) := by decide +kernel
theorem dX6_sick_28 : decode cX6_sick 28 = .ok (.bipush (-4), 2) := by decide +kernel
theorem dX6_sick_30 : decode cX6_sick 30 = .ok (.ireturn, 1) := by decide +kernel
theorem dX6_sick_31 : decode cX6_sick 31 = .ok (.aload_n 0, 1) := by decide +kernel
theorem dX6_sick_32 : decode cX6_sick 32 = .ok (.getfield 19, 3) := by decide +kernel
theorem dX6_sick_35 : decode cX6_sick 35 = .ok (.aload_n 0, 1) := by decide +kernel
theorem dX6_sick_36 : decode cX6_sick 36 = .ok (.getfield 16, 3) := by decide +kernel
theorem dX6_sick_39 : decode cX6_sick 39 = .ok (.iconst 0, 1) := by decide +kernel
theorem dX6_sick_40 : decode cX6_sick 40 = .ok (.iaload, 1) := by decide +kernel
theorem dX6_sick_41 : decode cX6_sick 41 = .ok (.iload_n 1, 1) := by decide +kernel
theorem dX6_sick_42 : decode cX6_sick 42 = .ok (.iastore, 1) := by decide +kernel
theorem dX6_sick_43 : decode cX6_sick 43 = .ok (.aload_n 0, 1) := by decide +kernel
theorem dX6_sick_44 : decode cX6_sick 44 = .ok (.getfield 22, 3) := by decide +kernel
theorem dX6_sick_47 : decode cX6_sick 47 = .ok (.aload_n 0, 1) := by decide +kernel
theorem dX6_sick_48 : decode cX6_sick 48 = .ok (.getfield 16, 3) := by decide +kernel
theorem dX6_sick_51 : decode cX6_sick 51 = .ok (.iconst 0, 1) := by decide +kernel
theorem dX6_sick_52 : decode cX6_sick 52 = .ok (.iaload, 1) := by decide +kernel
theorem dX6_sick_53 : decode cX6_sick 53 = .ok (.iload_n 2, 1) := by decide +kernel
theorem dX6_sick_54 : decode cX6_sick 54 = .ok (.iastore, 1) := by decide +kernel
theorem dX6_sick_55 : decode cX6_sick 55 = .ok (.aload_n 0, 1) := by decide +kernel
theorem dX6_sick_56 : decode cX6_sick 56 = .ok (.getfield 16, 3) := by decide +kernel
theorem dX6_sick_59 : decode cX6_sick 59 = .ok (.iconst 0, 1) := by decide +kernel
theorem dX6_sick_60 : decode cX6_sick 60 = .ok (.dup2, 1) := by decide +kernel
theorem dX6_sick_61 : decode cX6_sick 61 = .ok (.iaload, 1) := by decide +kernel
theorem dX6_sick_62 : decode cX6_sick 62 = .ok (.iconst 1, 1) := by decide +kernel
theorem dX6_sick_63 : decode cX6_sick 63 = .ok (.iadd, 1) := by decide +kernel
theorem dX6_sick_64 : decode cX6_sick 64 = .ok (.iastore, 1) := by decide +kernel
theorem dX6_sick_65 : decode cX6_sick 65 = .ok (.aload_n 0, 1) := by decide +kernel
theorem dX6_sick_66 : decode cX6_sick 66 = .ok (.getfield 16, 3) := by decide +kernel
theorem dX6_sick_69 : decode cX6_sick 69 = .ok (.iconst 0, 1) := by decide +kernel
theorem dX6_sick_70 : decode cX6_sick 70 = .ok (.iaload, 1) := by decide +kernel
theorem dX6_sick_71 : decode cX6_sick 71 = .ok (.ireturn, 1) := by decide +kernel
theorem dX6_leap_0 : decode cX6_leap 0 = .ok (.iload_n 1, 1) := by decide +kernel
theorem dX6_leap_1 : decode cX6_leap 1 = .ok (.invokestatic 151, 3) := by decide +kernel
theorem dX6_leap_4 : decode cX6_leap 4 = .ok (.ifCond .ne 6, 3) := by decide +kernel
theorem dX6_leap_7 : decode cX6_leap 7 = .ok (.bipush (-2), 2) := by decide +kernel
theorem dX6_leap_9 : decode cX6_leap 9 = .ok (.ireturn, 1) := by decide +kernel
theorem dX6_leap_10 : decode cX6_leap 10 = .ok (.aload_n 0, 1) := by decide +kernel
theorem dX6_leap_11 : decode cX6_leap 11 = .ok (.getfield 16, 3) := by decide +kernel
theorem dX6_leap_14 : decode cX6_leap 14 = .ok (.iconst 1, 1) := by decide +kernel
theorem dX6_leap_15 : decode cX6_leap 15 = .ok (.iaload, 1) := by decide +kernel
theorem dX6_leap_16 : decode cX6_leap 16 = .ok (.iconst 4, 1) := by decide +kernel
theorem dX6_leap_17 : decode cX6_leap 17 = .ok (.if_icmp .ne 6, 3) := by decide +kernel
theorem dX6_leap_20 : decode cX6_leap 20 = .ok (.bipush (-4), 2) := by decide +kernel
theorem dX6_leap_22 : decode cX6_leap 22 = .ok (.ireturn, 1) := by decide +kernel
theorem dX6_leap_23 : decode cX6_leap 23 = .ok (.aload_n 0, 1) := by decide +kernel
theorem dX6_leap_24 : decode cX6_leap 24 = .ok (.getfield 25, 3) := by decide +kernel
theorem dX6_leap_27 : decode cX6_leap 27 = .ok (.aload_n 0, 1) := by decide +kernel
theorem dX6_leap_28 : decode cX6_leap 28 = .ok (.getfield 16, 3) := by decide +kernel
theorem dX6_leap_31 : decode cX6_leap 31 = .ok (.iconst 1, 1) := by decide +kernel
theorem dX6_leap_32 : decode cX6_leap 32 = .ok (.iaload, 1) := by decide +kernel
theorem dX6_leap_33 : decode cX6_leap 33 = .ok (.iload_n 1, 1) := by decide +kernel
theorem dX6_leap_34 : decode cX6_leap 34 = .ok (.iastore, 1) := by decide +kernel
theorem dX6_leap_35 : decode cX6_leap 35 = .ok (.aload_n 0, 1) := by decide +kernel
theorem dX6_leap_36 : decode cX6_leap 36 = .ok (.getfield 16, 3) := by decide +kernel
theorem dX6_leap_39 : decode cX6_leap 39 = .ok (.iconst 1, 1) := by decide +kernel
theorem dX6_leap_40 : decode cX6_leap 40 = .ok (.dup2, 1) := by decide +kernel
theorem dX6_leap_41 : decode cX6_leap 41 = .ok (.iaload, 1) := by decide +kernel
theorem dX6_leap_42 : decode cX6_leap 42 = .ok (.iconst 1, 1) := by decide +kernel
theorem dX6_leap_43 : decode cX6_leap 43 = .ok (.iadd, 1) := by decide +kernel
theorem dX6_leap_44 : decode cX6_leap 44 = .ok (.iastore, 1) := by decide +kernel
theorem dX6_leap_45 : decode cX6_leap 45 = .ok (.aload_n 0, 1) := by decide +kernel
theorem dX6_leap_46 : decode cX6_leap 46 = .ok (.getfield 16, 3) := by decide +kernel
theorem dX6_leap_49 : decode cX6_leap 49 = .ok (.iconst 1, 1) := by decide +kernel
theorem dX6_leap_50 : decode cX6_leap 50 = .ok (.iaload, 1) := by decide +kernel
theorem dX6_leap_51 : decode cX6_leap 51 = .ok (.ireturn, 1) := by decide +kernel
theorem dX6_edict_0 : decode cX6_edict 0 = .ok (.iload_n 1, 1) := by decide +kernel
theorem dX6_edict_1 : decode cX6_edict 1 = .ok (.invokestatic 151, 3) := by decide +kernel
theorem dX6_edict_4 : decode cX6_edict 4 = .ok (.ifCond .eq 10, 3) := by decide +kernel
theorem dX6_edict_7 : decode cX6_edict 7 = .ok (.iload_n 2, 1) := by decide +kernel
theorem dX6_edict_8 : decode cX6_edict 8 = .ok (.invokestatic 154, 3) := by decide +kernel
theorem dX6_edict_11 : decode cX6_edict 11 = .ok (.ifCond .ne 6, 3) := by decide +kernel
theorem dX6_edict_14 : decode cX6_edict 14 = .ok (.bipush (-2), 2) := by decide +kernel
theorem dX6_edict_16 : decode cX6_edict 16 = .ok (.ireturn, 1) := by decide +kernel
theorem dX6_edict_17 : decode cX6_edict 17 = .ok (.aload_n 0, 1) := by decide +kernel
theorem dX6_edict_18 : decode cX6_edict 18 = .ok (.getfield 16, 3) := by decide +kernel
theorem dX6_edict_21 : decode cX6_edict 21 = .ok (.iconst 2, 1) := by decide +kernel
theorem dX6_edict_22 : decode cX6_edict 22 = .ok (.iaload, 1) := by decide +kernel
theorem dX6_edict_23 : decode cX6_edict 23 = .ok (.bipush 10, 2) := by decide +kernel
theorem dX6_edict_25 : decode cX6_edict 25 = .ok (.if_icmp .ne 6, 3) := by decide +kernel
theorem dX6_edict_28 : decode cX6_edict 28 = .ok (.bipush (-4), 2) := by decide +kernel
theorem dX6_edict_30 : decode cX6_edict 30 = .ok (.ireturn, 1) := by decide +kernel
theorem dX6_edict_31 : decode cX6_edict 31 = .ok (.aload_n 0, 1) := by decide +kernel
theorem dX6_edict_32 : decode cX6_edict 32 = .ok (.getfield 28, 3) := by decide +kernel
theorem dX6_edict_35 : decode cX6_edict 35 = .ok (.aload_n 0, 1) := by decide +kernel
theorem dX6_edict_36 : decode cX6_edict 36 = .ok (.getfield 16, 3) := by decide +kernel
theorem dX6_edict_39 : decode cX6_edict 39 = .ok (.iconst 2, 1) := by decide +kernel
theorem dX6_edict_40 : decode cX6_edict 40 = .ok (.iaload, 1) := by decide +kernel
theorem dX6_edict_41 : decode cX6_edict 41 = .ok (.iload_n 1, 1) := by decide +kernel
theorem dX6_edict_42 : decode cX6_edict 42 = .ok (.iastore, 1) := by decide +kernel
theorem dX6_edict_43 : decode cX6_edict 43 = .ok (.aload_n 0, 1) := by decide +kernel
theorem dX6_edict_44 : decode cX6_edict 44 = .ok (.getfield 31, 3) := by decide +kernel
theorem dX6_edict_47 : decode cX6_edict 47 = .ok (.aload_n 0, 1) := by decide +kernel
theorem dX6_edict_48 : decode cX6_edict 48 = .ok (.getfield 16, 3) := by decide +kernel
theorem dX6_edict_51 : decode cX6_edict 51 = .ok (.iconst 2, 1) := by decide +kernel
theorem dX6_edict_52 : decode cX6_edict 52 = .ok (.iaload, 1) := by decide +kernel
theorem dX6_edict_53 : decode cX6_edict 53 = .ok (.iload_n 2, 1) := by decide +kernel
theorem dX6_edict_54 : decode cX6_edict 54 = .ok (.iastore, 1) := by decide +kernel
theorem dX6_edict_55 : decode cX6_edict 55 = .ok (.aload_n 0, 1) := by decide +kernel
theorem dX6_edict_56 : decode cX6_edict 56 = .ok (.getfield 16, 3) := by decide +kernel
theorem dX6_edict_59 : decode cX6_edict 59 = .ok (.iconst 2, 1) := by decide +kernel
theorem dX6_edict_60 : decode cX6_edict 60 = .ok (.dup2, 1) := by decide +kernel
theorem dX6_edict_61 : decode cX6_edict 61 = .ok (.iaload, 1) := by decide +kernel
theorem dX6_edict_62 : decode cX6_edict 62 = .ok (.iconst 1, 1) := by decide +kernel
theorem dX6_edict_63 : decode cX6_edict 63 = .ok (.iadd, 1) := by decide +kernel
theorem dX6_edict_64 : decode cX6_edict 64 = .ok (.iastore, 1) := by decide +kernel
theorem dX6_edict_65 : decode cX6_edict 65 = .ok (.aload_n 0, 1) := by decide +kernel
theorem dX6_edict_66 : decode cX6_edict 66 = .ok (.getfield 16, 3) := by decide +kernel
theorem dX6_edict_69 : decode cX6_edict 69 = .ok (.iconst 2, 1) := by decide +kernel
theorem dX6_edict_70 : decode cX6_edict 70 = .ok (.iaload, 1) := by decide +kernel
theorem dX6_edict_71 : decode cX6_edict 71 = .ok (.ireturn, 1) := by decide +kernel
theorem dX6_does_0 : decode cX6_does 0 = .ok (.iload_n 1, 1) := by decide +kernel
theorem dX6_does_1 : decode cX6_does 1 = .ok (.invokestatic 151, 3) := by decide +kernel
theorem dX6_does_4 : decode cX6_does 4 = .ok (.ifCond .eq 27, 3) := by decide +kernel
theorem dX6_does_7 : decode cX6_does 7 = .ok (.iload_n 2, 1) := by decide +kernel
theorem dX6_does_8 : decode cX6_does 8 = .ok (.invokestatic 154, 3) := by decide +kernel
theorem dX6_does_11 : decode cX6_does 11 = .ok (.ifCond .eq 20, 3) := by decide +kernel
theorem dX6_does_14 : decode cX6_does 14 = .ok (.iload_n 3, 1) := by decide +kernel
theorem dX6_does_15 : decode cX6_does 15 = .ok (.iconst 1, 1) := by decide +kernel
theorem dX6_does_16 : decode cX6_does 16 = .ok (.iconst 5, 1) := by decide +kernel
theorem dX6_does_17 : decode cX6_does 17 = .ok (.invokestatic 106, 3) := by decide +kernel
theorem dX6_does_20 : decode cX6_does 20 = .ok (.ifCond .eq 11, 3) := by decide +kernel
theorem dX6_does_23 : decode cX6_does 23 = .ok (.iload_n 1, 1) := by decide +kernel
theorem dX6_does_24 : decode cX6_does 24 = .ok (.iload_n 3, 1) := by decide +kernel
theorem dX6_does_25 : decode cX6_does 25 = .ok (.iadd, 1) := by decide +kernel
theorem dX6_does_26 : decode cX6_does 26 = .ok (.bipush 40, 2) := by decide +kernel
theorem dX6_does_28 : decode cX6_does 28 = .ok (.if_icmp .le 6, 3) := by decide +kernel
theorem dX6_does_31 : decode cX6_does 31 = .ok (.bipush (-2), 2) := by decide +kernel
theorem dX6_does_33 : decode cX6_does 33 = .ok (.ireturn, 1) := by decide +kernel
theorem dX6_does_34 : decode cX6_does 34 = .ok (.aload_n 0, 1) := by decide +kernel
theorem dX6_does_35 : decode cX6_does 35 = .ok (.getfield 16, 3) := by decide +kernel
theorem dX6_does_38 : decode cX6_does 38 = .ok (.iconst 3, 1) := by decide +kernel
theorem dX6_does_39 : decode cX6_does 39 = .ok (.iaload, 1) := by decide +kernel
theorem dX6_does_40 : decode cX6_does 40 = .ok (.bipush 12, 2) := by decide +kernel
theorem dX6_does_42 : decode cX6_does 42 = .ok (.if_icmp .ne 6, 3) := by decide +kernel
theorem dX6_does_45 : decode cX6_does 45 = .ok (.bipush (-4), 2) := by decide +kernel
theorem dX6_does_47 : decode cX6_does 47 = .ok (.ireturn, 1) := by decide +kernel
theorem dX6_does_48 : decode cX6_does 48 = .ok (.aload_n 0, 1) := by decide +kernel
theorem dX6_does_49 : decode cX6_does 49 = .ok (.getfield 34, 3) := by decide +kernel
theorem dX6_does_52 : decode cX6_does 52 = .ok (.aload_n 0, 1) := by decide +kernel
theorem dX6_does_53 : decode cX6_does 53 = .ok (.getfield 16, 3) := by decide +kernel
theorem dX6_does_56 : decode cX6_does 56 = .ok (.iconst 3, 1) := by decide +kernel
theorem dX6_does_57 : decode cX6_does 57 = .ok (.iaload, 1) := by decide +kernel
theorem dX6_does_58 : decode cX6_does 58 = .ok (.iload_n 1, 1) := by decide +kernel
theorem dX6_does_59 : decode cX6_does 59 = .ok (.iastore, 1) := by decide +kernel
theorem dX6_does_60 : decode cX6_does 60 = .ok (.aload_n 0, 1) := by decide +kernel
theorem dX6_does_61 : decode cX6_does 61 = .ok (.getfield 37, 3) := by decide +kernel
theorem dX6_does_64 : decode cX6_does 64 = .ok (.aload_n 0, 1) := by decide +kernel
theorem dX6_does_65 : decode cX6_does 65 = .ok (.getfield 16, 3) := by decide +kernel
theorem dX6_does_68 : decode cX6_does 68 = .ok (.iconst 3, 1) := by decide +kernel
theorem dX6_does_69 : decode cX6_does 69 = .ok (.iaload, 1) := by decide +kernel
theorem dX6_does_70 : decode cX6_does 70 = .ok (.iload_n 2, 1) := by decide +kernel
theorem dX6_does_71 : decode cX6_does 71 = .ok (.iastore, 1) := by decide +kernel
theorem dX6_does_72 : decode cX6_does 72 = .ok (.aload_n 0, 1) := by decide +kernel
theorem dX6_does_73 : decode cX6_does 73 = .ok (.getfield 40, 3) := by decide +kernel
theorem dX6_does_76 : decode cX6_does 76 = .ok (.aload_n 0, 1) := by decide +kernel
theorem dX6_does_77 : decode cX6_does 77 = .ok (.getfield 16, 3) := by decide +kernel
theorem dX6_does_80 : decode cX6_does 80 = .ok (.iconst 3, 1) := by decide +kernel
theorem dX6_does_81 : decode cX6_does 81 = .ok (.iaload, 1) := by decide +kernel
theorem dX6_does_82 : decode cX6_does 82 = .ok (.iload_n 3, 1) := by decide +kernel
theorem dX6_does_83 : decode cX6_does 83 = .ok (.iastore, 1) := by decide +kernel
theorem dX6_does_84 : decode cX6_does 84 = .ok (.aload_n 0, 1) := by decide +kernel
theorem dX6_does_85 : decode cX6_does 85 = .ok (.getfield 16, 3) := by decide +kernel
theorem dX6_does_88 : decode cX6_does 88 = .ok (.iconst 3, 1) := by decide +kernel
theorem dX6_does_89 : decode cX6_does 89 = .ok (.dup2, 1) := by decide +kernel
theorem dX6_does_90 : decode cX6_does 90 = .ok (.iaload, 1) := by decide +kernel
theorem dX6_does_91 : decode cX6_does 91 = .ok (.iconst 1, 1) := by decide +kernel
theorem dX6_does_92 : decode cX6_does 92 = .ok (.iadd, 1) := by decide +kernel
theorem dX6_does_93 : decode cX6_does 93 = .ok (.iastore, 1) := by decide +kernel
theorem dX6_does_94 : decode cX6_does 94 = .ok (.aload_n 0, 1) := by decide +kernel
theorem dX6_does_95 : decode cX6_does 95 = .ok (.getfield 16, 3) := by decide +kernel
theorem dX6_does_98 : decode cX6_does 98 = .ok (.iconst 3, 1) := by decide +kernel
theorem dX6_does_99 : decode cX6_does 99 = .ok (.iaload, 1) := by decide +kernel
theorem dX6_does_100 : decode cX6_does 100 = .ok (.ireturn, 1) := by decide +kernel
theorem dX6_task_0 : decode cX6_task 0 = .ok (.iload_n 1, 1) := by decide +kernel
theorem dX6_task_1 : decode cX6_task 1 = .ok (.invokestatic 154, 3) := by decide +kernel
theorem dX6_task_4 : decode cX6_task 4 = .ok (.ifCond .eq 12, 3) := by decide +kernel
theorem dX6_task_7 : decode cX6_task 7 = .ok (.iload_n 2, 1) := by decide +kernel
theorem dX6_task_8 : decode cX6_task 8 = .ok (.iconst 1, 1) := by decide +kernel
theorem dX6_task_9 : decode cX6_task 9 = .ok (.iconst 5, 1) := by decide +kernel
theorem dX6_task_10 : decode cX6_task 10 = .ok (.invokestatic 106, 3) := by decide +kernel
theorem dX6_task_13 : decode cX6_task 13 = .ok (.ifCond .ne 6, 3) := by decide +kernel
theorem dX6_task_16 : decode cX6_task 16 = .ok (.bipush (-2), 2) := by decide +kernel
theorem dX6_task_18 : decode cX6_task 18 = .ok (.ireturn, 1) := by decide +kernel
theorem dX6_task_19 : decode cX6_task 19 = .ok (.aload_n 0, 1) := by decide +kernel
theorem dX6_task_20 : decode cX6_task 20 = .ok (.getfield 16, 3) := by decide +kernel
theorem dX6_task_23 : decode cX6_task 23 = .ok (.iconst 4, 1) := by decide +kernel
theorem dX6_task_24 : decode cX6_task 24 = .ok (.iaload, 1) := by decide +kernel
theorem dX6_task_25 : decode cX6_task 25 = .ok (.bipush 6, 2) := by decide +kernel
theorem dX6_task_27 : decode cX6_task 27 = .ok (.if_icmp .ne 6, 3) := by decide +kernel
theorem dX6_task_30 : decode cX6_task 30 = .ok (.bipush (-4), 2) := by decide +kernel
theorem dX6_task_32 : decode cX6_task 32 = .ok (.ireturn, 1) := by decide +kernel
theorem dX6_task_33 : decode cX6_task 33 = .ok (.aload_n 0, 1) := by decide +kernel
theorem dX6_task_34 : decode cX6_task 34 = .ok (.getfield 43, 3) := by decide +kernel
theorem dX6_task_37 : decode cX6_task 37 = .ok (.aload_n 0, 1) := by decide +kernel
theorem dX6_task_38 : decode cX6_task 38 = .ok (.getfield 16, 3) := by decide +kernel
theorem dX6_task_41 : decode cX6_task 41 = .ok (.iconst 4, 1) := by decide +kernel
theorem dX6_task_42 : decode cX6_task 42 = .ok (.iaload, 1) := by decide +kernel
theorem dX6_task_43 : decode cX6_task 43 = .ok (.iload_n 1, 1) := by decide +kernel
theorem dX6_task_44 : decode cX6_task 44 = .ok (.iastore, 1) := by decide +kernel
theorem dX6_task_45 : decode cX6_task 45 = .ok (.aload_n 0, 1) := by decide +kernel
theorem dX6_task_46 : decode cX6_task 46 = .ok (.getfield 46, 3) := by decide +kernel
theorem dX6_task_49 : decode cX6_task 49 = .ok (.aload_n 0, 1) := by decide +kernel
theorem dX6_task_50 : decode cX6_task 50 = .ok (.getfield 16, 3) := by decide +kernel
theorem dX6_task_53 : decode cX6_task 53 = .ok (.iconst 4, 1) := by decide +kernel
theorem dX6_task_54 : decode cX6_task 54 = .ok (.iaload, 1) := by decide +kernel
theorem dX6_task_55 : decode cX6_task 55 = .ok (.iload_n 2, 1) := by decide +kernel
theorem dX6_task_56 : decode cX6_task 56 = .ok (.iastore, 1) := by decide +kernel
theorem dX6_task_57 : decode cX6_task 57 = .ok (.aload_n 0, 1) := by decide +kernel
theorem dX6_task_58 : decode cX6_task 58 = .ok (.getfield 16, 3) := by decide +kernel
theorem dX6_task_61 : decode cX6_task 61 = .ok (.iconst 4, 1) := by decide +kernel
theorem dX6_task_62 : decode cX6_task 62 = .ok (.dup2, 1) := by decide +kernel
theorem dX6_task_63 : decode cX6_task 63 = .ok (.iaload, 1) := by decide +kernel
theorem dX6_task_64 : decode cX6_task 64 = .ok (.iconst 1, 1) := by decide +kernel
theorem dX6_task_65 : decode cX6_task 65 = .ok (.iadd, 1) := by decide +kernel
theorem dX6_task_66 : decode cX6_task 66 = .ok (.iastore, 1) := by decide +kernel
theorem dX6_task_67 : decode cX6_task 67 = .ok (.aload_n 0, 1) := by decide +kernel
theorem dX6_task_68 : decode cX6_task 68 = .ok (.getfield 16, 3) := by decide +kernel
theorem dX6_task_71 : decode cX6_task 71 = .ok (.iconst 4, 1) := by decide +kernel
theorem dX6_task_72 : decode cX6_task 72 = .ok (.iaload, 1) := by decide +kernel
theorem dX6_task_73 : decode cX6_task 73 = .ok (.ireturn, 1) := by decide +kernel
theorem dX6_back_0 : decode cX6_back 0 = .ok (.iload_n 1, 1) := by decide +kernel
theorem dX6_back_1 : decode cX6_back 1 = .ok (.iconst 0, 1) := by decide +kernel
theorem dX6_back_2 : decode cX6_back 2 = .ok (.iconst 4, 1) := by decide +kernel
theorem dX6_back_3 : decode cX6_back 3 = .ok (.invokestatic 106, 3) := by decide +kernel
theorem dX6_back_6 : decode cX6_back 6 = .ok (.ifCond .ne 6, 3) := by decide +kernel
theorem dX6_back_9 : decode cX6_back 9 = .ok (.bipush (-2), 2) := by decide +kernel
theorem dX6_back_11 : decode cX6_back 11 = .ok (.ireturn, 1) := by decide +kernel
theorem dX6_back_12 : decode cX6_back 12 = .ok (.aload_n 0, 1) := by decide +kernel
theorem dX6_back_13 : decode cX6_back 13 = .ok (.getfield 16, 3) := by decide +kernel
theorem dX6_back_16 : decode cX6_back 16 = .ok (.iload_n 1, 1) := by decide +kernel
theorem dX6_back_17 : decode cX6_back 17 = .ok (.iaload, 1) := by decide +kernel
theorem dX6_back_18 : decode cX6_back 18 = .ok (.ifCond .ne 6, 3) := by decide +kernel
theorem dX6_back_21 : decode cX6_back 21 = .ok (.bipush (-3), 2) := by decide +kernel
theorem dX6_back_23 : decode cX6_back 23 = .ok (.ireturn, 1) := by decide +kernel
theorem dX6_back_24 : decode cX6_back 24 = .ok (.aload_n 0, 1) := by decide +kernel
theorem dX6_back_25 : decode cX6_back 25 = .ok (.getfield 16, 3) := by decide +kernel
theorem dX6_back_28 : decode cX6_back 28 = .ok (.iload_n 1, 1) := by decide +kernel
theorem dX6_back_29 : decode cX6_back 29 = .ok (.dup2, 1) := by decide +kernel
theorem dX6_back_30 : decode cX6_back 30 = .ok (.iaload, 1) := by decide +kernel
theorem dX6_back_31 : decode cX6_back 31 = .ok (.iconst 1, 1) := by decide +kernel
theorem dX6_back_32 : decode cX6_back 32 = .ok (.isub, 1) := by decide +kernel
theorem dX6_back_33 : decode cX6_back 33 = .ok (.iastore, 1) := by decide +kernel
theorem dX6_back_34 : decode cX6_back 34 = .ok (.aload_n 0, 1) := by decide +kernel
theorem dX6_back_35 : decode cX6_back 35 = .ok (.getfield 16, 3) := by decide +kernel
theorem dX6_back_38 : decode cX6_back 38 = .ok (.iload_n 1, 1) := by decide +kernel
theorem dX6_back_39 : decode cX6_back 39 = .ok (.iaload, 1) := by decide +kernel
theorem dX6_back_40 : decode cX6_back 40 = .ok (.ireturn, 1) := by decide +kernel
theorem dX6_read_0 : decode cX6_read 0 = .ok (.iload_n 1, 1) := by decide +kernel
theorem dX6_read_1 : decode cX6_read 1 = .ok (.invokestatic 157, 3) := by decide +kernel
theorem dX6_read_4 : decode cX6_read 4 = .ok (.ifCond .ne 6, 3) := by decide +kernel
theorem dX6_read_7 : decode cX6_read 7 = .ok (.bipush (-2), 2) := by decide +kernel
theorem dX6_read_9 : decode cX6_read 9 = .ok (.ireturn, 1) := by decide +kernel
theorem dX6_read_10 : decode cX6_read 10 = .ok (.aload_n 0, 1) := by decide +kernel
theorem dX6_read_11 : decode cX6_read 11 = .ok (.getfield 88, 3) := by decide +kernel
theorem dX6_read_14 : decode cX6_read 14 = .ok (.iload_n 1, 1) := by decide +kernel
theorem dX6_read_15 : decode cX6_read 15 = .ok (.baload, 1) := by decide +kernel
theorem dX6_read_16 : decode cX6_read 16 = .ok (.ifCond .ne 9, 3) := by decide +kernel
theorem dX6_read_19 : decode cX6_read 19 = .ok (.aload_n 0, 1) := by decide +kernel
theorem dX6_read_20 : decode cX6_read 20 = .ok (.iconst 1, 1) := by decide +kernel
theorem dX6_read_21 : decode cX6_read 21 = .ok (.invokevirtual 160, 3) := by decide +kernel
theorem dX6_read_24 : decode cX6_read 24 = .ok (.ireturn, 1) := by decide +kernel
theorem dX6_read_25 : decode cX6_read 25 = .ok (.iconst 0, 1) := by decide +kernel
theorem dX6_read_26 : decode cX6_read 26 = .ok (.istore_n 2, 1) := by decide +kernel
theorem dX6_read_27 : decode cX6_read 27 = .ok (.iconst 2, 1) := by decide +kernel
theorem dX6_read_28 : decode cX6_read 28 = .ok (.iload_n 2, 1) := by decide +kernel
theorem dX6_read_29 : decode cX6_read 29 = .ok (.imul, 1) := by decide +kernel
theorem dX6_read_30 : decode cX6_read 30 = .ok (.iconst 1, 1) := by decide +kernel
theorem dX6_read_31 : decode cX6_read 31 = .ok (.iadd, 1) := by decide +kernel
theorem dX6_read_32 : decode cX6_read 32 = .ok (.aload_n 0, 1) := by decide +kernel
theorem dX6_read_33 : decode cX6_read 33 = .ok (.getfield 95, 3) := by decide +kernel
theorem dX6_read_36 : decode cX6_read 36 = .ok (.iload_n 1, 1) := by decide +kernel
theorem dX6_read_37 : decode cX6_read 37 = .ok (.iaload, 1) := by decide +kernel
theorem dX6_read_38 : decode cX6_read 38 = .ok (.if_icmp .ge 44, 3) := by decide +kernel
theorem dX6_read_41 : decode cX6_read 41 = .ok (.aload_n 0, 1) := by decide +kernel
theorem dX6_read_42 : decode cX6_read 42 = .ok (.aload_n 0, 1) := by decide +kernel
theorem dX6_read_43 : decode cX6_read 43 = .ok (.getfield 98, 3) := by decide +kernel
theorem dX6_read_46 : decode cX6_read 46 = .ok (.bipush 60, 2) := by decide +kernel
theorem dX6_read_48 : decode cX6_read 48 = .ok (.iload_n 1, 1) := by decide +kernel
theorem dX6_read_49 : decode cX6_read 49 = .ok (.imul, 1) := by decide +kernel
theorem dX6_read_50 : decode cX6_read 50 = .ok (.iconst 2, 1) := by decide +kernel
theorem dX6_read_51 : decode cX6_read 51 = .ok (.iload_n 2, 1) := by decide +kernel
theorem dX6_read_52 : decode cX6_read 52 = .ok (.imul, 1) := by decide +kernel
theorem dX6_read_53 : decode cX6_read 53 = .ok (.iadd, 1) := by decide +kernel
theorem dX6_read_54 : decode cX6_read 54 = .ok (.iaload, 1) := by decide +kernel
theorem dX6_read_55 : decode cX6_read 55 = .ok (.aload_n 0, 1) := by decide +kernel
theorem dX6_read_56 : decode cX6_read 56 = .ok (.getfield 98, 3) := by decide +kernel
theorem dX6_read_59 : decode cX6_read 59 = .ok (.bipush 60, 2) := by decide +kernel
theorem dX6_read_61 : decode cX6_read 61 = .ok (.iload_n 1, 1) := by decide +kernel
theorem dX6_read_62 : decode cX6_read 62 = .ok (.imul, 1) := by decide +kernel
theorem dX6_read_63 : decode cX6_read 63 = .ok (.iconst 2, 1) := by decide +kernel
theorem dX6_read_64 : decode cX6_read 64 = .ok (.iload_n 2, 1) := by decide +kernel
theorem dX6_read_65 : decode cX6_read 65 = .ok (.imul, 1) := by decide +kernel
theorem dX6_read_66 : decode cX6_read 66 = .ok (.iadd, 1) := by decide +kernel
theorem dX6_read_67 : decode cX6_read 67 = .ok (.iconst 1, 1) := by decide +kernel
theorem dX6_read_68 : decode cX6_read 68 = .ok (.iadd, 1) := by decide +kernel
theorem dX6_read_69 : decode cX6_read 69 = .ok (.iaload, 1) := by decide +kernel
theorem dX6_read_70 : decode cX6_read 70 = .ok (.invokevirtual 164, 3) := by decide +kernel
theorem dX6_read_73 : decode cX6_read 73 = .ok (.ifCond .le 9, 3) := by decide +kernel
theorem dX6_read_76 : decode cX6_read 76 = .ok (.iinc 2 1, 3) := by decide +kernel
theorem dX6_read_79 : decode cX6_read 79 = .ok (.goto (-52), 3) := by decide +kernel
theorem dX6_read_82 : decode cX6_read 82 = .ok (.iload_n 2, 1) := by decide +kernel
theorem dX6_read_83 : decode cX6_read 83 = .ok (.ireturn, 1) := by decide +kernel
theorem dX6_isSick_0 : decode cX6_isSick 0 = .ok (.iconst 0, 1) := by decide +kernel
theorem dX6_isSick_1 : decode cX6_isSick 1 = .ok (.istore_n 3, 1) := by decide +kernel
theorem dX6_isSick_2 : decode cX6_isSick 2 = .ok (.iconst 0, 1) := by decide +kernel
theorem dX6_isSick_3 : decode cX6_isSick 3 = .ok (.istore 4, 2) := by decide +kernel
theorem dX6_isSick_5 : decode cX6_isSick 5 = .ok (.iload 4, 2) := by decide +kernel
theorem dX6_isSick_7 : decode cX6_isSick 7 = .ok (.aload_n 0, 1) := by decide +kernel
theorem dX6_isSick_8 : decode cX6_isSick 8 = .ok (.getfield 16, 3) := by decide +kernel
theorem dX6_isSick_11 : decode cX6_isSick 11 = .ok (.iconst 0, 1) := by decide +kernel
theorem dX6_isSick_12 : decode cX6_isSick 12 = .ok (.iaload, 1) := by decide +kernel
theorem dX6_isSick_13 : decode cX6_isSick 13 = .ok (.if_icmp .ge 41, 3) := by decide +kernel
theorem dX6_isSick_16 : decode cX6_isSick 16 = .ok (.iload_n 3, 1) := by decide +kernel
theorem dX6_isSick_17 : decode cX6_isSick 17 = .ok (.ifCond .ne 25, 3) := by decide +kernel
theorem dX6_isSick_20 : decode cX6_isSick 20 = .ok (.aload_n 0, 1) := by decide +kernel
theorem dX6_isSick_21 : decode cX6_isSick 21 = .ok (.getfield 19, 3) := by decide +kernel
theorem dX6_isSick_24 : decode cX6_isSick 24 = .ok (.iload 4, 2) := by decide +kernel
theorem dX6_isSick_26 : decode cX6_isSick 26 = .ok (.iaload, 1) := by decide +kernel
theorem dX6_isSick_27 : decode cX6_isSick 27 = .ok (.iload_n 1, 1) := by decide +kernel
theorem dX6_isSick_28 : decode cX6_isSick 28 = .ok (.if_icmp .ne 18, 3) := by decide +kernel
theorem dX6_isSick_31 : decode cX6_isSick 31 = .ok (.aload_n 0, 1) := by decide +kernel
theorem dX6_isSick_32 : decode cX6_isSick 32 = .ok (.getfield 22, 3) := by decide +kernel
theorem dX6_isSick_35 : decode cX6_isSick 35 = .ok (.iload 4, 2) := by decide +kernel
theorem dX6_isSick_37 : decode cX6_isSick 37 = .ok (.iaload, 1) := by decide +kernel
theorem dX6_isSick_38 : decode cX6_isSick 38 = .ok (.iload_n 2, 1) := by decide +kernel
theorem dX6_isSick_39 : decode cX6_isSick 39 = .ok (.if_icmp .ne 7, 3) := by decide +kernel
theorem dX6_isSick_42 : decode cX6_isSick 42 = .ok (.iconst 1, 1) := by decide +kernel
theorem dX6_isSick_43 : decode cX6_isSick 43 = .ok (.goto 4, 3) := by decide +kernel
theorem dX6_isSick_46 : decode cX6_isSick 46 = .ok (.iconst 0, 1) := by decide +kernel
theorem dX6_isSick_47 : decode cX6_isSick 47 = .ok (.istore_n 3, 1) := by decide +kernel
theorem dX6_isSick_48 : decode cX6_isSick 48 = .ok (.iinc 4 1, 3) := by decide +kernel
theorem dX6_isSick_51 : decode cX6_isSick 51 = .ok (.goto (-46), 3) := by decide +kernel
theorem dX6_isSick_54 : decode cX6_isSick 54 = .ok (.iload_n 3, 1) := by decide +kernel
theorem dX6_isSick_55 : decode cX6_isSick 55 = .ok (.ireturn, 1) := by decide +kernel
theorem dX6_isLeap_0 : decode cX6_isLeap 0 = .ok (.iconst 0, 1) := by decide +kernel
theorem dX6_isLeap_1 : decode cX6_isLeap 1 = .ok (.istore_n 2, 1) := by decide +kernel
theorem dX6_isLeap_2 : decode cX6_isLeap 2 = .ok (.iconst 0, 1) := by decide +kernel
theorem dX6_isLeap_3 : decode cX6_isLeap 3 = .ok (.istore_n 3, 1) := by decide +kernel
theorem dX6_isLeap_4 : decode cX6_isLeap 4 = .ok (.iload_n 3, 1) := by decide +kernel
theorem dX6_isLeap_5 : decode cX6_isLeap 5 = .ok (.aload_n 0, 1) := by decide +kernel
theorem dX6_isLeap_6 : decode cX6_isLeap 6 = .ok (.getfield 16, 3) := by decide +kernel
theorem dX6_isLeap_9 : decode cX6_isLeap 9 = .ok (.iconst 1, 1) := by decide +kernel
theorem dX6_isLeap_10 : decode cX6_isLeap 10 = .ok (.iaload, 1) := by decide +kernel
theorem dX6_isLeap_11 : decode cX6_isLeap 11 = .ok (.if_icmp .ge 29, 3) := by decide +kernel
theorem dX6_isLeap_14 : decode cX6_isLeap 14 = .ok (.iload_n 2, 1) := by decide +kernel
theorem dX6_isLeap_15 : decode cX6_isLeap 15 = .ok (.ifCond .ne 13, 3) := by decide +kernel
theorem dX6_isLeap_18 : decode cX6_isLeap 18 = .ok (.aload_n 0, 1) := by decide +kernel
theorem dX6_isLeap_19 : decode cX6_isLeap 19 = .ok (.getfield 25, 3) := by decide +kernel
theorem dX6_isLeap_22 : decode cX6_isLeap 22 = .ok (.iload_n 3, 1) := by decide +kernel
theorem dX6_isLeap_23 : decode cX6_isLeap 23 = .ok (.iaload, 1) := by decide +kernel
theorem dX6_isLeap_24 : decode cX6_isLeap 24 = .ok (.iload_n 1, 1) := by decide +kernel
theorem dX6_isLeap_25 : decode cX6_isLeap 25 = .ok (.if_icmp .ne 7, 3) := by decide +kernel
theorem dX6_isLeap_28 : decode cX6_isLeap 28 = .ok (.iconst 1, 1) := by decide +kernel
theorem dX6_isLeap_29 : decode cX6_isLeap 29 = .ok (.goto 4, 3) := by decide +kernel
theorem dX6_isLeap_32 : decode cX6_isLeap 32 = .ok (.iconst 0, 1) := by decide +kernel
theorem dX6_isLeap_33 : decode cX6_isLeap 33 = .ok (.istore_n 2, 1) := by decide +kernel
theorem dX6_isLeap_34 : decode cX6_isLeap 34 = .ok (.iinc 3 1, 3) := by decide +kernel
theorem dX6_isLeap_37 : decode cX6_isLeap 37 = .ok (.goto (-33), 3) := by decide +kernel
theorem dX6_isLeap_40 : decode cX6_isLeap 40 = .ok (.iload_n 2, 1) := by decide +kernel
theorem dX6_isLeap_41 : decode cX6_isLeap 41 = .ok (.ireturn, 1) := by decide +kernel
theorem dX6_rulesOf_0 : decode cX6_rulesOf 0 = .ok (.iload_n 1, 1) := by decide +kernel
theorem dX6_rulesOf_1 : decode cX6_rulesOf 1 = .ok (.iconst 2, 1) := by decide +kernel
theorem dX6_rulesOf_2 : decode cX6_rulesOf 2 = .ok (.irem, 1) := by decide +kernel
theorem dX6_rulesOf_3 : decode cX6_rulesOf 3 = .ok (.istore_n 2, 1) := by decide +kernel
theorem dX6_rulesOf_4 : decode cX6_rulesOf 4 = .ok (.aload_n 0, 1) := by decide +kernel
theorem dX6_rulesOf_5 : decode cX6_rulesOf 5 = .ok (.iload_n 1, 1) := by decide +kernel
theorem dX6_rulesOf_6 : decode cX6_rulesOf 6 = .ok (.invokevirtual 167, 3) := by decide +kernel
theorem dX6_rulesOf_9 : decode cX6_rulesOf 9 = .ok (.ifCond .eq 5, 3) := by decide +kernel
theorem dX6_rulesOf_12 : decode cX6_rulesOf 12 = .ok (.iconst 2, 1) := by decide +kernel
theorem dX6_rulesOf_13 : decode cX6_rulesOf 13 = .ok (.ireturn, 1) := by decide +kernel
theorem dX6_rulesOf_14 : decode cX6_rulesOf 14 = .ok (.iload_n 1, 1) := by decide +kernel
theorem dX6_rulesOf_15 : decode cX6_rulesOf 15 = .ok (.bipush 7, 2) := by decide +kernel
theorem dX6_rulesOf_17 : decode cX6_rulesOf 17 = .ok (.irem, 1) := by decide +kernel
theorem dX6_rulesOf_18 : decode cX6_rulesOf 18 = .ok (.bipush 6, 2) := by decide +kernel
theorem dX6_rulesOf_20 : decode cX6_rulesOf 20 = .ok (.if_icmp .ne 5, 3) := by decide +kernel
theorem dX6_rulesOf_23 : decode cX6_rulesOf 23 = .ok (.iconst (-1), 1) := by decide +kernel
theorem dX6_rulesOf_24 : decode cX6_rulesOf 24 = .ok (.ireturn, 1) := by decide +kernel
theorem dX6_rulesOf_25 : decode cX6_rulesOf 25 = .ok (.aload_n 0, 1) := by decide +kernel
theorem dX6_rulesOf_26 : decode cX6_rulesOf 26 = .ok (.iload_n 2, 1) := by decide +kernel
theorem dX6_rulesOf_27 : decode cX6_rulesOf 27 = .ok (.iload_n 1, 1) := by decide +kernel
theorem dX6_rulesOf_28 : decode cX6_rulesOf 28 = .ok (.invokevirtual 170, 3) := by decide +kernel
theorem dX6_rulesOf_31 : decode cX6_rulesOf 31 = .ok (.ifCond .ne 7, 3) := by decide +kernel
theorem dX6_rulesOf_34 : decode cX6_rulesOf 34 = .ok (.iload_n 2, 1) := by decide +kernel
theorem dX6_rulesOf_35 : decode cX6_rulesOf 35 = .ok (.goto 21, 3) := by decide +kernel
theorem dX6_rulesOf_38 : decode cX6_rulesOf 38 = .ok (.aload_n 0, 1) := by decide +kernel
theorem dX6_rulesOf_39 : decode cX6_rulesOf 39 = .ok (.iconst 1, 1) := by decide +kernel
theorem dX6_rulesOf_40 : decode cX6_rulesOf 40 = .ok (.iload_n 2, 1) := by decide +kernel
theorem dX6_rulesOf_41 : decode cX6_rulesOf 41 = .ok (.isub, 1) := by decide +kernel
theorem dX6_rulesOf_42 : decode cX6_rulesOf 42 = .ok (.iload_n 1, 1) := by decide +kernel
theorem dX6_rulesOf_43 : decode cX6_rulesOf 43 = .ok (.invokevirtual 170, 3) := by decide +kernel
theorem dX6_rulesOf_46 : decode cX6_rulesOf 46 = .ok (.ifCond .ne 9, 3) := by decide +kernel
theorem dX6_rulesOf_49 : decode cX6_rulesOf 49 = .ok (.iconst 1, 1) := by decide +kernel
theorem dX6_rulesOf_50 : decode cX6_rulesOf 50 = .ok (.iload_n 2, 1) := by decide +kernel
theorem dX6_rulesOf_51 : decode cX6_rulesOf 51 = .ok (.isub, 1) := by decide +kernel
theorem dX6_rulesOf_52 : decode cX6_rulesOf 52 = .ok (.goto 4, 3) := by decide +kernel
theorem dX6_rulesOf_55 : decode cX6_rulesOf 55 = .ok (.iconst (-1), 1) := by decide +kernel
theorem dX6_rulesOf_56 : decode cX6_rulesOf 56 = .ok (.ireturn, 1) := by decide +kernel
theorem dX6_rules_0 : decode cX6_rules 0 = .ok (.iload_n 1, 1) := by decide +kernel
theorem dX6_rules_1 : decode cX6_rules 1 = .ok (.invokestatic 151, 3) := by decide +kernel
theorem dX6_rules_4 : decode cX6_rules 4 = .ok (.ifCond .eq 11, 3) := by decide +kernel
theorem dX6_rules_7 : decode cX6_rules 7 = .ok (.aload_n 0, 1) := by decide +kernel
theorem dX6_rules_8 : decode cX6_rules 8 = .ok (.iload_n 1, 1) := by decide +kernel
theorem dX6_rules_9 : decode cX6_rules 9 = .ok (.invokevirtual 173, 3) := by decide +kernel
theorem dX6_rules_12 : decode cX6_rules 12 = .ok (.goto 5, 3) := by decide +kernel
theorem dX6_rules_15 : decode cX6_rules 15 = .ok (.bipush (-2), 2) := by decide +kernel
theorem dX6_rules_17 : decode cX6_rules 17 = .ok (.ireturn, 1) := by decide +kernel
theorem dX6_asTold_0 : decode cX6_asTold 0 = .ok (.aload_n 0, 1) := by decide +kernel
theorem dX6_asTold_1 : decode cX6_asTold 1 = .ok (.iconst (-1), 1) := by decide +kernel
theorem dX6_asTold_2 : decode cX6_asTold 2 = .ok (.putfield 176, 3) := by decide +kernel
theorem dX6_asTold_5 : decode cX6_asTold 5 = .ok (.aload_n 0, 1) := by decide +kernel
theorem dX6_asTold_6 : decode cX6_asTold 6 = .ok (.iconst 0, 1) := by decide +kernel
theorem dX6_asTold_7 : decode cX6_asTold 7 = .ok (.putfield 179, 3) := by decide +kernel
theorem dX6_asTold_10 : decode cX6_asTold 10 = .ok (.return_, 1) := by decide +kernel
theorem dX6_lays_0 : decode cX6_lays 0 = .ok (.aload_n 0, 1) := by decide +kernel
theorem dX6_lays_1 : decode cX6_lays 1 = .ok (.getfield 117, 3) := by decide +kernel
theorem dX6_lays_4 : decode cX6_lays 4 = .ok (.istore_n 1, 1) := by decide +kernel
theorem dX6_lays_5 : decode cX6_lays 5 = .ok (.aload_n 0, 1) := by decide +kernel
theorem dX6_lays_6 : decode cX6_lays 6 = .ok (.invokevirtual 134, 3) := by decide +kernel
theorem dX6_lays_9 : decode cX6_lays 9 = .ok (.istore_n 2, 1) := by decide +kernel
theorem dX6_lays_10 : decode cX6_lays 10 = .ok (.iconst 0, 1) := by decide +kernel
theorem dX6_lays_11 : decode cX6_lays 11 = .ok (.istore_n 3, 1) := by decide +kernel
theorem dX6_lays_12 : decode cX6_lays 12 = .ok (.iload_n 3, 1) := by decide +kernel
theorem dX6_lays_13 : decode cX6_lays 13 = .ok (.bipush 40, 2) := by decide +kernel
theorem dX6_lays_15 : decode cX6_lays 15 = .ok (.if_icmp .ge 274, 3) := by decide +kernel
theorem dX6_lays_18 : decode cX6_lays 18 = .ok (.aload_n 0, 1) := by decide +kernel
theorem dX6_lays_19 : decode cX6_lays 19 = .ok (.iload_n 3, 1) := by decide +kernel
theorem dX6_lays_20 : decode cX6_lays 20 = .ok (.invokevirtual 173, 3) := by decide +kernel
theorem dX6_lays_23 : decode cX6_lays 23 = .ok (.istore 4, 2) := by decide +kernel
theorem dX6_lays_25 : decode cX6_lays 25 = .ok (.aload_n 0, 1) := by decide +kernel
theorem dX6_lays_26 : decode cX6_lays 26 = .ok (.getfield 49, 3) := by decide +kernel
theorem dX6_lays_29 : decode cX6_lays 29 = .ok (.iload_n 3, 1) := by decide +kernel
theorem dX6_lays_30 : decode cX6_lays 30 = .ok (.iload 4, 2) := by decide +kernel
theorem dX6_lays_32 : decode cX6_lays 32 = .ok (.iastore, 1) := by decide +kernel
theorem dX6_lays_33 : decode cX6_lays 33 = .ok (.aload_n 0, 1) := by decide +kernel
theorem dX6_lays_34 : decode cX6_lays 34 = .ok (.getfield 52, 3) := by decide +kernel
theorem dX6_lays_37 : decode cX6_lays 37 = .ok (.iload_n 3, 1) := by decide +kernel
theorem dX6_lays_38 : decode cX6_lays 38 = .ok (.iload_n 1, 1) := by decide +kernel
theorem dX6_lays_39 : decode cX6_lays 39 = .ok (.iastore, 1) := by decide +kernel
theorem dX6_lays_40 : decode cX6_lays 40 = .ok (.aload_n 0, 1) := by decide +kernel
theorem dX6_lays_41 : decode cX6_lays 41 = .ok (.getfield 52, 3) := by decide +kernel
theorem dX6_lays_44 : decode cX6_lays 44 = .ok (.bipush 40, 2) := by decide +kernel
theorem dX6_lays_46 : decode cX6_lays 46 = .ok (.iload_n 3, 1) := by decide +kernel
theorem dX6_lays_47 : decode cX6_lays 47 = .ok (.iadd, 1) := by decide +kernel
theorem dX6_lays_48 : decode cX6_lays 48 = .ok (.iload_n 2, 1) := by decide +kernel
theorem dX6_lays_49 : decode cX6_lays 49 = .ok (.iastore, 1) := by decide +kernel
theorem dX6_lays_50 : decode cX6_lays 50 = .ok (.aload_n 0, 1) := by decide +kernel
theorem dX6_lays_51 : decode cX6_lays 51 = .ok (.invokevirtual 182, 3) := by decide +kernel
theorem dX6_lays_54 : decode cX6_lays 54 = .ok (.istore 5, 2) := by decide +kernel
theorem dX6_lays_56 : decode cX6_lays 56 = .ok (.iload 5, 2) := by decide +kernel
theorem dX6_lays_58 : decode cX6_lays 58 = .ok (.iload 4, 2) := by decide +kernel
theorem dX6_lays_60 : decode cX6_lays 60 = .ok (.ifCond .eq 9, 3) := by decide +kernel
theorem dX6_lays_63 : decode cX6_lays 63 = .ok (.iload 4, 2) := by decide +kernel
theorem dX6_lays_65 : decode cX6_lays 65 = .ok (.iconst 2, 1) := by decide +kernel
theorem dX6_lays_66 : decode cX6_lays 66 = .ok (.if_icmp .ne 7, 3) := by decide +kernel
theorem dX6_lays_69 : decode cX6_lays 69 = .ok (.iload_n 1, 1) := by decide +kernel
theorem dX6_lays_70 : decode cX6_lays 70 = .ok (.goto 5, 3) := by decide +kernel
theorem dX6_lays_73 : decode cX6_lays 73 = .ok (.iload 5, 2) := by decide +kernel
theorem dX6_lays_75 : decode cX6_lays 75 = .ok (.iand, 1) := by decide +kernel
theorem dX6_lays_76 : decode cX6_lays 76 = .ok (.istore 5, 2) := by decide +kernel
theorem dX6_lays_78 : decode cX6_lays 78 = .ok (.iload 5, 2) := by decide +kernel
theorem dX6_lays_80 : decode cX6_lays 80 = .ok (.iload 4, 2) := by decide +kernel
theorem dX6_lays_82 : decode cX6_lays 82 = .ok (.iconst 1, 1) := by decide +kernel
theorem dX6_lays_83 : decode cX6_lays 83 = .ok (.if_icmp .eq 9, 3) := by decide +kernel
theorem dX6_lays_86 : decode cX6_lays 86 = .ok (.iload 4, 2) := by decide +kernel
theorem dX6_lays_88 : decode cX6_lays 88 = .ok (.iconst 2, 1) := by decide +kernel
theorem dX6_lays_89 : decode cX6_lays 89 = .ok (.if_icmp .ne 7, 3) := by decide +kernel
theorem dX6_lays_92 : decode cX6_lays 92 = .ok (.iload_n 2, 1) := by decide +kernel
theorem dX6_lays_93 : decode cX6_lays 93 = .ok (.goto 5, 3) := by decide +kernel
theorem dX6_lays_96 : decode cX6_lays 96 = .ok (.iload 5, 2) := by decide +kernel
theorem dX6_lays_98 : decode cX6_lays 98 = .ok (.iand, 1) := by decide +kernel
theorem dX6_lays_99 : decode cX6_lays 99 = .ok (.istore 5, 2) := by decide +kernel
theorem dX6_lays_101 : decode cX6_lays 101 = .ok (.aload_n 0, 1) := by decide +kernel
theorem dX6_lays_102 : decode cX6_lays 102 = .ok (.getfield 55, 3) := by decide +kernel
theorem dX6_lays_105 : decode cX6_lays 105 = .ok (.iload_n 3, 1) := by decide +kernel
theorem dX6_lays_106 : decode cX6_lays 106 = .ok (.iload 5, 2) := by decide +kernel
theorem dX6_lays_108 : decode cX6_lays 108 = .ok (.iastore, 1) := by decide +kernel
theorem dX6_lays_109 : decode cX6_lays 109 = .ok (.iconst 0, 1) := by decide +kernel
theorem dX6_lays_110 : decode cX6_lays 110 = .ok (.istore 6, 2) := by decide +kernel
theorem dX6_lays_112 : decode cX6_lays 112 = .ok (.iconst 0, 1) := by decide +kernel
theorem dX6_lays_113 : decode cX6_lays 113 = .ok (.istore 7, 2) := by decide +kernel
theorem dX6_lays_115 : decode cX6_lays 115 = .ok (.iload 7, 2) := by decide +kernel
theorem dX6_lays_117 : decode cX6_lays 117 = .ok (.aload_n 0, 1) := by decide +kernel
theorem dX6_lays_118 : decode cX6_lays 118 = .ok (.getfield 16, 3) := by decide +kernel
theorem dX6_lays_121 : decode cX6_lays 121 = .ok (.iconst 2, 1) := by decide +kernel
theorem dX6_lays_122 : decode cX6_lays 122 = .ok (.iaload, 1) := by decide +kernel
theorem dX6_lays_123 : decode cX6_lays 123 = .ok (.if_icmp .ge 61, 3) := by decide +kernel
theorem dX6_lays_126 : decode cX6_lays 126 = .ok (.iload 6, 2) := by decide +kernel
theorem dX6_lays_128 : decode cX6_lays 128 = .ok (.aload_n 0, 1) := by decide +kernel
theorem dX6_lays_129 : decode cX6_lays 129 = .ok (.getfield 28, 3) := by decide +kernel
theorem dX6_lays_132 : decode cX6_lays 132 = .ok (.iload 7, 2) := by decide +kernel
theorem dX6_lays_134 : decode cX6_lays 134 = .ok (.iaload, 1) := by decide +kernel
theorem dX6_lays_135 : decode cX6_lays 135 = .ok (.iload_n 3, 1) := by decide +kernel
theorem dX6_lays_136 : decode cX6_lays 136 = .ok (.if_icmp .ne 38, 3) := by decide +kernel
theorem dX6_lays_139 : decode cX6_lays 139 = .ok (.iload 7, 2) := by decide +kernel
theorem dX6_lays_141 : decode cX6_lays 141 = .ok (.aload_n 0, 1) := by decide +kernel
theorem dX6_lays_142 : decode cX6_lays 142 = .ok (.getfield 176, 3) := by decide +kernel
theorem dX6_lays_145 : decode cX6_lays 145 = .ok (.if_icmp .eq 29, 3) := by decide +kernel
theorem dX6_lays_148 : decode cX6_lays 148 = .ok (.aload_n 0, 1) := by decide +kernel
theorem dX6_lays_149 : decode cX6_lays 149 = .ok (.getfield 31, 3) := by decide +kernel
theorem dX6_lays_152 : decode cX6_lays 152 = .ok (.iload 7, 2) := by decide +kernel
theorem dX6_lays_154 : decode cX6_lays 154 = .ok (.iaload, 1) := by decide +kernel
theorem dX6_lays_155 : decode cX6_lays 155 = .ok (.aload_n 0, 1) := by decide +kernel
theorem dX6_lays_156 : decode cX6_lays 156 = .ok (.getfield 114, 3) := by decide +kernel
theorem dX6_lays_159 : decode cX6_lays 159 = .ok (.if_icmp .ge 15, 3) := by decide +kernel
theorem dX6_lays_162 : decode cX6_lays 162 = .ok (.iconst 1, 1) := by decide +kernel
theorem dX6_lays_163 : decode cX6_lays 163 = .ok (.aload_n 0, 1) := by decide +kernel
theorem dX6_lays_164 : decode cX6_lays 164 = .ok (.getfield 31, 3) := by decide +kernel
theorem dX6_lays_167 : decode cX6_lays 167 = .ok (.iload 7, 2) := by decide +kernel
theorem dX6_lays_169 : decode cX6_lays 169 = .ok (.iaload, 1) := by decide +kernel
theorem dX6_lays_170 : decode cX6_lays 170 = .ok (.ishl, 1) := by decide +kernel
theorem dX6_lays_171 : decode cX6_lays 171 = .ok (.goto 4, 3) := by decide +kernel
theorem dX6_lays_174 : decode cX6_lays 174 = .ok (.iconst 0, 1) := by decide +kernel
theorem dX6_lays_175 : decode cX6_lays 175 = .ok (.ixor, 1) := by decide +kernel
theorem dX6_lays_176 : decode cX6_lays 176 = .ok (.istore 6, 2) := by decide +kernel
theorem dX6_lays_178 : decode cX6_lays 178 = .ok (.iinc 7 1, 3) := by decide +kernel
theorem dX6_lays_181 : decode cX6_lays 181 = .ok (.goto (-66), 3) := by decide +kernel
theorem dX6_lays_184 : decode cX6_lays 184 = .ok (.iload_n 3, 1) := by decide +kernel
theorem dX6_lays_185 : decode cX6_lays 185 = .ok (.aload_n 0, 1) := by decide +kernel
theorem dX6_lays_186 : decode cX6_lays 186 = .ok (.getfield 185, 3) := by decide +kernel
theorem dX6_lays_189 : decode cX6_lays 189 = .ok (.isub, 1) := by decide +kernel
theorem dX6_lays_190 : decode cX6_lays 190 = .ok (.istore 7, 2) := by decide +kernel
theorem dX6_lays_192 : decode cX6_lays 192 = .ok (.iload 7, 2) := by decide +kernel
theorem dX6_lays_194 : decode cX6_lays 194 = .ok (.ifCond .lt 48, 3) := by decide +kernel
theorem dX6_lays_197 : decode cX6_lays 197 = .ok (.iload 7, 2) := by decide +kernel
theorem dX6_lays_199 : decode cX6_lays 199 = .ok (.aload_n 0, 1) := by decide +kernel
theorem dX6_lays_200 : decode cX6_lays 200 = .ok (.getfield 179, 3) := by decide +kernel
theorem dX6_lays_203 : decode cX6_lays 203 = .ok (.if_icmp .ge 39, 3) := by decide +kernel
theorem dX6_lays_206 : decode cX6_lays 206 = .ok (.iload 4, 2) := by decide +kernel
theorem dX6_lays_208 : decode cX6_lays 208 = .ok (.iconst 0, 1) := by decide +kernel
theorem dX6_lays_209 : decode cX6_lays 209 = .ok (.iconst 1, 1) := by decide +kernel
theorem dX6_lays_210 : decode cX6_lays 210 = .ok (.invokestatic 106, 3) := by decide +kernel
theorem dX6_lays_213 : decode cX6_lays 213 = .ok (.ifCond .eq 29, 3) := by decide +kernel
theorem dX6_lays_216 : decode cX6_lays 216 = .ok (.aload_n 0, 1) := by decide +kernel
theorem dX6_lays_217 : decode cX6_lays 217 = .ok (.getfield 58, 3) := by decide +kernel
theorem dX6_lays_220 : decode cX6_lays 220 = .ok (.iload 7, 2) := by decide +kernel
theorem dX6_lays_222 : decode cX6_lays 222 = .ok (.iaload, 1) := by decide +kernel
theorem dX6_lays_223 : decode cX6_lays 223 = .ok (.bipush 8, 2) := by decide +kernel
theorem dX6_lays_225 : decode cX6_lays 225 = .ok (.if_icmp .ge 17, 3) := by decide +kernel
theorem dX6_lays_228 : decode cX6_lays 228 = .ok (.iload 6, 2) := by decide +kernel
theorem dX6_lays_230 : decode cX6_lays 230 = .ok (.iconst 1, 1) := by decide +kernel
theorem dX6_lays_231 : decode cX6_lays 231 = .ok (.aload_n 0, 1) := by decide +kernel
theorem dX6_lays_232 : decode cX6_lays 232 = .ok (.getfield 58, 3) := by decide +kernel
theorem dX6_lays_235 : decode cX6_lays 235 = .ok (.iload 7, 2) := by decide +kernel
theorem dX6_lays_237 : decode cX6_lays 237 = .ok (.iaload, 1) := by decide +kernel
theorem dX6_lays_238 : decode cX6_lays 238 = .ok (.ishl, 1) := by decide +kernel
theorem dX6_lays_239 : decode cX6_lays 239 = .ok (.ixor, 1) := by decide +kernel
theorem dX6_lays_240 : decode cX6_lays 240 = .ok (.istore 6, 2) := by decide +kernel
theorem dX6_lays_242 : decode cX6_lays 242 = .ok (.iload_n 1, 1) := by decide +kernel
theorem dX6_lays_243 : decode cX6_lays 243 = .ok (.iload 4, 2) := by decide +kernel
theorem dX6_lays_245 : decode cX6_lays 245 = .ok (.ifCond .eq 9, 3) := by decide +kernel
theorem dX6_lays_248 : decode cX6_lays 248 = .ok (.iload 4, 2) := by decide +kernel
theorem dX6_lays_250 : decode cX6_lays 250 = .ok (.iconst 2, 1) := by decide +kernel
theorem dX6_lays_251 : decode cX6_lays 251 = .ok (.if_icmp .ne 8, 3) := by decide +kernel
theorem dX6_lays_254 : decode cX6_lays 254 = .ok (.iload 6, 2) := by decide +kernel
theorem dX6_lays_256 : decode cX6_lays 256 = .ok (.goto 4, 3) := by decide +kernel
theorem dX6_lays_259 : decode cX6_lays 259 = .ok (.iconst 0, 1) := by decide +kernel
theorem dX6_lays_260 : decode cX6_lays 260 = .ok (.ixor, 1) := by decide +kernel
theorem dX6_lays_261 : decode cX6_lays 261 = .ok (.istore_n 1, 1) := by decide +kernel
theorem dX6_lays_262 : decode cX6_lays 262 = .ok (.iload_n 2, 1) := by decide +kernel
theorem dX6_lays_263 : decode cX6_lays 263 = .ok (.iload 4, 2) := by decide +kernel
theorem dX6_lays_265 : decode cX6_lays 265 = .ok (.iconst 1, 1) := by decide +kernel
theorem dX6_lays_266 : decode cX6_lays 266 = .ok (.if_icmp .eq 9, 3) := by decide +kernel
theorem dX6_lays_269 : decode cX6_lays 269 = .ok (.iload 4, 2) := by decide +kernel
theorem dX6_lays_271 : decode cX6_lays 271 = .ok (.iconst 2, 1) := by decide +kernel
theorem dX6_lays_272 : decode cX6_lays 272 = .ok (.if_icmp .ne 8, 3) := by decide +kernel
theorem dX6_lays_275 : decode cX6_lays 275 = .ok (.iload 6, 2) := by decide +kernel
theorem dX6_lays_277 : decode cX6_lays 277 = .ok (.goto 4, 3) := by decide +kernel
theorem dX6_lays_280 : decode cX6_lays 280 = .ok (.iconst 0, 1) := by decide +kernel
theorem dX6_lays_281 : decode cX6_lays 281 = .ok (.ixor, 1) := by decide +kernel
theorem dX6_lays_282 : decode cX6_lays 282 = .ok (.istore_n 2, 1) := by decide +kernel
theorem dX6_lays_283 : decode cX6_lays 283 = .ok (.iinc 3 1, 3) := by decide +kernel
theorem dX6_lays_286 : decode cX6_lays 286 = .ok (.goto (-274), 3) := by decide +kernel
theorem dX6_lays_289 : decode cX6_lays 289 = .ok (.return_, 1) := by decide +kernel
theorem dX6_laysTold_0 : decode cX6_laysTold 0 = .ok (.aload_n 0, 1) := by decide +kernel
theorem dX6_laysTold_1 : decode cX6_laysTold 1 = .ok (.invokevirtual 124, 3) := by decide +kernel
theorem dX6_laysTold_4 : decode cX6_laysTold 4 = .ok (.aload_n 0, 1) := by decide +kernel
theorem dX6_laysTold_5 : decode cX6_laysTold 5 = .ok (.invokevirtual 188, 3) := by decide +kernel
theorem dX6_laysTold_8 : decode cX6_laysTold 8 = .ok (.aload_n 0, 1) := by decide +kernel
theorem dX6_laysTold_9 : decode cX6_laysTold 9 = .ok (.invokevirtual 191, 3) := by decide +kernel
theorem dX6_laysTold_12 : decode cX6_laysTold 12 = .ok (.return_, 1) := by decide +kernel
theorem dX6_allowsOf_0 : decode cX6_allowsOf 0 = .ok (.aload_n 0, 1) := by decide +kernel
theorem dX6_allowsOf_1 : decode cX6_allowsOf 1 = .ok (.invokevirtual 194, 3) := by decide +kernel
theorem dX6_allowsOf_4 : decode cX6_allowsOf 4 = .ok (.aload_n 0, 1) := by decide +kernel
theorem dX6_allowsOf_5 : decode cX6_allowsOf 5 = .ok (.getfield 52, 3) := by decide +kernel
theorem dX6_allowsOf_8 : decode cX6_allowsOf 8 = .ok (.bipush 40, 2) := by decide +kernel
theorem dX6_allowsOf_10 : decode cX6_allowsOf 10 = .ok (.iload_n 2, 1) := by decide +kernel
theorem dX6_allowsOf_11 : decode cX6_allowsOf 11 = .ok (.imul, 1) := by decide +kernel
theorem dX6_allowsOf_12 : decode cX6_allowsOf 12 = .ok (.iload_n 1, 1) := by decide +kernel
theorem dX6_allowsOf_13 : decode cX6_allowsOf 13 = .ok (.iadd, 1) := by decide +kernel
theorem dX6_allowsOf_14 : decode cX6_allowsOf 14 = .ok (.iaload, 1) := by decide +kernel
theorem dX6_allowsOf_15 : decode cX6_allowsOf 15 = .ok (.ireturn, 1) := by decide +kernel
theorem dX6_allows_0 : decode cX6_allows 0 = .ok (.iload_n 1, 1) := by decide +kernel
theorem dX6_allows_1 : decode cX6_allows 1 = .ok (.invokestatic 151, 3) := by decide +kernel
theorem dX6_allows_4 : decode cX6_allows 4 = .ok (.ifCond .eq 19, 3) := by decide +kernel
theorem dX6_allows_7 : decode cX6_allows 7 = .ok (.iload_n 2, 1) := by decide +kernel
theorem dX6_allows_8 : decode cX6_allows 8 = .ok (.invokestatic 145, 3) := by decide +kernel
theorem dX6_allows_11 : decode cX6_allows 11 = .ok (.ifCond .eq 12, 3) := by decide +kernel
theorem dX6_allows_14 : decode cX6_allows 14 = .ok (.aload_n 0, 1) := by decide +kernel
theorem dX6_allows_15 : decode cX6_allows 15 = .ok (.iload_n 1, 1) := by decide +kernel
theorem dX6_allows_16 : decode cX6_allows 16 = .ok (.iload_n 2, 1) := by decide +kernel
theorem dX6_allows_17 : decode cX6_allows 17 = .ok (.invokevirtual 197, 3) := by decide +kernel
theorem dX6_allows_20 : decode cX6_allows 20 = .ok (.goto 5, 3) := by decide +kernel
theorem dX6_allows_23 : decode cX6_allows 23 = .ok (.bipush (-2), 2) := by decide +kernel
theorem dX6_allows_25 : decode cX6_allows 25 = .ok (.ireturn, 1) := by decide +kernel
theorem dX6_allowedOf_0 : decode cX6_allowedOf 0 = .ok (.aload_n 0, 1) := by decide +kernel
theorem dX6_allowedOf_1 : decode cX6_allowedOf 1 = .ok (.invokevirtual 194, 3) := by decide +kernel
theorem dX6_allowedOf_4 : decode cX6_allowedOf 4 = .ok (.aload_n 0, 1) := by decide +kernel
theorem dX6_allowedOf_5 : decode cX6_allowedOf 5 = .ok (.getfield 55, 3) := by decide +kernel
theorem dX6_allowedOf_8 : decode cX6_allowedOf 8 = .ok (.iload_n 1, 1) := by decide +kernel
theorem dX6_allowedOf_9 : decode cX6_allowedOf 9 = .ok (.iaload, 1) := by decide +kernel
theorem dX6_allowedOf_10 : decode cX6_allowedOf 10 = .ok (.ireturn, 1) := by decide +kernel
theorem dX6_allowed_0 : decode cX6_allowed 0 = .ok (.iload_n 1, 1) := by decide +kernel
theorem dX6_allowed_1 : decode cX6_allowed 1 = .ok (.invokestatic 151, 3) := by decide +kernel
theorem dX6_allowed_4 : decode cX6_allowed 4 = .ok (.ifCond .eq 11, 3) := by decide +kernel
theorem dX6_allowed_7 : decode cX6_allowed 7 = .ok (.aload_n 0, 1) := by decide +kernel
theorem dX6_allowed_8 : decode cX6_allowed 8 = .ok (.iload_n 1, 1) := by decide +kernel
theorem dX6_allowed_9 : decode cX6_allowed 9 = .ok (.invokevirtual 200, 3) := by decide +kernel
theorem dX6_allowed_12 : decode cX6_allowed 12 = .ok (.goto 5, 3) := by decide +kernel
theorem dX6_allowed_15 : decode cX6_allowed 15 = .ok (.bipush (-2), 2) := by decide +kernel
theorem dX6_allowed_17 : decode cX6_allowed 17 = .ok (.ireturn, 1) := by decide +kernel
theorem dX6_neverNow_0 : decode cX6_neverNow 0 = .ok (.aload_n 0, 1) := by decide +kernel
theorem dX6_neverNow_1 : decode cX6_neverNow 1 = .ok (.invokevirtual 194, 3) := by decide +kernel
theorem dX6_neverNow_4 : decode cX6_neverNow 4 = .ok (.iconst 0, 1) := by decide +kernel
theorem dX6_neverNow_5 : decode cX6_neverNow 5 = .ok (.istore_n 1, 1) := by decide +kernel
theorem dX6_neverNow_6 : decode cX6_neverNow 6 = .ok (.iconst 0, 1) := by decide +kernel
theorem dX6_neverNow_7 : decode cX6_neverNow 7 = .ok (.istore_n 2, 1) := by decide +kernel
theorem dX6_neverNow_8 : decode cX6_neverNow 8 = .ok (.iload_n 2, 1) := by decide +kernel
theorem dX6_neverNow_9 : decode cX6_neverNow 9 = .ok (.bipush 40, 2) := by decide +kernel
theorem dX6_neverNow_11 : decode cX6_neverNow 11 = .ok (.if_icmp .ge 18, 3) := by decide +kernel
theorem dX6_neverNow_14 : decode cX6_neverNow 14 = .ok (.iload_n 1, 1) := by decide +kernel
theorem dX6_neverNow_15 : decode cX6_neverNow 15 = .ok (.aload_n 0, 1) := by decide +kernel
theorem dX6_neverNow_16 : decode cX6_neverNow 16 = .ok (.getfield 55, 3) := by decide +kernel
theorem dX6_neverNow_19 : decode cX6_neverNow 19 = .ok (.iload_n 2, 1) := by decide +kernel
theorem dX6_neverNow_20 : decode cX6_neverNow 20 = .ok (.iaload, 1) := by decide +kernel
theorem dX6_neverNow_21 : decode cX6_neverNow 21 = .ok (.ior, 1) := by decide +kernel
theorem dX6_neverNow_22 : decode cX6_neverNow 22 = .ok (.istore_n 1, 1) := by decide +kernel
theorem dX6_neverNow_23 : decode cX6_neverNow 23 = .ok (.iinc 2 1, 3) := by decide +kernel
theorem dX6_neverNow_26 : decode cX6_neverNow 26 = .ok (.goto (-18), 3) := by decide +kernel
theorem dX6_neverNow_29 : decode cX6_neverNow 29 = .ok (.aload_n 0, 1) := by decide +kernel
theorem dX6_neverNow_30 : decode cX6_neverNow 30 = .ok (.invokevirtual 182, 3) := by decide +kernel
theorem dX6_neverNow_33 : decode cX6_neverNow 33 = .ok (.iload_n 1, 1) := by decide +kernel
theorem dX6_neverNow_34 : decode cX6_neverNow 34 = .ok (.iconst (-1), 1) := by decide +kernel
theorem dX6_neverNow_35 : decode cX6_neverNow 35 = .ok (.ixor, 1) := by decide +kernel
theorem dX6_neverNow_36 : decode cX6_neverNow 36 = .ok (.iand, 1) := by decide +kernel
theorem dX6_neverNow_37 : decode cX6_neverNow 37 = .ok (.ireturn, 1) := by decide +kernel
theorem dX6_never_0 : decode cX6_never 0 = .ok (.aload_n 0, 1) := by decide +kernel
theorem dX6_never_1 : decode cX6_never 1 = .ok (.invokevirtual 203, 3) := by decide +kernel
theorem dX6_never_4 : decode cX6_never 4 = .ok (.ireturn, 1) := by decide +kernel
theorem dX6_alikeNow_0 : decode cX6_alikeNow 0 = .ok (.aload_n 0, 1) := by decide +kernel
theorem dX6_alikeNow_1 : decode cX6_alikeNow 1 = .ok (.invokevirtual 194, 3) := by decide +kernel
theorem dX6_alikeNow_4 : decode cX6_alikeNow 4 = .ok (.iconst 0, 1) := by decide +kernel
theorem dX6_alikeNow_5 : decode cX6_alikeNow 5 = .ok (.istore_n 1, 1) := by decide +kernel
theorem dX6_alikeNow_6 : decode cX6_alikeNow 6 = .ok (.iload_n 1, 1) := by decide +kernel
theorem dX6_alikeNow_7 : decode cX6_alikeNow 7 = .ok (.bipush 40, 2) := by decide +kernel
theorem dX6_alikeNow_9 : decode cX6_alikeNow 9 = .ok (.if_icmp .ge 27, 3) := by decide +kernel
theorem dX6_alikeNow_12 : decode cX6_alikeNow 12 = .ok (.aload_n 0, 1) := by decide +kernel
theorem dX6_alikeNow_13 : decode cX6_alikeNow 13 = .ok (.getfield 52, 3) := by decide +kernel
theorem dX6_alikeNow_16 : decode cX6_alikeNow 16 = .ok (.iload_n 1, 1) := by decide +kernel
theorem dX6_alikeNow_17 : decode cX6_alikeNow 17 = .ok (.iaload, 1) := by decide +kernel
theorem dX6_alikeNow_18 : decode cX6_alikeNow 18 = .ok (.aload_n 0, 1) := by decide +kernel
theorem dX6_alikeNow_19 : decode cX6_alikeNow 19 = .ok (.getfield 52, 3) := by decide +kernel
theorem dX6_alikeNow_22 : decode cX6_alikeNow 22 = .ok (.bipush 40, 2) := by decide +kernel
theorem dX6_alikeNow_24 : decode cX6_alikeNow 24 = .ok (.iload_n 1, 1) := by decide +kernel
theorem dX6_alikeNow_25 : decode cX6_alikeNow 25 = .ok (.iadd, 1) := by decide +kernel
theorem dX6_alikeNow_26 : decode cX6_alikeNow 26 = .ok (.iaload, 1) := by decide +kernel
theorem dX6_alikeNow_27 : decode cX6_alikeNow 27 = .ok (.if_icmp .eq 9, 3) := by decide +kernel
theorem dX6_alikeNow_30 : decode cX6_alikeNow 30 = .ok (.iinc 1 1, 3) := by decide +kernel
theorem dX6_alikeNow_33 : decode cX6_alikeNow 33 = .ok (.goto (-27), 3) := by decide +kernel
theorem dX6_alikeNow_36 : decode cX6_alikeNow 36 = .ok (.iload_n 1, 1) := by decide +kernel
theorem dX6_alikeNow_37 : decode cX6_alikeNow 37 = .ok (.bipush 40, 2) := by decide +kernel
theorem dX6_alikeNow_39 : decode cX6_alikeNow 39 = .ok (.if_icmp .ge 7, 3) := by decide +kernel
theorem dX6_alikeNow_42 : decode cX6_alikeNow 42 = .ok (.iload_n 1, 1) := by decide +kernel
theorem dX6_alikeNow_43 : decode cX6_alikeNow 43 = .ok (.goto 4, 3) := by decide +kernel
theorem dX6_alikeNow_46 : decode cX6_alikeNow 46 = .ok (.iconst (-1), 1) := by decide +kernel
theorem dX6_alikeNow_47 : decode cX6_alikeNow 47 = .ok (.ireturn, 1) := by decide +kernel
theorem dX6_alike_0 : decode cX6_alike 0 = .ok (.aload_n 0, 1) := by decide +kernel
theorem dX6_alike_1 : decode cX6_alike 1 = .ok (.invokevirtual 206, 3) := by decide +kernel
theorem dX6_alike_4 : decode cX6_alike 4 = .ok (.ireturn, 1) := by decide +kernel
theorem dX6_crossingOf_0 : decode cX6_crossingOf 0 = .ok (.aload_n 0, 1) := by decide +kernel
theorem dX6_crossingOf_1 : decode cX6_crossingOf 1 = .ok (.invokevirtual 194, 3) := by decide +kernel
theorem dX6_crossingOf_4 : decode cX6_crossingOf 4 = .ok (.iconst 0, 1) := by decide +kernel
theorem dX6_crossingOf_5 : decode cX6_crossingOf 5 = .ok (.istore_n 2, 1) := by decide +kernel
theorem dX6_crossingOf_6 : decode cX6_crossingOf 6 = .ok (.iconst 0, 1) := by decide +kernel
theorem dX6_crossingOf_7 : decode cX6_crossingOf 7 = .ok (.istore_n 3, 1) := by decide +kernel
theorem dX6_crossingOf_8 : decode cX6_crossingOf 8 = .ok (.iload_n 3, 1) := by decide +kernel
theorem dX6_crossingOf_9 : decode cX6_crossingOf 9 = .ok (.bipush 32, 2) := by decide +kernel
theorem dX6_crossingOf_11 : decode cX6_crossingOf 11 = .ok (.if_icmp .ge 41, 3) := by decide +kernel
theorem dX6_crossingOf_14 : decode cX6_crossingOf 14 = .ok (.iload_n 2, 1) := by decide +kernel
theorem dX6_crossingOf_15 : decode cX6_crossingOf 15 = .ok (.aload_n 0, 1) := by decide +kernel
theorem dX6_crossingOf_16 : decode cX6_crossingOf 16 = .ok (.getfield 55, 3) := by decide +kernel
theorem dX6_crossingOf_19 : decode cX6_crossingOf 19 = .ok (.iload_n 3, 1) := by decide +kernel
theorem dX6_crossingOf_20 : decode cX6_crossingOf 20 = .ok (.iaload, 1) := by decide +kernel
theorem dX6_crossingOf_21 : decode cX6_crossingOf 21 = .ok (.aload_n 0, 1) := by decide +kernel
theorem dX6_crossingOf_22 : decode cX6_crossingOf 22 = .ok (.getfield 55, 3) := by decide +kernel
theorem dX6_crossingOf_25 : decode cX6_crossingOf 25 = .ok (.iload_n 3, 1) := by decide +kernel
theorem dX6_crossingOf_26 : decode cX6_crossingOf 26 = .ok (.iconst 1, 1) := by decide +kernel
theorem dX6_crossingOf_27 : decode cX6_crossingOf 27 = .ok (.iadd, 1) := by decide +kernel
theorem dX6_crossingOf_28 : decode cX6_crossingOf 28 = .ok (.iaload, 1) := by decide +kernel
theorem dX6_crossingOf_29 : decode cX6_crossingOf 29 = .ok (.iand, 1) := by decide +kernel
theorem dX6_crossingOf_30 : decode cX6_crossingOf 30 = .ok (.iload_n 1, 1) := by decide +kernel
theorem dX6_crossingOf_31 : decode cX6_crossingOf 31 = .ok (.invokestatic 127, 3) := by decide +kernel
theorem dX6_crossingOf_34 : decode cX6_crossingOf 34 = .ok (.ifCond .eq 9, 3) := by decide +kernel
theorem dX6_crossingOf_37 : decode cX6_crossingOf 37 = .ok (.iconst 1, 1) := by decide +kernel
theorem dX6_crossingOf_38 : decode cX6_crossingOf 38 = .ok (.iload_n 3, 1) := by decide +kernel
theorem dX6_crossingOf_39 : decode cX6_crossingOf 39 = .ok (.ishl, 1) := by decide +kernel
theorem dX6_crossingOf_40 : decode cX6_crossingOf 40 = .ok (.goto 4, 3) := by decide +kernel
theorem dX6_crossingOf_43 : decode cX6_crossingOf 43 = .ok (.iconst 0, 1) := by decide +kernel
theorem dX6_crossingOf_44 : decode cX6_crossingOf 44 = .ok (.ior, 1) := by decide +kernel
theorem dX6_crossingOf_45 : decode cX6_crossingOf 45 = .ok (.istore_n 2, 1) := by decide +kernel
theorem dX6_crossingOf_46 : decode cX6_crossingOf 46 = .ok (.iinc 3 1, 3) := by decide +kernel
theorem dX6_crossingOf_49 : decode cX6_crossingOf 49 = .ok (.goto (-41), 3) := by decide +kernel
theorem dX6_crossingOf_52 : decode cX6_crossingOf 52 = .ok (.iload_n 2, 1) := by decide +kernel
theorem dX6_crossingOf_53 : decode cX6_crossingOf 53 = .ok (.ireturn, 1) := by decide +kernel
theorem dX6_crossing_0 : decode cX6_crossing 0 = .ok (.aload_n 0, 1) := by decide +kernel
theorem dX6_crossing_1 : decode cX6_crossing 1 = .ok (.iload_n 1, 1) := by decide +kernel
theorem dX6_crossing_2 : decode cX6_crossing 2 = .ok (.invokevirtual 137, 3) := by decide +kernel
theorem dX6_crossing_5 : decode cX6_crossing 5 = .ok (.ifCond .eq 11, 3) := by decide +kernel
theorem dX6_crossing_8 : decode cX6_crossing 8 = .ok (.aload_n 0, 1) := by decide +kernel
theorem dX6_crossing_9 : decode cX6_crossing 9 = .ok (.iload_n 1, 1) := by decide +kernel
theorem dX6_crossing_10 : decode cX6_crossing 10 = .ok (.invokevirtual 209, 3) := by decide +kernel
theorem dX6_crossing_13 : decode cX6_crossing 13 = .ok (.goto 5, 3) := by decide +kernel
theorem dX6_crossing_16 : decode cX6_crossing 16 = .ok (.bipush (-2), 2) := by decide +kernel
theorem dX6_crossing_18 : decode cX6_crossing 18 = .ok (.ireturn, 1) := by decide +kernel
theorem dX6_finedOn_0 : decode cX6_finedOn 0 = .ok (.aload_n 0, 1) := by decide +kernel
theorem dX6_finedOn_1 : decode cX6_finedOn 1 = .ok (.getfield 37, 3) := by decide +kernel
theorem dX6_finedOn_4 : decode cX6_finedOn 4 = .ok (.iload_n 1, 1) := by decide +kernel
theorem dX6_finedOn_5 : decode cX6_finedOn 5 = .ok (.iaload, 1) := by decide +kernel
theorem dX6_finedOn_6 : decode cX6_finedOn 6 = .ok (.istore_n 3, 1) := by decide +kernel
theorem dX6_finedOn_7 : decode cX6_finedOn 7 = .ok (.aload_n 0, 1) := by decide +kernel
theorem dX6_finedOn_8 : decode cX6_finedOn 8 = .ok (.getfield 34, 3) := by decide +kernel
theorem dX6_finedOn_11 : decode cX6_finedOn 11 = .ok (.iload_n 1, 1) := by decide +kernel
theorem dX6_finedOn_12 : decode cX6_finedOn 12 = .ok (.iaload, 1) := by decide +kernel
theorem dX6_finedOn_13 : decode cX6_finedOn 13 = .ok (.aload_n 0, 1) := by decide +kernel
theorem dX6_finedOn_14 : decode cX6_finedOn 14 = .ok (.getfield 40, 3) := by decide +kernel
theorem dX6_finedOn_17 : decode cX6_finedOn 17 = .ok (.iload_n 1, 1) := by decide +kernel
theorem dX6_finedOn_18 : decode cX6_finedOn 18 = .ok (.iaload, 1) := by decide +kernel
theorem dX6_finedOn_19 : decode cX6_finedOn 19 = .ok (.iadd, 1) := by decide +kernel
theorem dX6_finedOn_20 : decode cX6_finedOn 20 = .ok (.iconst 1, 1) := by decide +kernel
theorem dX6_finedOn_21 : decode cX6_finedOn 21 = .ok (.isub, 1) := by decide +kernel
theorem dX6_finedOn_22 : decode cX6_finedOn 22 = .ok (.istore 4, 2) := by decide +kernel
theorem dX6_finedOn_24 : decode cX6_finedOn 24 = .ok (.aload_n 0, 1) := by decide +kernel
theorem dX6_finedOn_25 : decode cX6_finedOn 25 = .ok (.getfield 148, 3) := by decide +kernel
theorem dX6_finedOn_28 : decode cX6_finedOn 28 = .ok (.ifCond .ne 21, 3) := by decide +kernel
theorem dX6_finedOn_31 : decode cX6_finedOn 31 = .ok (.iload_n 2, 1) := by decide +kernel
theorem dX6_finedOn_32 : decode cX6_finedOn 32 = .ok (.aload_n 0, 1) := by decide +kernel
theorem dX6_finedOn_33 : decode cX6_finedOn 33 = .ok (.getfield 34, 3) := by decide +kernel
theorem dX6_finedOn_36 : decode cX6_finedOn 36 = .ok (.iload_n 1, 1) := by decide +kernel
theorem dX6_finedOn_37 : decode cX6_finedOn 37 = .ok (.iaload, 1) := by decide +kernel
theorem dX6_finedOn_38 : decode cX6_finedOn 38 = .ok (.if_icmp .ne 7, 3) := by decide +kernel
theorem dX6_finedOn_41 : decode cX6_finedOn 41 = .ok (.iconst 1, 1) := by decide +kernel
theorem dX6_finedOn_42 : decode cX6_finedOn 42 = .ok (.goto 50, 3) := by decide +kernel
theorem dX6_finedOn_45 : decode cX6_finedOn 45 = .ok (.iconst 0, 1) := by decide +kernel
theorem dX6_finedOn_46 : decode cX6_finedOn 46 = .ok (.goto 46, 3) := by decide +kernel
theorem dX6_finedOn_49 : decode cX6_finedOn 49 = .ok (.aload_n 0, 1) := by decide +kernel
theorem dX6_finedOn_50 : decode cX6_finedOn 50 = .ok (.getfield 148, 3) := by decide +kernel
theorem dX6_finedOn_53 : decode cX6_finedOn 53 = .ok (.iconst 2, 1) := by decide +kernel
theorem dX6_finedOn_54 : decode cX6_finedOn 54 = .ok (.if_icmp .ne 17, 3) := by decide +kernel
theorem dX6_finedOn_57 : decode cX6_finedOn 57 = .ok (.iload_n 2, 1) := by decide +kernel
theorem dX6_finedOn_58 : decode cX6_finedOn 58 = .ok (.iload 4, 2) := by decide +kernel
theorem dX6_finedOn_60 : decode cX6_finedOn 60 = .ok (.if_icmp .ne 7, 3) := by decide +kernel
theorem dX6_finedOn_63 : decode cX6_finedOn 63 = .ok (.iconst 1, 1) := by decide +kernel
theorem dX6_finedOn_64 : decode cX6_finedOn 64 = .ok (.goto 28, 3) := by decide +kernel
theorem dX6_finedOn_67 : decode cX6_finedOn 67 = .ok (.iconst 0, 1) := by decide +kernel
theorem dX6_finedOn_68 : decode cX6_finedOn 68 = .ok (.goto 24, 3) := by decide +kernel
theorem dX6_finedOn_71 : decode cX6_finedOn 71 = .ok (.iload_n 2, 1) := by decide +kernel
theorem dX6_finedOn_72 : decode cX6_finedOn 72 = .ok (.aload_n 0, 1) := by decide +kernel
theorem dX6_finedOn_73 : decode cX6_finedOn 73 = .ok (.getfield 34, 3) := by decide +kernel
theorem dX6_finedOn_76 : decode cX6_finedOn 76 = .ok (.iload_n 1, 1) := by decide +kernel
theorem dX6_finedOn_77 : decode cX6_finedOn 77 = .ok (.iaload, 1) := by decide +kernel
theorem dX6_finedOn_78 : decode cX6_finedOn 78 = .ok (.if_icmp .lt 13, 3) := by decide +kernel
theorem dX6_finedOn_81 : decode cX6_finedOn 81 = .ok (.iload_n 2, 1) := by decide +kernel
theorem dX6_finedOn_82 : decode cX6_finedOn 82 = .ok (.iload 4, 2) := by decide +kernel
theorem dX6_finedOn_84 : decode cX6_finedOn 84 = .ok (.if_icmp .gt 7, 3) := by decide +kernel
theorem dX6_finedOn_87 : decode cX6_finedOn 87 = .ok (.iconst 1, 1) := by decide +kernel
theorem dX6_finedOn_88 : decode cX6_finedOn 88 = .ok (.goto 4, 3) := by decide +kernel
theorem dX6_finedOn_91 : decode cX6_finedOn 91 = .ok (.iconst 0, 1) := by decide +kernel
theorem dX6_finedOn_92 : decode cX6_finedOn 92 = .ok (.istore 5, 2) := by decide +kernel
theorem dX6_finedOn_94 : decode cX6_finedOn 94 = .ok (.iload_n 3, 1) := by decide +kernel
theorem dX6_finedOn_95 : decode cX6_finedOn 95 = .ok (.aload_n 0, 1) := by decide +kernel
theorem dX6_finedOn_96 : decode cX6_finedOn 96 = .ok (.getfield 114, 3) := by decide +kernel
theorem dX6_finedOn_99 : decode cX6_finedOn 99 = .ok (.if_icmp .ge 30, 3) := by decide +kernel
theorem dX6_finedOn_102 : decode cX6_finedOn 102 = .ok (.iload 5, 2) := by decide +kernel
theorem dX6_finedOn_104 : decode cX6_finedOn 104 = .ok (.ifCond .eq 25, 3) := by decide +kernel
theorem dX6_finedOn_107 : decode cX6_finedOn 107 = .ok (.aload_n 0, 1) := by decide +kernel
theorem dX6_finedOn_108 : decode cX6_finedOn 108 = .ok (.getfield 55, 3) := by decide +kernel
theorem dX6_finedOn_111 : decode cX6_finedOn 111 = .ok (.iload_n 2, 1) := by decide +kernel
theorem dX6_finedOn_112 : decode cX6_finedOn 112 = .ok (.iaload, 1) := by decide +kernel
theorem dX6_finedOn_113 : decode cX6_finedOn 113 = .ok (.iload_n 3, 1) := by decide +kernel
theorem dX6_finedOn_114 : decode cX6_finedOn 114 = .ok (.invokestatic 127, 3) := by decide +kernel
theorem dX6_finedOn_117 : decode cX6_finedOn 117 = .ok (.ifCond .ne 12, 3) := by decide +kernel
theorem dX6_finedOn_120 : decode cX6_finedOn 120 = .ok (.aload_n 0, 1) := by decide +kernel
theorem dX6_finedOn_121 : decode cX6_finedOn 121 = .ok (.getfield 13, 3) := by decide +kernel
theorem dX6_finedOn_124 : decode cX6_finedOn 124 = .ok (.iload_n 3, 1) := by decide +kernel
theorem dX6_finedOn_125 : decode cX6_finedOn 125 = .ok (.iaload, 1) := by decide +kernel
theorem dX6_finedOn_126 : decode cX6_finedOn 126 = .ok (.goto 4, 3) := by decide +kernel
theorem dX6_finedOn_129 : decode cX6_finedOn 129 = .ok (.iconst 0, 1) := by decide +kernel
theorem dX6_finedOn_130 : decode cX6_finedOn 130 = .ok (.ireturn, 1) := by decide +kernel
theorem dX6_finedOf_0 : decode cX6_finedOf 0 = .ok (.aload_n 0, 1) := by decide +kernel
theorem dX6_finedOf_1 : decode cX6_finedOf 1 = .ok (.invokevirtual 194, 3) := by decide +kernel
theorem dX6_finedOf_4 : decode cX6_finedOf 4 = .ok (.iconst 0, 1) := by decide +kernel
theorem dX6_finedOf_5 : decode cX6_finedOf 5 = .ok (.istore_n 2, 1) := by decide +kernel
theorem dX6_finedOf_6 : decode cX6_finedOf 6 = .ok (.iconst 0, 1) := by decide +kernel
theorem dX6_finedOf_7 : decode cX6_finedOf 7 = .ok (.istore_n 3, 1) := by decide +kernel
theorem dX6_finedOf_8 : decode cX6_finedOf 8 = .ok (.iload_n 3, 1) := by decide +kernel
theorem dX6_finedOf_9 : decode cX6_finedOf 9 = .ok (.bipush 40, 2) := by decide +kernel
theorem dX6_finedOf_11 : decode cX6_finedOf 11 = .ok (.if_icmp .ge 18, 3) := by decide +kernel
theorem dX6_finedOf_14 : decode cX6_finedOf 14 = .ok (.iload_n 2, 1) := by decide +kernel
theorem dX6_finedOf_15 : decode cX6_finedOf 15 = .ok (.aload_n 0, 1) := by decide +kernel
theorem dX6_finedOf_16 : decode cX6_finedOf 16 = .ok (.iload_n 1, 1) := by decide +kernel
theorem dX6_finedOf_17 : decode cX6_finedOf 17 = .ok (.iload_n 3, 1) := by decide +kernel
theorem dX6_finedOf_18 : decode cX6_finedOf 18 = .ok (.invokevirtual 212, 3) := by decide +kernel
theorem dX6_finedOf_21 : decode cX6_finedOf 21 = .ok (.iadd, 1) := by decide +kernel
theorem dX6_finedOf_22 : decode cX6_finedOf 22 = .ok (.istore_n 2, 1) := by decide +kernel
theorem dX6_finedOf_23 : decode cX6_finedOf 23 = .ok (.iinc 3 1, 3) := by decide +kernel
theorem dX6_finedOf_26 : decode cX6_finedOf 26 = .ok (.goto (-18), 3) := by decide +kernel
theorem dX6_finedOf_29 : decode cX6_finedOf 29 = .ok (.iload_n 2, 1) := by decide +kernel
theorem dX6_finedOf_30 : decode cX6_finedOf 30 = .ok (.ireturn, 1) := by decide +kernel
theorem dX6_fined_0 : decode cX6_fined 0 = .ok (.iload_n 1, 1) := by decide +kernel
theorem dX6_fined_1 : decode cX6_fined 1 = .ok (.iconst 0, 1) := by decide +kernel
theorem dX6_fined_2 : decode cX6_fined 2 = .ok (.aload_n 0, 1) := by decide +kernel
theorem dX6_fined_3 : decode cX6_fined 3 = .ok (.getfield 16, 3) := by decide +kernel
theorem dX6_fined_6 : decode cX6_fined 6 = .ok (.iconst 3, 1) := by decide +kernel
theorem dX6_fined_7 : decode cX6_fined 7 = .ok (.iaload, 1) := by decide +kernel
theorem dX6_fined_8 : decode cX6_fined 8 = .ok (.iconst 1, 1) := by decide +kernel
theorem dX6_fined_9 : decode cX6_fined 9 = .ok (.isub, 1) := by decide +kernel
theorem dX6_fined_10 : decode cX6_fined 10 = .ok (.invokestatic 106, 3) := by decide +kernel
theorem dX6_fined_13 : decode cX6_fined 13 = .ok (.ifCond .eq 11, 3) := by decide +kernel
theorem dX6_fined_16 : decode cX6_fined 16 = .ok (.aload_n 0, 1) := by decide +kernel
theorem dX6_fined_17 : decode cX6_fined 17 = .ok (.iload_n 1, 1) := by decide +kernel
theorem dX6_fined_18 : decode cX6_fined 18 = .ok (.invokevirtual 215, 3) := by decide +kernel
theorem dX6_fined_21 : decode cX6_fined 21 = .ok (.goto 5, 3) := by decide +kernel
theorem dX6_fined_24 : decode cX6_fined 24 = .ok (.bipush (-2), 2) := by decide +kernel
theorem dX6_fined_26 : decode cX6_fined 26 = .ok (.ireturn, 1) := by decide +kernel
theorem dX6_coinsOf_0 : decode cX6_coinsOf 0 = .ok (.aload_n 0, 1) := by decide +kernel
theorem dX6_coinsOf_1 : decode cX6_coinsOf 1 = .ok (.invokevirtual 194, 3) := by decide +kernel
theorem dX6_coinsOf_4 : decode cX6_coinsOf 4 = .ok (.iconst 0, 1) := by decide +kernel
theorem dX6_coinsOf_5 : decode cX6_coinsOf 5 = .ok (.istore_n 2, 1) := by decide +kernel
theorem dX6_coinsOf_6 : decode cX6_coinsOf 6 = .ok (.iconst 0, 1) := by decide +kernel
theorem dX6_coinsOf_7 : decode cX6_coinsOf 7 = .ok (.istore_n 3, 1) := by decide +kernel
theorem dX6_coinsOf_8 : decode cX6_coinsOf 8 = .ok (.iload_n 3, 1) := by decide +kernel
theorem dX6_coinsOf_9 : decode cX6_coinsOf 9 = .ok (.bipush 40, 2) := by decide +kernel
theorem dX6_coinsOf_11 : decode cX6_coinsOf 11 = .ok (.if_icmp .ge 75, 3) := by decide +kernel
theorem dX6_coinsOf_14 : decode cX6_coinsOf 14 = .ok (.aload_n 0, 1) := by decide +kernel
theorem dX6_coinsOf_15 : decode cX6_coinsOf 15 = .ok (.getfield 49, 3) := by decide +kernel
theorem dX6_coinsOf_18 : decode cX6_coinsOf 18 = .ok (.iload_n 3, 1) := by decide +kernel
theorem dX6_coinsOf_19 : decode cX6_coinsOf 19 = .ok (.iaload, 1) := by decide +kernel
theorem dX6_coinsOf_20 : decode cX6_coinsOf 20 = .ok (.iload_n 1, 1) := by decide +kernel
theorem dX6_coinsOf_21 : decode cX6_coinsOf 21 = .ok (.if_icmp .eq 17, 3) := by decide +kernel
theorem dX6_coinsOf_24 : decode cX6_coinsOf 24 = .ok (.iload_n 1, 1) := by decide +kernel
theorem dX6_coinsOf_25 : decode cX6_coinsOf 25 = .ok (.ifCond .ne 17, 3) := by decide +kernel
theorem dX6_coinsOf_28 : decode cX6_coinsOf 28 = .ok (.aload_n 0, 1) := by decide +kernel
theorem dX6_coinsOf_29 : decode cX6_coinsOf 29 = .ok (.getfield 49, 3) := by decide +kernel
theorem dX6_coinsOf_32 : decode cX6_coinsOf 32 = .ok (.iload_n 3, 1) := by decide +kernel
theorem dX6_coinsOf_33 : decode cX6_coinsOf 33 = .ok (.iaload, 1) := by decide +kernel
theorem dX6_coinsOf_34 : decode cX6_coinsOf 34 = .ok (.iconst 2, 1) := by decide +kernel
theorem dX6_coinsOf_35 : decode cX6_coinsOf 35 = .ok (.if_icmp .ne 7, 3) := by decide +kernel
theorem dX6_coinsOf_38 : decode cX6_coinsOf 38 = .ok (.iconst 1, 1) := by decide +kernel
theorem dX6_coinsOf_39 : decode cX6_coinsOf 39 = .ok (.goto 4, 3) := by decide +kernel
theorem dX6_coinsOf_42 : decode cX6_coinsOf 42 = .ok (.iconst 0, 1) := by decide +kernel
theorem dX6_coinsOf_43 : decode cX6_coinsOf 43 = .ok (.istore 4, 2) := by decide +kernel
theorem dX6_coinsOf_45 : decode cX6_coinsOf 45 = .ok (.iconst 0, 1) := by decide +kernel
theorem dX6_coinsOf_46 : decode cX6_coinsOf 46 = .ok (.istore 5, 2) := by decide +kernel
theorem dX6_coinsOf_48 : decode cX6_coinsOf 48 = .ok (.iload 5, 2) := by decide +kernel
theorem dX6_coinsOf_50 : decode cX6_coinsOf 50 = .ok (.aload_n 0, 1) := by decide +kernel
theorem dX6_coinsOf_51 : decode cX6_coinsOf 51 = .ok (.getfield 16, 3) := by decide +kernel
theorem dX6_coinsOf_54 : decode cX6_coinsOf 54 = .ok (.iconst 3, 1) := by decide +kernel
theorem dX6_coinsOf_55 : decode cX6_coinsOf 55 = .ok (.iaload, 1) := by decide +kernel
theorem dX6_coinsOf_56 : decode cX6_coinsOf 56 = .ok (.if_icmp .ge 24, 3) := by decide +kernel
theorem dX6_coinsOf_59 : decode cX6_coinsOf 59 = .ok (.iload 4, 2) := by decide +kernel
theorem dX6_coinsOf_61 : decode cX6_coinsOf 61 = .ok (.ifCond .eq 19, 3) := by decide +kernel
theorem dX6_coinsOf_64 : decode cX6_coinsOf 64 = .ok (.iload_n 2, 1) := by decide +kernel
theorem dX6_coinsOf_65 : decode cX6_coinsOf 65 = .ok (.aload_n 0, 1) := by decide +kernel
theorem dX6_coinsOf_66 : decode cX6_coinsOf 66 = .ok (.iload 5, 2) := by decide +kernel
theorem dX6_coinsOf_68 : decode cX6_coinsOf 68 = .ok (.iload_n 3, 1) := by decide +kernel
theorem dX6_coinsOf_69 : decode cX6_coinsOf 69 = .ok (.invokevirtual 212, 3) := by decide +kernel
theorem dX6_coinsOf_72 : decode cX6_coinsOf 72 = .ok (.iadd, 1) := by decide +kernel
theorem dX6_coinsOf_73 : decode cX6_coinsOf 73 = .ok (.istore_n 2, 1) := by decide +kernel
theorem dX6_coinsOf_74 : decode cX6_coinsOf 74 = .ok (.iinc 5 1, 3) := by decide +kernel
theorem dX6_coinsOf_77 : decode cX6_coinsOf 77 = .ok (.goto (-29), 3) := by decide +kernel
theorem dX6_coinsOf_80 : decode cX6_coinsOf 80 = .ok (.iinc 3 1, 3) := by decide +kernel
theorem dX6_coinsOf_83 : decode cX6_coinsOf 83 = .ok (.goto (-75), 3) := by decide +kernel
theorem dX6_coinsOf_86 : decode cX6_coinsOf 86 = .ok (.iload_n 2, 1) := by decide +kernel
theorem dX6_coinsOf_87 : decode cX6_coinsOf 87 = .ok (.ireturn, 1) := by decide +kernel
theorem dX6_coins_0 : decode cX6_coins 0 = .ok (.iload_n 1, 1) := by decide +kernel
theorem dX6_coins_1 : decode cX6_coins 1 = .ok (.invokestatic 145, 3) := by decide +kernel
theorem dX6_coins_4 : decode cX6_coins 4 = .ok (.ifCond .eq 11, 3) := by decide +kernel
theorem dX6_coins_7 : decode cX6_coins 7 = .ok (.aload_n 0, 1) := by decide +kernel
theorem dX6_coins_8 : decode cX6_coins 8 = .ok (.iload_n 1, 1) := by decide +kernel
theorem dX6_coins_9 : decode cX6_coins 9 = .ok (.invokevirtual 218, 3) := by decide +kernel
theorem dX6_coins_12 : decode cX6_coins 12 = .ok (.goto 5, 3) := by decide +kernel
theorem dX6_coins_15 : decode cX6_coins 15 = .ok (.bipush (-2), 2) := by decide +kernel
theorem dX6_coins_17 : decode cX6_coins 17 = .ok (.ireturn, 1) := by decide +kernel
theorem dX6_firstFor_0 : decode cX6_firstFor 0 = .ok (.iload_n 3, 1) := by decide +kernel
theorem dX6_firstFor_1 : decode cX6_firstFor 1 = .ok (.istore 4, 2) := by decide +kernel
theorem dX6_firstFor_3 : decode cX6_firstFor 3 = .ok (.iload 4, 2) := by decide +kernel
theorem dX6_firstFor_5 : decode cX6_firstFor 5 = .ok (.iload_n 2, 1) := by decide +kernel
theorem dX6_firstFor_6 : decode cX6_firstFor 6 = .ok (.iadd, 1) := by decide +kernel
theorem dX6_firstFor_7 : decode cX6_firstFor 7 = .ok (.bipush 40, 2) := by decide +kernel
theorem dX6_firstFor_9 : decode cX6_firstFor 9 = .ok (.if_icmp .gt 72, 3) := by decide +kernel
theorem dX6_firstFor_12 : decode cX6_firstFor 12 = .ok (.iload_n 1, 1) := by decide +kernel
theorem dX6_firstFor_13 : decode cX6_firstFor 13 = .ok (.aload_n 0, 1) := by decide +kernel
theorem dX6_firstFor_14 : decode cX6_firstFor 14 = .ok (.getfield 114, 3) := by decide +kernel
theorem dX6_firstFor_17 : decode cX6_firstFor 17 = .ok (.if_icmp .ge 64, 3) := by decide +kernel
theorem dX6_firstFor_20 : decode cX6_firstFor 20 = .ok (.iconst 1, 1) := by decide +kernel
theorem dX6_firstFor_21 : decode cX6_firstFor 21 = .ok (.istore 5, 2) := by decide +kernel
theorem dX6_firstFor_23 : decode cX6_firstFor 23 = .ok (.iconst 0, 1) := by decide +kernel
theorem dX6_firstFor_24 : decode cX6_firstFor 24 = .ok (.istore 6, 2) := by decide +kernel
theorem dX6_firstFor_26 : decode cX6_firstFor 26 = .ok (.iload 6, 2) := by decide +kernel
theorem dX6_firstFor_28 : decode cX6_firstFor 28 = .ok (.iload_n 2, 1) := by decide +kernel
theorem dX6_firstFor_29 : decode cX6_firstFor 29 = .ok (.if_icmp .ge 38, 3) := by decide +kernel
theorem dX6_firstFor_32 : decode cX6_firstFor 32 = .ok (.iload 5, 2) := by decide +kernel
theorem dX6_firstFor_34 : decode cX6_firstFor 34 = .ok (.ifCond .eq 24, 3) := by decide +kernel
theorem dX6_firstFor_37 : decode cX6_firstFor 37 = .ok (.aload_n 0, 1) := by decide +kernel
theorem dX6_firstFor_38 : decode cX6_firstFor 38 = .ok (.getfield 55, 3) := by decide +kernel
theorem dX6_firstFor_41 : decode cX6_firstFor 41 = .ok (.iload 4, 2) := by decide +kernel
theorem dX6_firstFor_43 : decode cX6_firstFor 43 = .ok (.iload 6, 2) := by decide +kernel
theorem dX6_firstFor_45 : decode cX6_firstFor 45 = .ok (.iadd, 1) := by decide +kernel
theorem dX6_firstFor_46 : decode cX6_firstFor 46 = .ok (.iaload, 1) := by decide +kernel
theorem dX6_firstFor_47 : decode cX6_firstFor 47 = .ok (.iload_n 1, 1) := by decide +kernel
theorem dX6_firstFor_48 : decode cX6_firstFor 48 = .ok (.invokestatic 127, 3) := by decide +kernel
theorem dX6_firstFor_51 : decode cX6_firstFor 51 = .ok (.ifCond .eq 7, 3) := by decide +kernel
theorem dX6_firstFor_54 : decode cX6_firstFor 54 = .ok (.iconst 1, 1) := by decide +kernel
theorem dX6_firstFor_55 : decode cX6_firstFor 55 = .ok (.goto 4, 3) := by decide +kernel
theorem dX6_firstFor_58 : decode cX6_firstFor 58 = .ok (.iconst 0, 1) := by decide +kernel
theorem dX6_firstFor_59 : decode cX6_firstFor 59 = .ok (.istore 5, 2) := by decide +kernel
theorem dX6_firstFor_61 : decode cX6_firstFor 61 = .ok (.iinc 6 1, 3) := by decide +kernel
theorem dX6_firstFor_64 : decode cX6_firstFor 64 = .ok (.goto (-38), 3) := by decide +kernel
theorem dX6_firstFor_67 : decode cX6_firstFor 67 = .ok (.iload 5, 2) := by decide +kernel
theorem dX6_firstFor_69 : decode cX6_firstFor 69 = .ok (.ifCond .eq 6, 3) := by decide +kernel
theorem dX6_firstFor_72 : decode cX6_firstFor 72 = .ok (.iload 4, 2) := by decide +kernel
theorem dX6_firstFor_74 : decode cX6_firstFor 74 = .ok (.ireturn, 1) := by decide +kernel
theorem dX6_firstFor_75 : decode cX6_firstFor 75 = .ok (.iinc 4 1, 3) := by decide +kernel
theorem dX6_firstFor_78 : decode cX6_firstFor 78 = .ok (.goto (-75), 3) := by decide +kernel
theorem dX6_firstFor_81 : decode cX6_firstFor 81 = .ok (.iconst (-1), 1) := by decide +kernel
theorem dX6_firstFor_82 : decode cX6_firstFor 82 = .ok (.ireturn, 1) := by decide +kernel
theorem dX6_soonestOf_0 : decode cX6_soonestOf 0 = .ok (.aload_n 0, 1) := by decide +kernel
theorem dX6_soonestOf_1 : decode cX6_soonestOf 1 = .ok (.invokevirtual 194, 3) := by decide +kernel
theorem dX6_soonestOf_4 : decode cX6_soonestOf 4 = .ok (.aload_n 0, 1) := by decide +kernel
theorem dX6_soonestOf_5 : decode cX6_soonestOf 5 = .ok (.iload_n 1, 1) := by decide +kernel
theorem dX6_soonestOf_6 : decode cX6_soonestOf 6 = .ok (.iload_n 2, 1) := by decide +kernel
theorem dX6_soonestOf_7 : decode cX6_soonestOf 7 = .ok (.iload_n 3, 1) := by decide +kernel
theorem dX6_soonestOf_8 : decode cX6_soonestOf 8 = .ok (.invokevirtual 221, 3) := by decide +kernel
theorem dX6_soonestOf_11 : decode cX6_soonestOf 11 = .ok (.ireturn, 1) := by decide +kernel
theorem dX6_soonest_0 : decode cX6_soonest 0 = .ok (.aload_n 0, 1) := by decide +kernel
theorem dX6_soonest_1 : decode cX6_soonest 1 = .ok (.iload_n 1, 1) := by decide +kernel
theorem dX6_soonest_2 : decode cX6_soonest 2 = .ok (.invokevirtual 137, 3) := by decide +kernel
theorem dX6_soonest_5 : decode cX6_soonest 5 = .ok (.ifCond .eq 30, 3) := by decide +kernel
theorem dX6_soonest_8 : decode cX6_soonest 8 = .ok (.iload_n 2, 1) := by decide +kernel
theorem dX6_soonest_9 : decode cX6_soonest 9 = .ok (.iconst 1, 1) := by decide +kernel
theorem dX6_soonest_10 : decode cX6_soonest 10 = .ok (.bipush 9, 2) := by decide +kernel
theorem dX6_soonest_12 : decode cX6_soonest 12 = .ok (.invokestatic 106, 3) := by decide +kernel
theorem dX6_soonest_15 : decode cX6_soonest 15 = .ok (.ifCond .eq 20, 3) := by decide +kernel
theorem dX6_soonest_18 : decode cX6_soonest 18 = .ok (.iload_n 3, 1) := by decide +kernel
theorem dX6_soonest_19 : decode cX6_soonest 19 = .ok (.invokestatic 151, 3) := by decide +kernel
theorem dX6_soonest_22 : decode cX6_soonest 22 = .ok (.ifCond .eq 13, 3) := by decide +kernel
theorem dX6_soonest_25 : decode cX6_soonest 25 = .ok (.aload_n 0, 1) := by decide +kernel
theorem dX6_soonest_26 : decode cX6_soonest 26 = .ok (.iload_n 1, 1) := by decide +kernel
theorem dX6_soonest_27 : decode cX6_soonest 27 = .ok (.iload_n 2, 1) := by decide +kernel
theorem dX6_soonest_28 : decode cX6_soonest 28 = .ok (.iload_n 3, 1) := by decide +kernel
theorem dX6_soonest_29 : decode cX6_soonest 29 = .ok (.invokevirtual 225, 3) := by decide +kernel
theorem dX6_soonest_32 : decode cX6_soonest 32 = .ok (.goto 5, 3) := by decide +kernel
theorem dX6_soonest_35 : decode cX6_soonest 35 = .ok (.bipush (-2), 2) := by decide +kernel
theorem dX6_soonest_37 : decode cX6_soonest 37 = .ok (.ireturn, 1) := by decide +kernel
theorem dX6_cheapestOf_0 : decode cX6_cheapestOf 0 = .ok (.aload_n 0, 1) := by decide +kernel
theorem dX6_cheapestOf_1 : decode cX6_cheapestOf 1 = .ok (.invokevirtual 194, 3) := by decide +kernel
theorem dX6_cheapestOf_4 : decode cX6_cheapestOf 4 = .ok (.iconst (-1), 1) := by decide +kernel
theorem dX6_cheapestOf_5 : decode cX6_cheapestOf 5 = .ok (.istore 5, 2) := by decide +kernel
theorem dX6_cheapestOf_7 : decode cX6_cheapestOf 7 = .ok (.iconst (-1), 1) := by decide +kernel
theorem dX6_cheapestOf_8 : decode cX6_cheapestOf 8 = .ok (.istore 6, 2) := by decide +kernel
theorem dX6_cheapestOf_10 : decode cX6_cheapestOf 10 = .ok (.iload_n 3, 1) := by decide +kernel
theorem dX6_cheapestOf_11 : decode cX6_cheapestOf 11 = .ok (.istore 7, 2) := by decide +kernel
theorem dX6_cheapestOf_13 : decode cX6_cheapestOf 13 = .ok (.iload 7, 2) := by decide +kernel
theorem dX6_cheapestOf_15 : decode cX6_cheapestOf 15 = .ok (.iload_n 2, 1) := by decide +kernel
theorem dX6_cheapestOf_16 : decode cX6_cheapestOf 16 = .ok (.iadd, 1) := by decide +kernel
theorem dX6_cheapestOf_17 : decode cX6_cheapestOf 17 = .ok (.bipush 40, 2) := by decide +kernel
theorem dX6_cheapestOf_19 : decode cX6_cheapestOf 19 = .ok (.if_icmp .gt 107, 3) := by decide +kernel
theorem dX6_cheapestOf_22 : decode cX6_cheapestOf 22 = .ok (.iconst 0, 1) := by decide +kernel
theorem dX6_cheapestOf_23 : decode cX6_cheapestOf 23 = .ok (.istore 8, 2) := by decide +kernel
theorem dX6_cheapestOf_25 : decode cX6_cheapestOf 25 = .ok (.iconst 0, 1) := by decide +kernel
theorem dX6_cheapestOf_26 : decode cX6_cheapestOf 26 = .ok (.istore 9, 2) := by decide +kernel
theorem dX6_cheapestOf_28 : decode cX6_cheapestOf 28 = .ok (.iload 9, 2) := by decide +kernel
theorem dX6_cheapestOf_30 : decode cX6_cheapestOf 30 = .ok (.iload_n 2, 1) := by decide +kernel
theorem dX6_cheapestOf_31 : decode cX6_cheapestOf 31 = .ok (.if_icmp .ge 41, 3) := by decide +kernel
theorem dX6_cheapestOf_34 : decode cX6_cheapestOf 34 = .ok (.iload 8, 2) := by decide +kernel
theorem dX6_cheapestOf_36 : decode cX6_cheapestOf 36 = .ok (.aload_n 0, 1) := by decide +kernel
theorem dX6_cheapestOf_37 : decode cX6_cheapestOf 37 = .ok (.getfield 55, 3) := by decide +kernel
theorem dX6_cheapestOf_40 : decode cX6_cheapestOf 40 = .ok (.iload 7, 2) := by decide +kernel
theorem dX6_cheapestOf_42 : decode cX6_cheapestOf 42 = .ok (.iload 9, 2) := by decide +kernel
theorem dX6_cheapestOf_44 : decode cX6_cheapestOf 44 = .ok (.iadd, 1) := by decide +kernel
theorem dX6_cheapestOf_45 : decode cX6_cheapestOf 45 = .ok (.iaload, 1) := by decide +kernel
theorem dX6_cheapestOf_46 : decode cX6_cheapestOf 46 = .ok (.iload_n 1, 1) := by decide +kernel
theorem dX6_cheapestOf_47 : decode cX6_cheapestOf 47 = .ok (.invokestatic 127, 3) := by decide +kernel
theorem dX6_cheapestOf_50 : decode cX6_cheapestOf 50 = .ok (.ifCond .eq 7, 3) := by decide +kernel
theorem dX6_cheapestOf_53 : decode cX6_cheapestOf 53 = .ok (.iconst 0, 1) := by decide +kernel
theorem dX6_cheapestOf_54 : decode cX6_cheapestOf 54 = .ok (.goto 9, 3) := by decide +kernel
theorem dX6_cheapestOf_57 : decode cX6_cheapestOf 57 = .ok (.aload_n 0, 1) := by decide +kernel
theorem dX6_cheapestOf_58 : decode cX6_cheapestOf 58 = .ok (.getfield 13, 3) := by decide +kernel
theorem dX6_cheapestOf_61 : decode cX6_cheapestOf 61 = .ok (.iload_n 1, 1) := by decide +kernel
theorem dX6_cheapestOf_62 : decode cX6_cheapestOf 62 = .ok (.iaload, 1) := by decide +kernel
theorem dX6_cheapestOf_63 : decode cX6_cheapestOf 63 = .ok (.iadd, 1) := by decide +kernel
theorem dX6_cheapestOf_64 : decode cX6_cheapestOf 64 = .ok (.istore 8, 2) := by decide +kernel
theorem dX6_cheapestOf_66 : decode cX6_cheapestOf 66 = .ok (.iinc 9 1, 3) := by decide +kernel
theorem dX6_cheapestOf_69 : decode cX6_cheapestOf 69 = .ok (.goto (-41), 3) := by decide +kernel
theorem dX6_cheapestOf_72 : decode cX6_cheapestOf 72 = .ok (.iload 5, 2) := by decide +kernel
theorem dX6_cheapestOf_74 : decode cX6_cheapestOf 74 = .ok (.iconst (-1), 1) := by decide +kernel
theorem dX6_cheapestOf_75 : decode cX6_cheapestOf 75 = .ok (.if_icmp .eq 10, 3) := by decide +kernel
theorem dX6_cheapestOf_78 : decode cX6_cheapestOf 78 = .ok (.iload 8, 2) := by decide +kernel
theorem dX6_cheapestOf_80 : decode cX6_cheapestOf 80 = .ok (.iload 6, 2) := by decide +kernel
theorem dX6_cheapestOf_82 : decode cX6_cheapestOf 82 = .ok (.if_icmp .ge 7, 3) := by decide +kernel
theorem dX6_cheapestOf_85 : decode cX6_cheapestOf 85 = .ok (.iconst 1, 1) := by decide +kernel
theorem dX6_cheapestOf_86 : decode cX6_cheapestOf 86 = .ok (.goto 4, 3) := by decide +kernel
theorem dX6_cheapestOf_89 : decode cX6_cheapestOf 89 = .ok (.iconst 0, 1) := by decide +kernel
theorem dX6_cheapestOf_90 : decode cX6_cheapestOf 90 = .ok (.istore 9, 2) := by decide +kernel
theorem dX6_cheapestOf_92 : decode cX6_cheapestOf 92 = .ok (.iload 9, 2) := by decide +kernel
theorem dX6_cheapestOf_94 : decode cX6_cheapestOf 94 = .ok (.ifCond .eq 8, 3) := by decide +kernel
theorem dX6_cheapestOf_97 : decode cX6_cheapestOf 97 = .ok (.iload 7, 2) := by decide +kernel
theorem dX6_cheapestOf_99 : decode cX6_cheapestOf 99 = .ok (.goto 5, 3) := by decide +kernel
theorem dX6_cheapestOf_102 : decode cX6_cheapestOf 102 = .ok (.iload 5, 2) := by decide +kernel
theorem dX6_cheapestOf_104 : decode cX6_cheapestOf 104 = .ok (.istore 5, 2) := by decide +kernel
theorem dX6_cheapestOf_106 : decode cX6_cheapestOf 106 = .ok (.iload 9, 2) := by decide +kernel
theorem dX6_cheapestOf_108 : decode cX6_cheapestOf 108 = .ok (.ifCond .eq 8, 3) := by decide +kernel
theorem dX6_cheapestOf_111 : decode cX6_cheapestOf 111 = .ok (.iload 8, 2) := by decide +kernel
theorem dX6_cheapestOf_113 : decode cX6_cheapestOf 113 = .ok (.goto 5, 3) := by decide +kernel
theorem dX6_cheapestOf_116 : decode cX6_cheapestOf 116 = .ok (.iload 6, 2) := by decide +kernel
theorem dX6_cheapestOf_118 : decode cX6_cheapestOf 118 = .ok (.istore 6, 2) := by decide +kernel
theorem dX6_cheapestOf_120 : decode cX6_cheapestOf 120 = .ok (.iinc 7 1, 3) := by decide +kernel
theorem dX6_cheapestOf_123 : decode cX6_cheapestOf 123 = .ok (.goto (-110), 3) := by decide +kernel
theorem dX6_cheapestOf_126 : decode cX6_cheapestOf 126 = .ok (.iload 4, 2) := by decide +kernel
theorem dX6_cheapestOf_128 : decode cX6_cheapestOf 128 = .ok (.ifCond .ne 8, 3) := by decide +kernel
theorem dX6_cheapestOf_131 : decode cX6_cheapestOf 131 = .ok (.iload 5, 2) := by decide +kernel
theorem dX6_cheapestOf_133 : decode cX6_cheapestOf 133 = .ok (.goto 5, 3) := by decide +kernel
theorem dX6_cheapestOf_136 : decode cX6_cheapestOf 136 = .ok (.iload 6, 2) := by decide +kernel
theorem dX6_cheapestOf_138 : decode cX6_cheapestOf 138 = .ok (.ireturn, 1) := by decide +kernel
theorem dX6_cheapest_0 : decode cX6_cheapest 0 = .ok (.aload_n 0, 1) := by decide +kernel
theorem dX6_cheapest_1 : decode cX6_cheapest 1 = .ok (.iload_n 1, 1) := by decide +kernel
theorem dX6_cheapest_2 : decode cX6_cheapest 2 = .ok (.invokevirtual 137, 3) := by decide +kernel
theorem dX6_cheapest_5 : decode cX6_cheapest 5 = .ok (.ifCond .eq 40, 3) := by decide +kernel
theorem dX6_cheapest_8 : decode cX6_cheapest 8 = .ok (.iload_n 2, 1) := by decide +kernel
theorem dX6_cheapest_9 : decode cX6_cheapest 9 = .ok (.iconst 1, 1) := by decide +kernel
theorem dX6_cheapest_10 : decode cX6_cheapest 10 = .ok (.bipush 9, 2) := by decide +kernel
theorem dX6_cheapest_12 : decode cX6_cheapest 12 = .ok (.invokestatic 106, 3) := by decide +kernel
theorem dX6_cheapest_15 : decode cX6_cheapest 15 = .ok (.ifCond .eq 30, 3) := by decide +kernel
theorem dX6_cheapest_18 : decode cX6_cheapest 18 = .ok (.iload_n 3, 1) := by decide +kernel
theorem dX6_cheapest_19 : decode cX6_cheapest 19 = .ok (.invokestatic 151, 3) := by decide +kernel
theorem dX6_cheapest_22 : decode cX6_cheapest 22 = .ok (.ifCond .eq 23, 3) := by decide +kernel
theorem dX6_cheapest_25 : decode cX6_cheapest 25 = .ok (.iload 4, 2) := by decide +kernel
theorem dX6_cheapest_27 : decode cX6_cheapest 27 = .ok (.invokestatic 145, 3) := by decide +kernel
theorem dX6_cheapest_30 : decode cX6_cheapest 30 = .ok (.ifCond .eq 15, 3) := by decide +kernel
theorem dX6_cheapest_33 : decode cX6_cheapest 33 = .ok (.aload_n 0, 1) := by decide +kernel
theorem dX6_cheapest_34 : decode cX6_cheapest 34 = .ok (.iload_n 1, 1) := by decide +kernel
theorem dX6_cheapest_35 : decode cX6_cheapest 35 = .ok (.iload_n 2, 1) := by decide +kernel
theorem dX6_cheapest_36 : decode cX6_cheapest 36 = .ok (.iload_n 3, 1) := by decide +kernel
theorem dX6_cheapest_37 : decode cX6_cheapest 37 = .ok (.iload 4, 2) := by decide +kernel
theorem dX6_cheapest_39 : decode cX6_cheapest 39 = .ok (.invokevirtual 228, 3) := by decide +kernel
theorem dX6_cheapest_42 : decode cX6_cheapest 42 = .ok (.goto 5, 3) := by decide +kernel
theorem dX6_cheapest_45 : decode cX6_cheapest 45 = .ok (.bipush (-2), 2) := by decide +kernel
theorem dX6_cheapest_47 : decode cX6_cheapest 47 = .ok (.ireturn, 1) := by decide +kernel
theorem dX6_finishBy_0 : decode cX6_finishBy 0 = .ok (.iload_n 1, 1) := by decide +kernel
theorem dX6_finishBy_1 : decode cX6_finishBy 1 = .ok (.istore_n 2, 1) := by decide +kernel
theorem dX6_finishBy_2 : decode cX6_finishBy 2 = .ok (.iconst 0, 1) := by decide +kernel
theorem dX6_finishBy_3 : decode cX6_finishBy 3 = .ok (.istore_n 3, 1) := by decide +kernel
theorem dX6_finishBy_4 : decode cX6_finishBy 4 = .ok (.iload_n 3, 1) := by decide +kernel
theorem dX6_finishBy_5 : decode cX6_finishBy 5 = .ok (.aload_n 0, 1) := by decide +kernel
theorem dX6_finishBy_6 : decode cX6_finishBy 6 = .ok (.getfield 16, 3) := by decide +kernel
theorem dX6_finishBy_9 : decode cX6_finishBy 9 = .ok (.iconst 4, 1) := by decide +kernel
theorem dX6_finishBy_10 : decode cX6_finishBy 10 = .ok (.iaload, 1) := by decide +kernel
theorem dX6_finishBy_11 : decode cX6_finishBy 11 = .ok (.if_icmp .ge 69, 3) := by decide +kernel
theorem dX6_finishBy_14 : decode cX6_finishBy 14 = .ok (.aload_n 0, 1) := by decide +kernel
theorem dX6_finishBy_15 : decode cX6_finishBy 15 = .ok (.getfield 64, 3) := by decide +kernel
theorem dX6_finishBy_18 : decode cX6_finishBy 18 = .ok (.iload_n 3, 1) := by decide +kernel
theorem dX6_finishBy_19 : decode cX6_finishBy 19 = .ok (.iaload, 1) := by decide +kernel
theorem dX6_finishBy_20 : decode cX6_finishBy 20 = .ok (.istore 4, 2) := by decide +kernel
theorem dX6_finishBy_22 : decode cX6_finishBy 22 = .ok (.aload_n 0, 1) := by decide +kernel
theorem dX6_finishBy_23 : decode cX6_finishBy 23 = .ok (.getfield 61, 3) := by decide +kernel
theorem dX6_finishBy_26 : decode cX6_finishBy 26 = .ok (.iload_n 3, 1) := by decide +kernel
theorem dX6_finishBy_27 : decode cX6_finishBy 27 = .ok (.aload_n 0, 1) := by decide +kernel
theorem dX6_finishBy_28 : decode cX6_finishBy 28 = .ok (.aload_n 0, 1) := by decide +kernel
theorem dX6_finishBy_29 : decode cX6_finishBy 29 = .ok (.getfield 43, 3) := by decide +kernel
theorem dX6_finishBy_32 : decode cX6_finishBy 32 = .ok (.iload 4, 2) := by decide +kernel
theorem dX6_finishBy_34 : decode cX6_finishBy 34 = .ok (.iaload, 1) := by decide +kernel
theorem dX6_finishBy_35 : decode cX6_finishBy 35 = .ok (.aload_n 0, 1) := by decide +kernel
theorem dX6_finishBy_36 : decode cX6_finishBy 36 = .ok (.getfield 46, 3) := by decide +kernel
theorem dX6_finishBy_39 : decode cX6_finishBy 39 = .ok (.iload 4, 2) := by decide +kernel
theorem dX6_finishBy_41 : decode cX6_finishBy 41 = .ok (.iaload, 1) := by decide +kernel
theorem dX6_finishBy_42 : decode cX6_finishBy 42 = .ok (.iload_n 2, 1) := by decide +kernel
theorem dX6_finishBy_43 : decode cX6_finishBy 43 = .ok (.invokevirtual 221, 3) := by decide +kernel
theorem dX6_finishBy_46 : decode cX6_finishBy 46 = .ok (.iastore, 1) := by decide +kernel
theorem dX6_finishBy_47 : decode cX6_finishBy 47 = .ok (.aload_n 0, 1) := by decide +kernel
theorem dX6_finishBy_48 : decode cX6_finishBy 48 = .ok (.getfield 61, 3) := by decide +kernel
theorem dX6_finishBy_51 : decode cX6_finishBy 51 = .ok (.iload_n 3, 1) := by decide +kernel
theorem dX6_finishBy_52 : decode cX6_finishBy 52 = .ok (.iaload, 1) := by decide +kernel
theorem dX6_finishBy_53 : decode cX6_finishBy 53 = .ok (.iconst (-1), 1) := by decide +kernel
theorem dX6_finishBy_54 : decode cX6_finishBy 54 = .ok (.if_icmp .ne 5, 3) := by decide +kernel
theorem dX6_finishBy_57 : decode cX6_finishBy 57 = .ok (.iconst (-1), 1) := by decide +kernel
theorem dX6_finishBy_58 : decode cX6_finishBy 58 = .ok (.ireturn, 1) := by decide +kernel
theorem dX6_finishBy_59 : decode cX6_finishBy 59 = .ok (.aload_n 0, 1) := by decide +kernel
theorem dX6_finishBy_60 : decode cX6_finishBy 60 = .ok (.getfield 61, 3) := by decide +kernel
theorem dX6_finishBy_63 : decode cX6_finishBy 63 = .ok (.iload_n 3, 1) := by decide +kernel
theorem dX6_finishBy_64 : decode cX6_finishBy 64 = .ok (.iaload, 1) := by decide +kernel
theorem dX6_finishBy_65 : decode cX6_finishBy 65 = .ok (.aload_n 0, 1) := by decide +kernel
theorem dX6_finishBy_66 : decode cX6_finishBy 66 = .ok (.getfield 46, 3) := by decide +kernel
theorem dX6_finishBy_69 : decode cX6_finishBy 69 = .ok (.iload 4, 2) := by decide +kernel
theorem dX6_finishBy_71 : decode cX6_finishBy 71 = .ok (.iaload, 1) := by decide +kernel
theorem dX6_finishBy_72 : decode cX6_finishBy 72 = .ok (.iadd, 1) := by decide +kernel
theorem dX6_finishBy_73 : decode cX6_finishBy 73 = .ok (.istore_n 2, 1) := by decide +kernel
theorem dX6_finishBy_74 : decode cX6_finishBy 74 = .ok (.iinc 3 1, 3) := by decide +kernel
theorem dX6_finishBy_77 : decode cX6_finishBy 77 = .ok (.goto (-73), 3) := by decide +kernel
theorem dX6_finishBy_80 : decode cX6_finishBy 80 = .ok (.aload_n 0, 1) := by decide +kernel
theorem dX6_finishBy_81 : decode cX6_finishBy 81 = .ok (.getfield 16, 3) := by decide +kernel
theorem dX6_finishBy_84 : decode cX6_finishBy 84 = .ok (.iconst 4, 1) := by decide +kernel
theorem dX6_finishBy_85 : decode cX6_finishBy 85 = .ok (.iaload, 1) := by decide +kernel
theorem dX6_finishBy_86 : decode cX6_finishBy 86 = .ok (.ifCond .ne 7, 3) := by decide +kernel
theorem dX6_finishBy_89 : decode cX6_finishBy 89 = .ok (.iconst (-1), 1) := by decide +kernel
theorem dX6_finishBy_90 : decode cX6_finishBy 90 = .ok (.goto 6, 3) := by decide +kernel
theorem dX6_finishBy_93 : decode cX6_finishBy 93 = .ok (.iload_n 2, 1) := by decide +kernel
theorem dX6_finishBy_94 : decode cX6_finishBy 94 = .ok (.iconst 1, 1) := by decide +kernel
theorem dX6_finishBy_95 : decode cX6_finishBy 95 = .ok (.isub, 1) := by decide +kernel
theorem dX6_finishBy_96 : decode cX6_finishBy 96 = .ok (.ireturn, 1) := by decide +kernel
theorem dX6_finishOf_0 : decode cX6_finishOf 0 = .ok (.aload_n 0, 1) := by decide +kernel
theorem dX6_finishOf_1 : decode cX6_finishOf 1 = .ok (.invokevirtual 194, 3) := by decide +kernel
theorem dX6_finishOf_4 : decode cX6_finishOf 4 = .ok (.iconst 0, 1) := by decide +kernel
theorem dX6_finishOf_5 : decode cX6_finishOf 5 = .ok (.istore_n 3, 1) := by decide +kernel
theorem dX6_finishOf_6 : decode cX6_finishOf 6 = .ok (.iload_n 3, 1) := by decide +kernel
theorem dX6_finishOf_7 : decode cX6_finishOf 7 = .ok (.bipush 6, 2) := by decide +kernel
theorem dX6_finishOf_9 : decode cX6_finishOf 9 = .ok (.if_icmp .ge 16, 3) := by decide +kernel
theorem dX6_finishOf_12 : decode cX6_finishOf 12 = .ok (.aload_n 0, 1) := by decide +kernel
theorem dX6_finishOf_13 : decode cX6_finishOf 13 = .ok (.getfield 64, 3) := by decide +kernel
theorem dX6_finishOf_16 : decode cX6_finishOf 16 = .ok (.iload_n 3, 1) := by decide +kernel
theorem dX6_finishOf_17 : decode cX6_finishOf 17 = .ok (.iload_n 3, 1) := by decide +kernel
theorem dX6_finishOf_18 : decode cX6_finishOf 18 = .ok (.iastore, 1) := by decide +kernel
theorem dX6_finishOf_19 : decode cX6_finishOf 19 = .ok (.iinc 3 1, 3) := by decide +kernel
theorem dX6_finishOf_22 : decode cX6_finishOf 22 = .ok (.goto (-16), 3) := by decide +kernel
theorem dX6_finishOf_25 : decode cX6_finishOf 25 = .ok (.aload_n 0, 1) := by decide +kernel
theorem dX6_finishOf_26 : decode cX6_finishOf 26 = .ok (.iload_n 1, 1) := by decide +kernel
theorem dX6_finishOf_27 : decode cX6_finishOf 27 = .ok (.invokevirtual 232, 3) := by decide +kernel
theorem dX6_finishOf_30 : decode cX6_finishOf 30 = .ok (.istore_n 3, 1) := by decide +kernel
theorem dX6_finishOf_31 : decode cX6_finishOf 31 = .ok (.iload_n 2, 1) := by decide +kernel
theorem dX6_finishOf_32 : decode cX6_finishOf 32 = .ok (.iconst (-1), 1) := by decide +kernel
theorem dX6_finishOf_33 : decode cX6_finishOf 33 = .ok (.if_icmp .eq 8, 3) := by decide +kernel
theorem dX6_finishOf_36 : decode cX6_finishOf 36 = .ok (.iload_n 3, 1) := by decide +kernel
theorem dX6_finishOf_37 : decode cX6_finishOf 37 = .ok (.iconst (-1), 1) := by decide +kernel
theorem dX6_finishOf_38 : decode cX6_finishOf 38 = .ok (.if_icmp .ne 7, 3) := by decide +kernel
theorem dX6_finishOf_41 : decode cX6_finishOf 41 = .ok (.iload_n 3, 1) := by decide +kernel
theorem dX6_finishOf_42 : decode cX6_finishOf 42 = .ok (.goto 23, 3) := by decide +kernel
theorem dX6_finishOf_45 : decode cX6_finishOf 45 = .ok (.iload_n 2, 1) := by decide +kernel
theorem dX6_finishOf_46 : decode cX6_finishOf 46 = .ok (.aload_n 0, 1) := by decide +kernel
theorem dX6_finishOf_47 : decode cX6_finishOf 47 = .ok (.getfield 16, 3) := by decide +kernel
theorem dX6_finishOf_50 : decode cX6_finishOf 50 = .ok (.iconst 4, 1) := by decide +kernel
theorem dX6_finishOf_51 : decode cX6_finishOf 51 = .ok (.iaload, 1) := by decide +kernel
theorem dX6_finishOf_52 : decode cX6_finishOf 52 = .ok (.if_icmp .ge 12, 3) := by decide +kernel
theorem dX6_finishOf_55 : decode cX6_finishOf 55 = .ok (.aload_n 0, 1) := by decide +kernel
theorem dX6_finishOf_56 : decode cX6_finishOf 56 = .ok (.getfield 61, 3) := by decide +kernel
theorem dX6_finishOf_59 : decode cX6_finishOf 59 = .ok (.iload_n 2, 1) := by decide +kernel
theorem dX6_finishOf_60 : decode cX6_finishOf 60 = .ok (.iaload, 1) := by decide +kernel
theorem dX6_finishOf_61 : decode cX6_finishOf 61 = .ok (.goto 4, 3) := by decide +kernel
theorem dX6_finishOf_64 : decode cX6_finishOf 64 = .ok (.iconst (-1), 1) := by decide +kernel
theorem dX6_finishOf_65 : decode cX6_finishOf 65 = .ok (.ireturn, 1) := by decide +kernel
theorem dX6_finish_0 : decode cX6_finish 0 = .ok (.iload_n 1, 1) := by decide +kernel
theorem dX6_finish_1 : decode cX6_finish 1 = .ok (.invokestatic 151, 3) := by decide +kernel
theorem dX6_finish_4 : decode cX6_finish 4 = .ok (.ifCond .eq 21, 3) := by decide +kernel
theorem dX6_finish_7 : decode cX6_finish 7 = .ok (.iload_n 2, 1) := by decide +kernel
theorem dX6_finish_8 : decode cX6_finish 8 = .ok (.iconst (-1), 1) := by decide +kernel
theorem dX6_finish_9 : decode cX6_finish 9 = .ok (.iconst 5, 1) := by decide +kernel
theorem dX6_finish_10 : decode cX6_finish 10 = .ok (.invokestatic 106, 3) := by decide +kernel
theorem dX6_finish_13 : decode cX6_finish 13 = .ok (.ifCond .eq 12, 3) := by decide +kernel
theorem dX6_finish_16 : decode cX6_finish 16 = .ok (.aload_n 0, 1) := by decide +kernel
theorem dX6_finish_17 : decode cX6_finish 17 = .ok (.iload_n 1, 1) := by decide +kernel
theorem dX6_finish_18 : decode cX6_finish 18 = .ok (.iload_n 2, 1) := by decide +kernel
theorem dX6_finish_19 : decode cX6_finish 19 = .ok (.invokevirtual 235, 3) := by decide +kernel
theorem dX6_finish_22 : decode cX6_finish 22 = .ok (.goto 5, 3) := by decide +kernel
theorem dX6_finish_25 : decode cX6_finish 25 = .ok (.bipush (-2), 2) := by decide +kernel
theorem dX6_finish_27 : decode cX6_finish 27 = .ok (.ireturn, 1) := by decide +kernel
theorem dX6_planBy_0 : decode cX6_planBy 0 = .ok (.aload_n 0, 1) := by decide +kernel
theorem dX6_planBy_1 : decode cX6_planBy 1 = .ok (.getfield 16, 3) := by decide +kernel
theorem dX6_planBy_4 : decode cX6_planBy 4 = .ok (.iconst 4, 1) := by decide +kernel
theorem dX6_planBy_5 : decode cX6_planBy 5 = .ok (.iaload, 1) := by decide +kernel
theorem dX6_planBy_6 : decode cX6_planBy 6 = .ok (.istore_n 2, 1) := by decide +kernel
theorem dX6_planBy_7 : decode cX6_planBy 7 = .ok (.iconst 1, 1) := by decide +kernel
theorem dX6_planBy_8 : decode cX6_planBy 8 = .ok (.istore_n 3, 1) := by decide +kernel
theorem dX6_planBy_9 : decode cX6_planBy 9 = .ok (.iconst 0, 1) := by decide +kernel
theorem dX6_planBy_10 : decode cX6_planBy 10 = .ok (.istore 4, 2) := by decide +kernel
theorem dX6_planBy_12 : decode cX6_planBy 12 = .ok (.iload 4, 2) := by decide +kernel
theorem dX6_planBy_14 : decode cX6_planBy 14 = .ok (.iload_n 2, 1) := by decide +kernel
theorem dX6_planBy_15 : decode cX6_planBy 15 = .ok (.if_icmp .ge 13, 3) := by decide +kernel
theorem dX6_planBy_18 : decode cX6_planBy 18 = .ok (.iload_n 3, 1) := by decide +kernel
theorem dX6_planBy_19 : decode cX6_planBy 19 = .ok (.iload_n 2, 1) := by decide +kernel
theorem dX6_planBy_20 : decode cX6_planBy 20 = .ok (.imul, 1) := by decide +kernel
theorem dX6_planBy_21 : decode cX6_planBy 21 = .ok (.istore_n 3, 1) := by decide +kernel
theorem dX6_planBy_22 : decode cX6_planBy 22 = .ok (.iinc 4 1, 3) := by decide +kernel
theorem dX6_planBy_25 : decode cX6_planBy 25 = .ok (.goto (-13), 3) := by decide +kernel
theorem dX6_planBy_28 : decode cX6_planBy 28 = .ok (.iconst (-1), 1) := by decide +kernel
theorem dX6_planBy_29 : decode cX6_planBy 29 = .ok (.istore 4, 2) := by decide +kernel
theorem dX6_planBy_31 : decode cX6_planBy 31 = .ok (.iconst 0, 1) := by decide +kernel
theorem dX6_planBy_32 : decode cX6_planBy 32 = .ok (.istore 5, 2) := by decide +kernel
theorem dX6_planBy_34 : decode cX6_planBy 34 = .ok (.iload 5, 2) := by decide +kernel
theorem dX6_planBy_36 : decode cX6_planBy 36 = .ok (.iload_n 3, 1) := by decide +kernel
theorem dX6_planBy_37 : decode cX6_planBy 37 = .ok (.if_icmp .ge 136, 3) := by decide +kernel
theorem dX6_planBy_40 : decode cX6_planBy 40 = .ok (.iload 5, 2) := by decide +kernel
theorem dX6_planBy_42 : decode cX6_planBy 42 = .ok (.istore 6, 2) := by decide +kernel
theorem dX6_planBy_44 : decode cX6_planBy 44 = .ok (.iconst 0, 1) := by decide +kernel
theorem dX6_planBy_45 : decode cX6_planBy 45 = .ok (.istore 7, 2) := by decide +kernel
theorem dX6_planBy_47 : decode cX6_planBy 47 = .ok (.iload_n 2, 1) := by decide +kernel
theorem dX6_planBy_48 : decode cX6_planBy 48 = .ok (.iconst 1, 1) := by decide +kernel
theorem dX6_planBy_49 : decode cX6_planBy 49 = .ok (.isub, 1) := by decide +kernel
theorem dX6_planBy_50 : decode cX6_planBy 50 = .ok (.istore 8, 2) := by decide +kernel
theorem dX6_planBy_52 : decode cX6_planBy 52 = .ok (.iload 8, 2) := by decide +kernel
theorem dX6_planBy_54 : decode cX6_planBy 54 = .ok (.ifCond .lt 40, 3) := by decide +kernel
theorem dX6_planBy_57 : decode cX6_planBy 57 = .ok (.aload_n 0, 1) := by decide +kernel
theorem dX6_planBy_58 : decode cX6_planBy 58 = .ok (.getfield 64, 3) := by decide +kernel
theorem dX6_planBy_61 : decode cX6_planBy 61 = .ok (.iload 8, 2) := by decide +kernel
theorem dX6_planBy_63 : decode cX6_planBy 63 = .ok (.iload 6, 2) := by decide +kernel
theorem dX6_planBy_65 : decode cX6_planBy 65 = .ok (.iload_n 2, 1) := by decide +kernel
theorem dX6_planBy_66 : decode cX6_planBy 66 = .ok (.irem, 1) := by decide +kernel
theorem dX6_planBy_67 : decode cX6_planBy 67 = .ok (.iastore, 1) := by decide +kernel
theorem dX6_planBy_68 : decode cX6_planBy 68 = .ok (.iload 6, 2) := by decide +kernel
theorem dX6_planBy_70 : decode cX6_planBy 70 = .ok (.iload_n 2, 1) := by decide +kernel
theorem dX6_planBy_71 : decode cX6_planBy 71 = .ok (.idiv, 1) := by decide +kernel
theorem dX6_planBy_72 : decode cX6_planBy 72 = .ok (.istore 6, 2) := by decide +kernel
theorem dX6_planBy_74 : decode cX6_planBy 74 = .ok (.iload 7, 2) := by decide +kernel
theorem dX6_planBy_76 : decode cX6_planBy 76 = .ok (.iconst 1, 1) := by decide +kernel
theorem dX6_planBy_77 : decode cX6_planBy 77 = .ok (.aload_n 0, 1) := by decide +kernel
theorem dX6_planBy_78 : decode cX6_planBy 78 = .ok (.getfield 64, 3) := by decide +kernel
theorem dX6_planBy_81 : decode cX6_planBy 81 = .ok (.iload 8, 2) := by decide +kernel
theorem dX6_planBy_83 : decode cX6_planBy 83 = .ok (.iaload, 1) := by decide +kernel
theorem dX6_planBy_84 : decode cX6_planBy 84 = .ok (.ishl, 1) := by decide +kernel
theorem dX6_planBy_85 : decode cX6_planBy 85 = .ok (.ior, 1) := by decide +kernel
theorem dX6_planBy_86 : decode cX6_planBy 86 = .ok (.istore 7, 2) := by decide +kernel
theorem dX6_planBy_88 : decode cX6_planBy 88 = .ok (.iinc 8 (-1), 3) := by decide +kernel
theorem dX6_planBy_91 : decode cX6_planBy 91 = .ok (.goto (-39), 3) := by decide +kernel
theorem dX6_planBy_94 : decode cX6_planBy 94 = .ok (.iload 7, 2) := by decide +kernel
theorem dX6_planBy_96 : decode cX6_planBy 96 = .ok (.iconst 1, 1) := by decide +kernel
theorem dX6_planBy_97 : decode cX6_planBy 97 = .ok (.iload_n 2, 1) := by decide +kernel
theorem dX6_planBy_98 : decode cX6_planBy 98 = .ok (.ishl, 1) := by decide +kernel
theorem dX6_planBy_99 : decode cX6_planBy 99 = .ok (.iconst 1, 1) := by decide +kernel
theorem dX6_planBy_100 : decode cX6_planBy 100 = .ok (.isub, 1) := by decide +kernel
theorem dX6_planBy_101 : decode cX6_planBy 101 = .ok (.if_icmp .ne 11, 3) := by decide +kernel
theorem dX6_planBy_104 : decode cX6_planBy 104 = .ok (.aload_n 0, 1) := by decide +kernel
theorem dX6_planBy_105 : decode cX6_planBy 105 = .ok (.iload_n 1, 1) := by decide +kernel
theorem dX6_planBy_106 : decode cX6_planBy 106 = .ok (.invokevirtual 232, 3) := by decide +kernel
theorem dX6_planBy_109 : decode cX6_planBy 109 = .ok (.goto 4, 3) := by decide +kernel
theorem dX6_planBy_112 : decode cX6_planBy 112 = .ok (.iconst (-1), 1) := by decide +kernel
theorem dX6_planBy_113 : decode cX6_planBy 113 = .ok (.istore 8, 2) := by decide +kernel
theorem dX6_planBy_115 : decode cX6_planBy 115 = .ok (.iload 8, 2) := by decide +kernel
theorem dX6_planBy_117 : decode cX6_planBy 117 = .ok (.iconst (-1), 1) := by decide +kernel
theorem dX6_planBy_118 : decode cX6_planBy 118 = .ok (.if_icmp .eq 49, 3) := by decide +kernel
theorem dX6_planBy_121 : decode cX6_planBy 121 = .ok (.iload 4, 2) := by decide +kernel
theorem dX6_planBy_123 : decode cX6_planBy 123 = .ok (.iconst (-1), 1) := by decide +kernel
theorem dX6_planBy_124 : decode cX6_planBy 124 = .ok (.if_icmp .eq 10, 3) := by decide +kernel
theorem dX6_planBy_127 : decode cX6_planBy 127 = .ok (.iload 8, 2) := by decide +kernel
theorem dX6_planBy_129 : decode cX6_planBy 129 = .ok (.iload 4, 2) := by decide +kernel
theorem dX6_planBy_131 : decode cX6_planBy 131 = .ok (.if_icmp .ge 36, 3) := by decide +kernel
theorem dX6_planBy_134 : decode cX6_planBy 134 = .ok (.iload 8, 2) := by decide +kernel
theorem dX6_planBy_136 : decode cX6_planBy 136 = .ok (.istore 4, 2) := by decide +kernel
theorem dX6_planBy_138 : decode cX6_planBy 138 = .ok (.iconst 0, 1) := by decide +kernel
theorem dX6_planBy_139 : decode cX6_planBy 139 = .ok (.istore 9, 2) := by decide +kernel
theorem dX6_planBy_141 : decode cX6_planBy 141 = .ok (.iload 9, 2) := by decide +kernel
theorem dX6_planBy_143 : decode cX6_planBy 143 = .ok (.iload_n 2, 1) := by decide +kernel
theorem dX6_planBy_144 : decode cX6_planBy 144 = .ok (.if_icmp .ge 23, 3) := by decide +kernel
theorem dX6_planBy_147 : decode cX6_planBy 147 = .ok (.aload_n 0, 1) := by decide +kernel
theorem dX6_planBy_148 : decode cX6_planBy 148 = .ok (.getfield 67, 3) := by decide +kernel
theorem dX6_planBy_151 : decode cX6_planBy 151 = .ok (.iload 9, 2) := by decide +kernel
theorem dX6_planBy_153 : decode cX6_planBy 153 = .ok (.aload_n 0, 1) := by decide +kernel
theorem dX6_planBy_154 : decode cX6_planBy 154 = .ok (.getfield 64, 3) := by decide +kernel
theorem dX6_planBy_157 : decode cX6_planBy 157 = .ok (.iload 9, 2) := by decide +kernel
theorem dX6_planBy_159 : decode cX6_planBy 159 = .ok (.iaload, 1) := by decide +kernel
theorem dX6_planBy_160 : decode cX6_planBy 160 = .ok (.iastore, 1) := by decide +kernel
theorem dX6_planBy_161 : decode cX6_planBy 161 = .ok (.iinc 9 1, 3) := by decide +kernel
theorem dX6_planBy_164 : decode cX6_planBy 164 = .ok (.goto (-23), 3) := by decide +kernel
theorem dX6_planBy_167 : decode cX6_planBy 167 = .ok (.iinc 5 1, 3) := by decide +kernel
theorem dX6_planBy_170 : decode cX6_planBy 170 = .ok (.goto (-136), 3) := by decide +kernel
theorem dX6_planBy_173 : decode cX6_planBy 173 = .ok (.iload 4, 2) := by decide +kernel
theorem dX6_planBy_175 : decode cX6_planBy 175 = .ok (.ireturn, 1) := by decide +kernel
theorem dX6_planOf_0 : decode cX6_planOf 0 = .ok (.aload_n 0, 1) := by decide +kernel
theorem dX6_planOf_1 : decode cX6_planOf 1 = .ok (.invokevirtual 194, 3) := by decide +kernel
theorem dX6_planOf_4 : decode cX6_planOf 4 = .ok (.aload_n 0, 1) := by decide +kernel
theorem dX6_planOf_5 : decode cX6_planOf 5 = .ok (.iload_n 1, 1) := by decide +kernel
theorem dX6_planOf_6 : decode cX6_planOf 6 = .ok (.invokevirtual 238, 3) := by decide +kernel
theorem dX6_planOf_9 : decode cX6_planOf 9 = .ok (.istore_n 3, 1) := by decide +kernel
theorem dX6_planOf_10 : decode cX6_planOf 10 = .ok (.iload_n 2, 1) := by decide +kernel
theorem dX6_planOf_11 : decode cX6_planOf 11 = .ok (.iconst (-1), 1) := by decide +kernel
theorem dX6_planOf_12 : decode cX6_planOf 12 = .ok (.if_icmp .eq 8, 3) := by decide +kernel
theorem dX6_planOf_15 : decode cX6_planOf 15 = .ok (.iload_n 3, 1) := by decide +kernel
theorem dX6_planOf_16 : decode cX6_planOf 16 = .ok (.iconst (-1), 1) := by decide +kernel
theorem dX6_planOf_17 : decode cX6_planOf 17 = .ok (.if_icmp .ne 7, 3) := by decide +kernel
theorem dX6_planOf_20 : decode cX6_planOf 20 = .ok (.iload_n 3, 1) := by decide +kernel
theorem dX6_planOf_21 : decode cX6_planOf 21 = .ok (.goto 23, 3) := by decide +kernel
theorem dX6_planOf_24 : decode cX6_planOf 24 = .ok (.iload_n 2, 1) := by decide +kernel
theorem dX6_planOf_25 : decode cX6_planOf 25 = .ok (.aload_n 0, 1) := by decide +kernel
theorem dX6_planOf_26 : decode cX6_planOf 26 = .ok (.getfield 16, 3) := by decide +kernel
theorem dX6_planOf_29 : decode cX6_planOf 29 = .ok (.iconst 4, 1) := by decide +kernel
theorem dX6_planOf_30 : decode cX6_planOf 30 = .ok (.iaload, 1) := by decide +kernel
theorem dX6_planOf_31 : decode cX6_planOf 31 = .ok (.if_icmp .ge 12, 3) := by decide +kernel
theorem dX6_planOf_34 : decode cX6_planOf 34 = .ok (.aload_n 0, 1) := by decide +kernel
theorem dX6_planOf_35 : decode cX6_planOf 35 = .ok (.getfield 67, 3) := by decide +kernel
theorem dX6_planOf_38 : decode cX6_planOf 38 = .ok (.iload_n 2, 1) := by decide +kernel
theorem dX6_planOf_39 : decode cX6_planOf 39 = .ok (.iaload, 1) := by decide +kernel
theorem dX6_planOf_40 : decode cX6_planOf 40 = .ok (.goto 4, 3) := by decide +kernel
theorem dX6_planOf_43 : decode cX6_planOf 43 = .ok (.iconst (-1), 1) := by decide +kernel
theorem dX6_planOf_44 : decode cX6_planOf 44 = .ok (.ireturn, 1) := by decide +kernel
theorem dX6_plan_0 : decode cX6_plan 0 = .ok (.iload_n 1, 1) := by decide +kernel
theorem dX6_plan_1 : decode cX6_plan 1 = .ok (.invokestatic 151, 3) := by decide +kernel
theorem dX6_plan_4 : decode cX6_plan 4 = .ok (.ifCond .eq 21, 3) := by decide +kernel
theorem dX6_plan_7 : decode cX6_plan 7 = .ok (.iload_n 2, 1) := by decide +kernel
theorem dX6_plan_8 : decode cX6_plan 8 = .ok (.iconst (-1), 1) := by decide +kernel
theorem dX6_plan_9 : decode cX6_plan 9 = .ok (.iconst 5, 1) := by decide +kernel
theorem dX6_plan_10 : decode cX6_plan 10 = .ok (.invokestatic 106, 3) := by decide +kernel
theorem dX6_plan_13 : decode cX6_plan 13 = .ok (.ifCond .eq 12, 3) := by decide +kernel
theorem dX6_plan_16 : decode cX6_plan 16 = .ok (.aload_n 0, 1) := by decide +kernel
theorem dX6_plan_17 : decode cX6_plan 17 = .ok (.iload_n 1, 1) := by decide +kernel
theorem dX6_plan_18 : decode cX6_plan 18 = .ok (.iload_n 2, 1) := by decide +kernel
theorem dX6_plan_19 : decode cX6_plan 19 = .ok (.invokevirtual 241, 3) := by decide +kernel
theorem dX6_plan_22 : decode cX6_plan 22 = .ok (.goto 5, 3) := by decide +kernel
theorem dX6_plan_25 : decode cX6_plan 25 = .ok (.bipush (-2), 2) := by decide +kernel
theorem dX6_plan_27 : decode cX6_plan 27 = .ok (.ireturn, 1) := by decide +kernel
theorem dX6_isWord_0 : decode cX6_isWord 0 = .ok (.aload_n 0, 1) := by decide +kernel
theorem dX6_isWord_1 : decode cX6_isWord 1 = .ok (.iload_n 1, 1) := by decide +kernel
theorem dX6_isWord_2 : decode cX6_isWord 2 = .ok (.invokevirtual 173, 3) := by decide +kernel
theorem dX6_isWord_5 : decode cX6_isWord 5 = .ok (.iconst 0, 1) := by decide +kernel
theorem dX6_isWord_6 : decode cX6_isWord 6 = .ok (.iconst 1, 1) := by decide +kernel
theorem dX6_isWord_7 : decode cX6_isWord 7 = .ok (.invokestatic 106, 3) := by decide +kernel
theorem dX6_isWord_10 : decode cX6_isWord 10 = .ok (.istore_n 3, 1) := by decide +kernel
theorem dX6_isWord_11 : decode cX6_isWord 11 = .ok (.iload_n 2, 1) := by decide +kernel
theorem dX6_isWord_12 : decode cX6_isWord 12 = .ok (.bipush 8, 2) := by decide +kernel
theorem dX6_isWord_14 : decode cX6_isWord 14 = .ok (.if_icmp .eq 15, 3) := by decide +kernel
theorem dX6_isWord_17 : decode cX6_isWord 17 = .ok (.iload_n 3, 1) := by decide +kernel
theorem dX6_isWord_18 : decode cX6_isWord 18 = .ok (.ifCond .eq 15, 3) := by decide +kernel
theorem dX6_isWord_21 : decode cX6_isWord 21 = .ok (.iload_n 2, 1) := by decide +kernel
theorem dX6_isWord_22 : decode cX6_isWord 22 = .ok (.aload_n 0, 1) := by decide +kernel
theorem dX6_isWord_23 : decode cX6_isWord 23 = .ok (.getfield 114, 3) := by decide +kernel
theorem dX6_isWord_26 : decode cX6_isWord 26 = .ok (.if_icmp .ge 7, 3) := by decide +kernel
theorem dX6_isWord_29 : decode cX6_isWord 29 = .ok (.iconst 1, 1) := by decide +kernel
theorem dX6_isWord_30 : decode cX6_isWord 30 = .ok (.goto 4, 3) := by decide +kernel
theorem dX6_isWord_33 : decode cX6_isWord 33 = .ok (.iconst 0, 1) := by decide +kernel
theorem dX6_isWord_34 : decode cX6_isWord 34 = .ok (.ireturn, 1) := by decide +kernel
theorem dX6_laysOuts_0 : decode cX6_laysOuts 0 = .ok (.iconst 0, 1) := by decide +kernel
theorem dX6_laysOuts_1 : decode cX6_laysOuts 1 = .ok (.istore 4, 2) := by decide +kernel
theorem dX6_laysOuts_3 : decode cX6_laysOuts 3 = .ok (.iload 4, 2) := by decide +kernel
theorem dX6_laysOuts_5 : decode cX6_laysOuts 5 = .ok (.iload_n 3, 1) := by decide +kernel
theorem dX6_laysOuts_6 : decode cX6_laysOuts 6 = .ok (.if_icmp .ge 127, 3) := by decide +kernel
theorem dX6_laysOuts_9 : decode cX6_laysOuts 9 = .ok (.iload 4, 2) := by decide +kernel
theorem dX6_laysOuts_11 : decode cX6_laysOuts 11 = .ok (.istore 5, 2) := by decide +kernel
theorem dX6_laysOuts_13 : decode cX6_laysOuts 13 = .ok (.iconst 1, 1) := by decide +kernel
theorem dX6_laysOuts_14 : decode cX6_laysOuts 14 = .ok (.istore 6, 2) := by decide +kernel
theorem dX6_laysOuts_16 : decode cX6_laysOuts 16 = .ok (.aload_n 0, 1) := by decide +kernel
theorem dX6_laysOuts_17 : decode cX6_laysOuts 17 = .ok (.iload_n 1, 1) := by decide +kernel
theorem dX6_laysOuts_18 : decode cX6_laysOuts 18 = .ok (.putfield 185, 3) := by decide +kernel
theorem dX6_laysOuts_21 : decode cX6_laysOuts 21 = .ok (.aload_n 0, 1) := by decide +kernel
theorem dX6_laysOuts_22 : decode cX6_laysOuts 22 = .ok (.iload_n 2, 1) := by decide +kernel
theorem dX6_laysOuts_23 : decode cX6_laysOuts 23 = .ok (.putfield 179, 3) := by decide +kernel
theorem dX6_laysOuts_26 : decode cX6_laysOuts 26 = .ok (.iload_n 2, 1) := by decide +kernel
theorem dX6_laysOuts_27 : decode cX6_laysOuts 27 = .ok (.iconst 1, 1) := by decide +kernel
theorem dX6_laysOuts_28 : decode cX6_laysOuts 28 = .ok (.isub, 1) := by decide +kernel
theorem dX6_laysOuts_29 : decode cX6_laysOuts 29 = .ok (.istore 7, 2) := by decide +kernel
theorem dX6_laysOuts_31 : decode cX6_laysOuts 31 = .ok (.iload 7, 2) := by decide +kernel
theorem dX6_laysOuts_33 : decode cX6_laysOuts 33 = .ok (.ifCond .lt 58, 3) := by decide +kernel
theorem dX6_laysOuts_36 : decode cX6_laysOuts 36 = .ok (.aload_n 0, 1) := by decide +kernel
theorem dX6_laysOuts_37 : decode cX6_laysOuts 37 = .ok (.getfield 58, 3) := by decide +kernel
theorem dX6_laysOuts_40 : decode cX6_laysOuts 40 = .ok (.iload 7, 2) := by decide +kernel
theorem dX6_laysOuts_42 : decode cX6_laysOuts 42 = .ok (.iload 5, 2) := by decide +kernel
theorem dX6_laysOuts_44 : decode cX6_laysOuts 44 = .ok (.bipush 9, 2) := by decide +kernel
theorem dX6_laysOuts_46 : decode cX6_laysOuts 46 = .ok (.irem, 1) := by decide +kernel
theorem dX6_laysOuts_47 : decode cX6_laysOuts 47 = .ok (.iastore, 1) := by decide +kernel
theorem dX6_laysOuts_48 : decode cX6_laysOuts 48 = .ok (.iload 5, 2) := by decide +kernel
theorem dX6_laysOuts_50 : decode cX6_laysOuts 50 = .ok (.bipush 9, 2) := by decide +kernel
theorem dX6_laysOuts_52 : decode cX6_laysOuts 52 = .ok (.idiv, 1) := by decide +kernel
theorem dX6_laysOuts_53 : decode cX6_laysOuts 53 = .ok (.istore 5, 2) := by decide +kernel
theorem dX6_laysOuts_55 : decode cX6_laysOuts 55 = .ok (.iload 6, 2) := by decide +kernel
theorem dX6_laysOuts_57 : decode cX6_laysOuts 57 = .ok (.ifCond .eq 25, 3) := by decide +kernel
theorem dX6_laysOuts_60 : decode cX6_laysOuts 60 = .ok (.aload_n 0, 1) := by decide +kernel
theorem dX6_laysOuts_61 : decode cX6_laysOuts 61 = .ok (.iload_n 1, 1) := by decide +kernel
theorem dX6_laysOuts_62 : decode cX6_laysOuts 62 = .ok (.iload 7, 2) := by decide +kernel
theorem dX6_laysOuts_64 : decode cX6_laysOuts 64 = .ok (.iadd, 1) := by decide +kernel
theorem dX6_laysOuts_65 : decode cX6_laysOuts 65 = .ok (.aload_n 0, 1) := by decide +kernel
theorem dX6_laysOuts_66 : decode cX6_laysOuts 66 = .ok (.getfield 58, 3) := by decide +kernel
theorem dX6_laysOuts_69 : decode cX6_laysOuts 69 = .ok (.iload 7, 2) := by decide +kernel
theorem dX6_laysOuts_71 : decode cX6_laysOuts 71 = .ok (.iaload, 1) := by decide +kernel
theorem dX6_laysOuts_72 : decode cX6_laysOuts 72 = .ok (.invokevirtual 244, 3) := by decide +kernel
theorem dX6_laysOuts_75 : decode cX6_laysOuts 75 = .ok (.ifCond .eq 7, 3) := by decide +kernel
theorem dX6_laysOuts_78 : decode cX6_laysOuts 78 = .ok (.iconst 1, 1) := by decide +kernel
theorem dX6_laysOuts_79 : decode cX6_laysOuts 79 = .ok (.goto 4, 3) := by decide +kernel
theorem dX6_laysOuts_82 : decode cX6_laysOuts 82 = .ok (.iconst 0, 1) := by decide +kernel
theorem dX6_laysOuts_83 : decode cX6_laysOuts 83 = .ok (.istore 6, 2) := by decide +kernel
theorem dX6_laysOuts_85 : decode cX6_laysOuts 85 = .ok (.iinc 7 (-1), 3) := by decide +kernel
theorem dX6_laysOuts_88 : decode cX6_laysOuts 88 = .ok (.goto (-57), 3) := by decide +kernel
theorem dX6_laysOuts_91 : decode cX6_laysOuts 91 = .ok (.iload 6, 2) := by decide +kernel
theorem dX6_laysOuts_93 : decode cX6_laysOuts 93 = .ok (.ifCond .eq 7, 3) := by decide +kernel
theorem dX6_laysOuts_96 : decode cX6_laysOuts 96 = .ok (.aload_n 0, 1) := by decide +kernel
theorem dX6_laysOuts_97 : decode cX6_laysOuts 97 = .ok (.invokevirtual 191, 3) := by decide +kernel
theorem dX6_laysOuts_100 : decode cX6_laysOuts 100 = .ok (.aload_n 0, 1) := by decide +kernel
theorem dX6_laysOuts_101 : decode cX6_laysOuts 101 = .ok (.getfield 70, 3) := by decide +kernel
theorem dX6_laysOuts_104 : decode cX6_laysOuts 104 = .ok (.iload 4, 2) := by decide +kernel
theorem dX6_laysOuts_106 : decode cX6_laysOuts 106 = .ok (.iload 6, 2) := by decide +kernel
theorem dX6_laysOuts_108 : decode cX6_laysOuts 108 = .ok (.ifCond .eq 17, 3) := by decide +kernel
theorem dX6_laysOuts_111 : decode cX6_laysOuts 111 = .ok (.aload_n 0, 1) := by decide +kernel
theorem dX6_laysOuts_112 : decode cX6_laysOuts 112 = .ok (.getfield 55, 3) := by decide +kernel
theorem dX6_laysOuts_115 : decode cX6_laysOuts 115 = .ok (.iload_n 1, 1) := by decide +kernel
theorem dX6_laysOuts_116 : decode cX6_laysOuts 116 = .ok (.iload_n 2, 1) := by decide +kernel
theorem dX6_laysOuts_117 : decode cX6_laysOuts 117 = .ok (.iadd, 1) := by decide +kernel
theorem dX6_laysOuts_118 : decode cX6_laysOuts 118 = .ok (.iaload, 1) := by decide +kernel
theorem dX6_laysOuts_119 : decode cX6_laysOuts 119 = .ok (.invokestatic 247, 3) := by decide +kernel
theorem dX6_laysOuts_122 : decode cX6_laysOuts 122 = .ok (.goto 4, 3) := by decide +kernel
theorem dX6_laysOuts_125 : decode cX6_laysOuts 125 = .ok (.iconst (-1), 1) := by decide +kernel
theorem dX6_laysOuts_126 : decode cX6_laysOuts 126 = .ok (.iastore, 1) := by decide +kernel
theorem dX6_laysOuts_127 : decode cX6_laysOuts 127 = .ok (.iinc 4 1, 3) := by decide +kernel
theorem dX6_laysOuts_130 : decode cX6_laysOuts 130 = .ok (.goto (-127), 3) := by decide +kernel
theorem dX6_laysOuts_133 : decode cX6_laysOuts 133 = .ok (.return_, 1) := by decide +kernel
theorem dX6_bestOut_0 : decode cX6_bestOut 0 = .ok (.iconst (-1), 1) := by decide +kernel
theorem dX6_bestOut_1 : decode cX6_bestOut 1 = .ok (.istore_n 3, 1) := by decide +kernel
theorem dX6_bestOut_2 : decode cX6_bestOut 2 = .ok (.iconst 0, 1) := by decide +kernel
theorem dX6_bestOut_3 : decode cX6_bestOut 3 = .ok (.istore 4, 2) := by decide +kernel
theorem dX6_bestOut_5 : decode cX6_bestOut 5 = .ok (.iload 4, 2) := by decide +kernel
theorem dX6_bestOut_7 : decode cX6_bestOut 7 = .ok (.bipush 9, 2) := by decide +kernel
theorem dX6_bestOut_9 : decode cX6_bestOut 9 = .ok (.if_icmp .ge 75, 3) := by decide +kernel
theorem dX6_bestOut_12 : decode cX6_bestOut 12 = .ok (.aload_n 0, 1) := by decide +kernel
theorem dX6_bestOut_13 : decode cX6_bestOut 13 = .ok (.getfield 70, 3) := by decide +kernel
theorem dX6_bestOut_16 : decode cX6_bestOut 16 = .ok (.iload_n 1, 1) := by decide +kernel
theorem dX6_bestOut_17 : decode cX6_bestOut 17 = .ok (.iload 4, 2) := by decide +kernel
theorem dX6_bestOut_19 : decode cX6_bestOut 19 = .ok (.iadd, 1) := by decide +kernel
theorem dX6_bestOut_20 : decode cX6_bestOut 20 = .ok (.iaload, 1) := by decide +kernel
theorem dX6_bestOut_21 : decode cX6_bestOut 21 = .ok (.istore 5, 2) := by decide +kernel
theorem dX6_bestOut_23 : decode cX6_bestOut 23 = .ok (.iload_n 2, 1) := by decide +kernel
theorem dX6_bestOut_24 : decode cX6_bestOut 24 = .ok (.iconst 1, 1) := by decide +kernel
theorem dX6_bestOut_25 : decode cX6_bestOut 25 = .ok (.if_icmp .ne 17, 3) := by decide +kernel
theorem dX6_bestOut_28 : decode cX6_bestOut 28 = .ok (.iload 5, 2) := by decide +kernel
theorem dX6_bestOut_30 : decode cX6_bestOut 30 = .ok (.iload_n 3, 1) := by decide +kernel
theorem dX6_bestOut_31 : decode cX6_bestOut 31 = .ok (.if_icmp .ge 7, 3) := by decide +kernel
theorem dX6_bestOut_34 : decode cX6_bestOut 34 = .ok (.iconst 1, 1) := by decide +kernel
theorem dX6_bestOut_35 : decode cX6_bestOut 35 = .ok (.goto 18, 3) := by decide +kernel
theorem dX6_bestOut_38 : decode cX6_bestOut 38 = .ok (.iconst 0, 1) := by decide +kernel
theorem dX6_bestOut_39 : decode cX6_bestOut 39 = .ok (.goto 14, 3) := by decide +kernel
theorem dX6_bestOut_42 : decode cX6_bestOut 42 = .ok (.iload 5, 2) := by decide +kernel
theorem dX6_bestOut_44 : decode cX6_bestOut 44 = .ok (.iload_n 3, 1) := by decide +kernel
theorem dX6_bestOut_45 : decode cX6_bestOut 45 = .ok (.if_icmp .le 7, 3) := by decide +kernel
theorem dX6_bestOut_48 : decode cX6_bestOut 48 = .ok (.iconst 1, 1) := by decide +kernel
theorem dX6_bestOut_49 : decode cX6_bestOut 49 = .ok (.goto 4, 3) := by decide +kernel
theorem dX6_bestOut_52 : decode cX6_bestOut 52 = .ok (.iconst 0, 1) := by decide +kernel
theorem dX6_bestOut_53 : decode cX6_bestOut 53 = .ok (.istore 6, 2) := by decide +kernel
theorem dX6_bestOut_55 : decode cX6_bestOut 55 = .ok (.iload 5, 2) := by decide +kernel
theorem dX6_bestOut_57 : decode cX6_bestOut 57 = .ok (.iconst (-1), 1) := by decide +kernel
theorem dX6_bestOut_58 : decode cX6_bestOut 58 = .ok (.if_icmp .eq 18, 3) := by decide +kernel
theorem dX6_bestOut_61 : decode cX6_bestOut 61 = .ok (.iload_n 3, 1) := by decide +kernel
theorem dX6_bestOut_62 : decode cX6_bestOut 62 = .ok (.iconst (-1), 1) := by decide +kernel
theorem dX6_bestOut_63 : decode cX6_bestOut 63 = .ok (.if_icmp .eq 8, 3) := by decide +kernel
theorem dX6_bestOut_66 : decode cX6_bestOut 66 = .ok (.iload 6, 2) := by decide +kernel
theorem dX6_bestOut_68 : decode cX6_bestOut 68 = .ok (.ifCond .eq 8, 3) := by decide +kernel
theorem dX6_bestOut_71 : decode cX6_bestOut 71 = .ok (.iload 5, 2) := by decide +kernel
theorem dX6_bestOut_73 : decode cX6_bestOut 73 = .ok (.goto 4, 3) := by decide +kernel
theorem dX6_bestOut_76 : decode cX6_bestOut 76 = .ok (.iload_n 3, 1) := by decide +kernel
theorem dX6_bestOut_77 : decode cX6_bestOut 77 = .ok (.istore_n 3, 1) := by decide +kernel
theorem dX6_bestOut_78 : decode cX6_bestOut 78 = .ok (.iinc 4 1, 3) := by decide +kernel
theorem dX6_bestOut_81 : decode cX6_bestOut 81 = .ok (.goto (-76), 3) := by decide +kernel
theorem dX6_bestOut_84 : decode cX6_bestOut 84 = .ok (.iload_n 3, 1) := by decide +kernel
theorem dX6_bestOut_85 : decode cX6_bestOut 85 = .ok (.ireturn, 1) := by decide +kernel
theorem dX6_wordsOf_0 : decode cX6_wordsOf 0 = .ok (.aload_n 0, 1) := by decide +kernel
theorem dX6_wordsOf_1 : decode cX6_wordsOf 1 = .ok (.invokevirtual 124, 3) := by decide +kernel
theorem dX6_wordsOf_4 : decode cX6_wordsOf 4 = .ok (.aload_n 0, 1) := by decide +kernel
theorem dX6_wordsOf_5 : decode cX6_wordsOf 5 = .ok (.invokevirtual 188, 3) := by decide +kernel
theorem dX6_wordsOf_8 : decode cX6_wordsOf 8 = .ok (.iload_n 2, 1) := by decide +kernel
theorem dX6_wordsOf_9 : decode cX6_wordsOf 9 = .ok (.iconst 1, 1) := by decide +kernel
theorem dX6_wordsOf_10 : decode cX6_wordsOf 10 = .ok (.if_icmp .ne 8, 3) := by decide +kernel
theorem dX6_wordsOf_13 : decode cX6_wordsOf 13 = .ok (.bipush 9, 2) := by decide +kernel
theorem dX6_wordsOf_15 : decode cX6_wordsOf 15 = .ok (.goto 16, 3) := by decide +kernel
theorem dX6_wordsOf_18 : decode cX6_wordsOf 18 = .ok (.iload_n 2, 1) := by decide +kernel
theorem dX6_wordsOf_19 : decode cX6_wordsOf 19 = .ok (.iconst 2, 1) := by decide +kernel
theorem dX6_wordsOf_20 : decode cX6_wordsOf 20 = .ok (.if_icmp .ne 8, 3) := by decide +kernel
theorem dX6_wordsOf_23 : decode cX6_wordsOf 23 = .ok (.bipush 81, 2) := by decide +kernel
theorem dX6_wordsOf_25 : decode cX6_wordsOf 25 = .ok (.goto 6, 3) := by decide +kernel
theorem dX6_wordsOf_28 : decode cX6_wordsOf 28 = .ok (.sipush 729, 3) := by decide +kernel
theorem dX6_wordsOf_31 : decode cX6_wordsOf 31 = .ok (.istore 4, 2) := by decide +kernel
theorem dX6_wordsOf_33 : decode cX6_wordsOf 33 = .ok (.aload_n 0, 1) := by decide +kernel
theorem dX6_wordsOf_34 : decode cX6_wordsOf 34 = .ok (.iload_n 1, 1) := by decide +kernel
theorem dX6_wordsOf_35 : decode cX6_wordsOf 35 = .ok (.iload_n 2, 1) := by decide +kernel
theorem dX6_wordsOf_36 : decode cX6_wordsOf 36 = .ok (.iload 4, 2) := by decide +kernel
theorem dX6_wordsOf_38 : decode cX6_wordsOf 38 = .ok (.invokevirtual 250, 3) := by decide +kernel
theorem dX6_wordsOf_41 : decode cX6_wordsOf 41 = .ok (.iload_n 2, 1) := by decide +kernel
theorem dX6_wordsOf_42 : decode cX6_wordsOf 42 = .ok (.iconst 1, 1) := by decide +kernel
theorem dX6_wordsOf_43 : decode cX6_wordsOf 43 = .ok (.isub, 1) := by decide +kernel
theorem dX6_wordsOf_44 : decode cX6_wordsOf 44 = .ok (.istore 5, 2) := by decide +kernel
theorem dX6_wordsOf_46 : decode cX6_wordsOf 46 = .ok (.iload 5, 2) := by decide +kernel
theorem dX6_wordsOf_48 : decode cX6_wordsOf 48 = .ok (.ifCond .le 56, 3) := by decide +kernel
theorem dX6_wordsOf_51 : decode cX6_wordsOf 51 = .ok (.iload 4, 2) := by decide +kernel
theorem dX6_wordsOf_53 : decode cX6_wordsOf 53 = .ok (.bipush 9, 2) := by decide +kernel
theorem dX6_wordsOf_55 : decode cX6_wordsOf 55 = .ok (.idiv, 1) := by decide +kernel
theorem dX6_wordsOf_56 : decode cX6_wordsOf 56 = .ok (.istore 4, 2) := by decide +kernel
theorem dX6_wordsOf_58 : decode cX6_wordsOf 58 = .ok (.iconst 0, 1) := by decide +kernel
theorem dX6_wordsOf_59 : decode cX6_wordsOf 59 = .ok (.istore 6, 2) := by decide +kernel
theorem dX6_wordsOf_61 : decode cX6_wordsOf 61 = .ok (.iload 6, 2) := by decide +kernel
theorem dX6_wordsOf_63 : decode cX6_wordsOf 63 = .ok (.iload 4, 2) := by decide +kernel
theorem dX6_wordsOf_65 : decode cX6_wordsOf 65 = .ok (.if_icmp .ge 33, 3) := by decide +kernel
theorem dX6_wordsOf_68 : decode cX6_wordsOf 68 = .ok (.aload_n 0, 1) := by decide +kernel
theorem dX6_wordsOf_69 : decode cX6_wordsOf 69 = .ok (.getfield 70, 3) := by decide +kernel
theorem dX6_wordsOf_72 : decode cX6_wordsOf 72 = .ok (.iload 6, 2) := by decide +kernel
theorem dX6_wordsOf_74 : decode cX6_wordsOf 74 = .ok (.aload_n 0, 1) := by decide +kernel
theorem dX6_wordsOf_75 : decode cX6_wordsOf 75 = .ok (.bipush 9, 2) := by decide +kernel
theorem dX6_wordsOf_77 : decode cX6_wordsOf 77 = .ok (.iload 6, 2) := by decide +kernel
theorem dX6_wordsOf_79 : decode cX6_wordsOf 79 = .ok (.imul, 1) := by decide +kernel
theorem dX6_wordsOf_80 : decode cX6_wordsOf 80 = .ok (.aload_n 0, 1) := by decide +kernel
theorem dX6_wordsOf_81 : decode cX6_wordsOf 81 = .ok (.iload_n 1, 1) := by decide +kernel
theorem dX6_wordsOf_82 : decode cX6_wordsOf 82 = .ok (.iload 5, 2) := by decide +kernel
theorem dX6_wordsOf_84 : decode cX6_wordsOf 84 = .ok (.iadd, 1) := by decide +kernel
theorem dX6_wordsOf_85 : decode cX6_wordsOf 85 = .ok (.invokevirtual 173, 3) := by decide +kernel
theorem dX6_wordsOf_88 : decode cX6_wordsOf 88 = .ok (.invokevirtual 254, 3) := by decide +kernel
theorem dX6_wordsOf_91 : decode cX6_wordsOf 91 = .ok (.iastore, 1) := by decide +kernel
theorem dX6_wordsOf_92 : decode cX6_wordsOf 92 = .ok (.iinc 6 1, 3) := by decide +kernel
theorem dX6_wordsOf_95 : decode cX6_wordsOf 95 = .ok (.goto (-34), 3) := by decide +kernel
theorem dX6_wordsOf_98 : decode cX6_wordsOf 98 = .ok (.iinc 5 (-1), 3) := by decide +kernel
theorem dX6_wordsOf_101 : decode cX6_wordsOf 101 = .ok (.goto (-55), 3) := by decide +kernel
theorem dX6_wordsOf_104 : decode cX6_wordsOf 104 = .ok (.aload_n 0, 1) := by decide +kernel
theorem dX6_wordsOf_105 : decode cX6_wordsOf 105 = .ok (.iload_n 1, 1) := by decide +kernel
theorem dX6_wordsOf_106 : decode cX6_wordsOf 106 = .ok (.invokevirtual 173, 3) := by decide +kernel
theorem dX6_wordsOf_109 : decode cX6_wordsOf 109 = .ok (.istore 5, 2) := by decide +kernel
theorem dX6_wordsOf_111 : decode cX6_wordsOf 111 = .ok (.aload_n 0, 1) := by decide +kernel
theorem dX6_wordsOf_112 : decode cX6_wordsOf 112 = .ok (.iconst 0, 1) := by decide +kernel
theorem dX6_wordsOf_113 : decode cX6_wordsOf 113 = .ok (.iload 5, 2) := by decide +kernel
theorem dX6_wordsOf_115 : decode cX6_wordsOf 115 = .ok (.invokevirtual 254, 3) := by decide +kernel
theorem dX6_wordsOf_118 : decode cX6_wordsOf 118 = .ok (.istore 6, 2) := by decide +kernel
theorem dX6_wordsOf_120 : decode cX6_wordsOf 120 = .ok (.iconst 0, 1) := by decide +kernel
theorem dX6_wordsOf_121 : decode cX6_wordsOf 121 = .ok (.istore 7, 2) := by decide +kernel
theorem dX6_wordsOf_123 : decode cX6_wordsOf 123 = .ok (.aload_n 0, 1) := by decide +kernel
theorem dX6_wordsOf_124 : decode cX6_wordsOf 124 = .ok (.getfield 70, 3) := by decide +kernel
theorem dX6_wordsOf_127 : decode cX6_wordsOf 127 = .ok (.iload 7, 2) := by decide +kernel
theorem dX6_wordsOf_129 : decode cX6_wordsOf 129 = .ok (.iaload, 1) := by decide +kernel
theorem dX6_wordsOf_130 : decode cX6_wordsOf 130 = .ok (.iload 6, 2) := by decide +kernel
theorem dX6_wordsOf_132 : decode cX6_wordsOf 132 = .ok (.if_icmp .eq 9, 3) := by decide +kernel
theorem dX6_wordsOf_135 : decode cX6_wordsOf 135 = .ok (.iinc 7 1, 3) := by decide +kernel
theorem dX6_wordsOf_138 : decode cX6_wordsOf 138 = .ok (.goto (-15), 3) := by decide +kernel
theorem dX6_wordsOf_141 : decode cX6_wordsOf 141 = .ok (.iload_n 3, 1) := by decide +kernel
theorem dX6_wordsOf_142 : decode cX6_wordsOf 142 = .ok (.ifCond .ne 8, 3) := by decide +kernel
theorem dX6_wordsOf_145 : decode cX6_wordsOf 145 = .ok (.iload 6, 2) := by decide +kernel
theorem dX6_wordsOf_147 : decode cX6_wordsOf 147 = .ok (.goto 19, 3) := by decide +kernel
theorem dX6_wordsOf_150 : decode cX6_wordsOf 150 = .ok (.iload 5, 2) := by decide +kernel
theorem dX6_wordsOf_152 : decode cX6_wordsOf 152 = .ok (.iconst 0, 1) := by decide +kernel
theorem dX6_wordsOf_153 : decode cX6_wordsOf 153 = .ok (.iconst 1, 1) := by decide +kernel
theorem dX6_wordsOf_154 : decode cX6_wordsOf 154 = .ok (.invokestatic 106, 3) := by decide +kernel
theorem dX6_wordsOf_157 : decode cX6_wordsOf 157 = .ok (.ifCond .eq 8, 3) := by decide +kernel
theorem dX6_wordsOf_160 : decode cX6_wordsOf 160 = .ok (.iload 7, 2) := by decide +kernel
theorem dX6_wordsOf_162 : decode cX6_wordsOf 162 = .ok (.goto 4, 3) := by decide +kernel
theorem dX6_wordsOf_165 : decode cX6_wordsOf 165 = .ok (.iconst (-1), 1) := by decide +kernel
theorem dX6_wordsOf_166 : decode cX6_wordsOf 166 = .ok (.ireturn, 1) := by decide +kernel
theorem dX6_words_0 : decode cX6_words 0 = .ok (.iload_n 1, 1) := by decide +kernel
theorem dX6_words_1 : decode cX6_words 1 = .ok (.invokestatic 151, 3) := by decide +kernel
theorem dX6_words_4 : decode cX6_words 4 = .ok (.ifCond .eq 37, 3) := by decide +kernel
theorem dX6_words_7 : decode cX6_words 7 = .ok (.iload_n 2, 1) := by decide +kernel
theorem dX6_words_8 : decode cX6_words 8 = .ok (.iconst 1, 1) := by decide +kernel
theorem dX6_words_9 : decode cX6_words 9 = .ok (.iconst 3, 1) := by decide +kernel
theorem dX6_words_10 : decode cX6_words 10 = .ok (.invokestatic 106, 3) := by decide +kernel
theorem dX6_words_13 : decode cX6_words 13 = .ok (.ifCond .eq 28, 3) := by decide +kernel
theorem dX6_words_16 : decode cX6_words 16 = .ok (.iload_n 1, 1) := by decide +kernel
theorem dX6_words_17 : decode cX6_words 17 = .ok (.iload_n 2, 1) := by decide +kernel
theorem dX6_words_18 : decode cX6_words 18 = .ok (.iadd, 1) := by decide +kernel
theorem dX6_words_19 : decode cX6_words 19 = .ok (.bipush 39, 2) := by decide +kernel
theorem dX6_words_21 : decode cX6_words 21 = .ok (.if_icmp .gt 20, 3) := by decide +kernel
theorem dX6_words_24 : decode cX6_words 24 = .ok (.iload_n 3, 1) := by decide +kernel
theorem dX6_words_25 : decode cX6_words 25 = .ok (.invokestatic 145, 3) := by decide +kernel
theorem dX6_words_28 : decode cX6_words 28 = .ok (.ifCond .eq 13, 3) := by decide +kernel
theorem dX6_words_31 : decode cX6_words 31 = .ok (.aload_n 0, 1) := by decide +kernel
theorem dX6_words_32 : decode cX6_words 32 = .ok (.iload_n 1, 1) := by decide +kernel
theorem dX6_words_33 : decode cX6_words 33 = .ok (.iload_n 2, 1) := by decide +kernel
theorem dX6_words_34 : decode cX6_words 34 = .ok (.iload_n 3, 1) := by decide +kernel
theorem dX6_words_35 : decode cX6_words 35 = .ok (.invokevirtual 257, 3) := by decide +kernel
theorem dX6_words_38 : decode cX6_words 38 = .ok (.goto 5, 3) := by decide +kernel
theorem dX6_words_41 : decode cX6_words 41 = .ok (.bipush (-2), 2) := by decide +kernel
theorem dX6_words_43 : decode cX6_words 43 = .ok (.ireturn, 1) := by decide +kernel
theorem dX6_seen_0 : decode cX6_seen 0 = .ok (.iload_n 1, 1) := by decide +kernel
theorem dX6_seen_1 : decode cX6_seen 1 = .ok (.invokestatic 154, 3) := by decide +kernel
theorem dX6_seen_4 : decode cX6_seen 4 = .ok (.ifCond .eq 10, 3) := by decide +kernel
theorem dX6_seen_7 : decode cX6_seen 7 = .ok (.iload_n 2, 1) := by decide +kernel
theorem dX6_seen_8 : decode cX6_seen 8 = .ok (.invokestatic 145, 3) := by decide +kernel
theorem dX6_seen_11 : decode cX6_seen 11 = .ok (.ifCond .ne 6, 3) := by decide +kernel
theorem dX6_seen_14 : decode cX6_seen 14 = .ok (.bipush (-2), 2) := by decide +kernel
theorem dX6_seen_16 : decode cX6_seen 16 = .ok (.ireturn, 1) := by decide +kernel
theorem dX6_seen_17 : decode cX6_seen 17 = .ok (.aload_n 0, 1) := by decide +kernel
theorem dX6_seen_18 : decode cX6_seen 18 = .ok (.getfield 260, 3) := by decide +kernel
theorem dX6_seen_21 : decode cX6_seen 21 = .ok (.bipush 8, 2) := by decide +kernel
theorem dX6_seen_23 : decode cX6_seen 23 = .ok (.if_icmp .ne 6, 3) := by decide +kernel
theorem dX6_seen_26 : decode cX6_seen 26 = .ok (.bipush (-4), 2) := by decide +kernel
theorem dX6_seen_28 : decode cX6_seen 28 = .ok (.ireturn, 1) := by decide +kernel
theorem dX6_seen_29 : decode cX6_seen 29 = .ok (.aload_n 0, 1) := by decide +kernel
theorem dX6_seen_30 : decode cX6_seen 30 = .ok (.getfield 73, 3) := by decide +kernel
theorem dX6_seen_33 : decode cX6_seen 33 = .ok (.aload_n 0, 1) := by decide +kernel
theorem dX6_seen_34 : decode cX6_seen 34 = .ok (.getfield 260, 3) := by decide +kernel
theorem dX6_seen_37 : decode cX6_seen 37 = .ok (.iload_n 1, 1) := by decide +kernel
theorem dX6_seen_38 : decode cX6_seen 38 = .ok (.iastore, 1) := by decide +kernel
theorem dX6_seen_39 : decode cX6_seen 39 = .ok (.aload_n 0, 1) := by decide +kernel
theorem dX6_seen_40 : decode cX6_seen 40 = .ok (.getfield 76, 3) := by decide +kernel
theorem dX6_seen_43 : decode cX6_seen 43 = .ok (.aload_n 0, 1) := by decide +kernel
theorem dX6_seen_44 : decode cX6_seen 44 = .ok (.getfield 260, 3) := by decide +kernel
theorem dX6_seen_47 : decode cX6_seen 47 = .ok (.iload_n 2, 1) := by decide +kernel
theorem dX6_seen_48 : decode cX6_seen 48 = .ok (.iastore, 1) := by decide +kernel
theorem dX6_seen_49 : decode cX6_seen 49 = .ok (.aload_n 0, 1) := by decide +kernel
theorem dX6_seen_50 : decode cX6_seen 50 = .ok (.dup, 1) := by decide +kernel
theorem dX6_seen_51 : decode cX6_seen 51 = .ok (.getfield 260, 3) := by decide +kernel
theorem dX6_seen_54 : decode cX6_seen 54 = .ok (.iconst 1, 1) := by decide +kernel
theorem dX6_seen_55 : decode cX6_seen 55 = .ok (.iadd, 1) := by decide +kernel
theorem dX6_seen_56 : decode cX6_seen 56 = .ok (.putfield 260, 3) := by decide +kernel
theorem dX6_seen_59 : decode cX6_seen 59 = .ok (.aload_n 0, 1) := by decide +kernel
theorem dX6_seen_60 : decode cX6_seen 60 = .ok (.getfield 260, 3) := by decide +kernel
theorem dX6_seen_63 : decode cX6_seen 63 = .ok (.ireturn, 1) := by decide +kernel
theorem dX6_book_0 : decode cX6_book 0 = .ok (.iload_n 1, 1) := by decide +kernel
theorem dX6_book_1 : decode cX6_book 1 = .ok (.invokestatic 151, 3) := by decide +kernel
theorem dX6_book_4 : decode cX6_book 4 = .ok (.ifCond .eq 17, 3) := by decide +kernel
theorem dX6_book_7 : decode cX6_book 7 = .ok (.iload_n 2, 1) := by decide +kernel
theorem dX6_book_8 : decode cX6_book 8 = .ok (.invokestatic 154, 3) := by decide +kernel
theorem dX6_book_11 : decode cX6_book 11 = .ok (.ifCond .eq 10, 3) := by decide +kernel
theorem dX6_book_14 : decode cX6_book 14 = .ok (.iload_n 3, 1) := by decide +kernel
theorem dX6_book_15 : decode cX6_book 15 = .ok (.invokestatic 145, 3) := by decide +kernel
theorem dX6_book_18 : decode cX6_book 18 = .ok (.ifCond .ne 6, 3) := by decide +kernel
theorem dX6_book_21 : decode cX6_book 21 = .ok (.bipush (-2), 2) := by decide +kernel
theorem dX6_book_23 : decode cX6_book 23 = .ok (.ireturn, 1) := by decide +kernel
theorem dX6_book_24 : decode cX6_book 24 = .ok (.aload_n 0, 1) := by decide +kernel
theorem dX6_book_25 : decode cX6_book 25 = .ok (.getfield 263, 3) := by decide +kernel
theorem dX6_book_28 : decode cX6_book 28 = .ok (.bipush 8, 2) := by decide +kernel
theorem dX6_book_30 : decode cX6_book 30 = .ok (.if_icmp .ne 6, 3) := by decide +kernel
theorem dX6_book_33 : decode cX6_book 33 = .ok (.bipush (-4), 2) := by decide +kernel
theorem dX6_book_35 : decode cX6_book 35 = .ok (.ireturn, 1) := by decide +kernel
theorem dX6_book_36 : decode cX6_book 36 = .ok (.aload_n 0, 1) := by decide +kernel
theorem dX6_book_37 : decode cX6_book 37 = .ok (.getfield 79, 3) := by decide +kernel
theorem dX6_book_40 : decode cX6_book 40 = .ok (.aload_n 0, 1) := by decide +kernel
theorem dX6_book_41 : decode cX6_book 41 = .ok (.getfield 263, 3) := by decide +kernel
theorem dX6_book_44 : decode cX6_book 44 = .ok (.iload_n 1, 1) := by decide +kernel
theorem dX6_book_45 : decode cX6_book 45 = .ok (.iastore, 1) := by decide +kernel
theorem dX6_book_46 : decode cX6_book 46 = .ok (.aload_n 0, 1) := by decide +kernel
theorem dX6_book_47 : decode cX6_book 47 = .ok (.getfield 82, 3) := by decide +kernel
theorem dX6_book_50 : decode cX6_book 50 = .ok (.aload_n 0, 1) := by decide +kernel
theorem dX6_book_51 : decode cX6_book 51 = .ok (.getfield 263, 3) := by decide +kernel
theorem dX6_book_54 : decode cX6_book 54 = .ok (.iload_n 2, 1) := by decide +kernel
theorem dX6_book_55 : decode cX6_book 55 = .ok (.iastore, 1) := by decide +kernel
theorem dX6_book_56 : decode cX6_book 56 = .ok (.aload_n 0, 1) := by decide +kernel
theorem dX6_book_57 : decode cX6_book 57 = .ok (.getfield 85, 3) := by decide +kernel
theorem dX6_book_60 : decode cX6_book 60 = .ok (.aload_n 0, 1) := by decide +kernel
theorem dX6_book_61 : decode cX6_book 61 = .ok (.getfield 263, 3) := by decide +kernel
theorem dX6_book_64 : decode cX6_book 64 = .ok (.iload_n 3, 1) := by decide +kernel
theorem dX6_book_65 : decode cX6_book 65 = .ok (.iastore, 1) := by decide +kernel
theorem dX6_book_66 : decode cX6_book 66 = .ok (.aload_n 0, 1) := by decide +kernel
theorem dX6_book_67 : decode cX6_book 67 = .ok (.dup, 1) := by decide +kernel
theorem dX6_book_68 : decode cX6_book 68 = .ok (.getfield 263, 3) := by decide +kernel
theorem dX6_book_71 : decode cX6_book 71 = .ok (.iconst 1, 1) := by decide +kernel
theorem dX6_book_72 : decode cX6_book 72 = .ok (.iadd, 1) := by decide +kernel
theorem dX6_book_73 : decode cX6_book 73 = .ok (.putfield 263, 3) := by decide +kernel
theorem dX6_book_76 : decode cX6_book 76 = .ok (.aload_n 0, 1) := by decide +kernel
theorem dX6_book_77 : decode cX6_book 77 = .ok (.getfield 263, 3) := by decide +kernel
theorem dX6_book_80 : decode cX6_book 80 = .ok (.ireturn, 1) := by decide +kernel
theorem dX6_forget_0 : decode cX6_forget 0 = .ok (.iload_n 1, 1) := by decide +kernel
theorem dX6_forget_1 : decode cX6_forget 1 = .ok (.invokestatic 145, 3) := by decide +kernel
theorem dX6_forget_4 : decode cX6_forget 4 = .ok (.ifCond .ne 6, 3) := by decide +kernel
theorem dX6_forget_7 : decode cX6_forget 7 = .ok (.bipush (-2), 2) := by decide +kernel
theorem dX6_forget_9 : decode cX6_forget 9 = .ok (.ireturn, 1) := by decide +kernel
theorem dX6_forget_10 : decode cX6_forget 10 = .ok (.iload_n 1, 1) := by decide +kernel
theorem dX6_forget_11 : decode cX6_forget 11 = .ok (.ifCond .ne 10, 3) := by decide +kernel
theorem dX6_forget_14 : decode cX6_forget 14 = .ok (.aload_n 0, 1) := by decide +kernel
theorem dX6_forget_15 : decode cX6_forget 15 = .ok (.getfield 260, 3) := by decide +kernel
theorem dX6_forget_18 : decode cX6_forget 18 = .ok (.goto 7, 3) := by decide +kernel
theorem dX6_forget_21 : decode cX6_forget 21 = .ok (.aload_n 0, 1) := by decide +kernel
theorem dX6_forget_22 : decode cX6_forget 22 = .ok (.getfield 263, 3) := by decide +kernel
theorem dX6_forget_25 : decode cX6_forget 25 = .ok (.istore_n 2, 1) := by decide +kernel
theorem dX6_forget_26 : decode cX6_forget 26 = .ok (.aload_n 0, 1) := by decide +kernel
theorem dX6_forget_27 : decode cX6_forget 27 = .ok (.iload_n 1, 1) := by decide +kernel
theorem dX6_forget_28 : decode cX6_forget 28 = .ok (.ifCond .ne 7, 3) := by decide +kernel
theorem dX6_forget_31 : decode cX6_forget 31 = .ok (.iconst 0, 1) := by decide +kernel
theorem dX6_forget_32 : decode cX6_forget 32 = .ok (.goto 7, 3) := by decide +kernel
theorem dX6_forget_35 : decode cX6_forget 35 = .ok (.aload_n 0, 1) := by decide +kernel
theorem dX6_forget_36 : decode cX6_forget 36 = .ok (.getfield 260, 3) := by decide +kernel
theorem dX6_forget_39 : decode cX6_forget 39 = .ok (.putfield 260, 3) := by decide +kernel
theorem dX6_forget_42 : decode cX6_forget 42 = .ok (.aload_n 0, 1) := by decide +kernel
theorem dX6_forget_43 : decode cX6_forget 43 = .ok (.iload_n 1, 1) := by decide +kernel
theorem dX6_forget_44 : decode cX6_forget 44 = .ok (.iconst 1, 1) := by decide +kernel
theorem dX6_forget_45 : decode cX6_forget 45 = .ok (.if_icmp .ne 7, 3) := by decide +kernel
theorem dX6_forget_48 : decode cX6_forget 48 = .ok (.iconst 0, 1) := by decide +kernel
theorem dX6_forget_49 : decode cX6_forget 49 = .ok (.goto 7, 3) := by decide +kernel
theorem dX6_forget_52 : decode cX6_forget 52 = .ok (.aload_n 0, 1) := by decide +kernel
theorem dX6_forget_53 : decode cX6_forget 53 = .ok (.getfield 263, 3) := by decide +kernel
theorem dX6_forget_56 : decode cX6_forget 56 = .ok (.putfield 263, 3) := by decide +kernel
theorem dX6_forget_59 : decode cX6_forget 59 = .ok (.iload_n 2, 1) := by decide +kernel
theorem dX6_forget_60 : decode cX6_forget 60 = .ok (.ireturn, 1) := by decide +kernel
theorem dX6_isSo_0 : decode cX6_isSo 0 = .ok (.iload_n 2, 1) := by decide +kernel
theorem dX6_isSo_1 : decode cX6_isSo 1 = .ok (.aload_n 0, 1) := by decide +kernel
theorem dX6_isSo_2 : decode cX6_isSo 2 = .ok (.getfield 114, 3) := by decide +kernel
theorem dX6_isSo_5 : decode cX6_isSo 5 = .ok (.if_icmp .ge 21, 3) := by decide +kernel
theorem dX6_isSo_8 : decode cX6_isSo 8 = .ok (.aload_n 0, 1) := by decide +kernel
theorem dX6_isSo_9 : decode cX6_isSo 9 = .ok (.getfield 55, 3) := by decide +kernel
theorem dX6_isSo_12 : decode cX6_isSo 12 = .ok (.iload_n 1, 1) := by decide +kernel
theorem dX6_isSo_13 : decode cX6_isSo 13 = .ok (.iaload, 1) := by decide +kernel
theorem dX6_isSo_14 : decode cX6_isSo 14 = .ok (.iload_n 2, 1) := by decide +kernel
theorem dX6_isSo_15 : decode cX6_isSo 15 = .ok (.ishr, 1) := by decide +kernel
theorem dX6_isSo_16 : decode cX6_isSo 16 = .ok (.iconst 1, 1) := by decide +kernel
theorem dX6_isSo_17 : decode cX6_isSo 17 = .ok (.iand, 1) := by decide +kernel
theorem dX6_isSo_18 : decode cX6_isSo 18 = .ok (.iload_n 3, 1) := by decide +kernel
theorem dX6_isSo_19 : decode cX6_isSo 19 = .ok (.if_icmp .ne 7, 3) := by decide +kernel
theorem dX6_isSo_22 : decode cX6_isSo 22 = .ok (.iconst 1, 1) := by decide +kernel
theorem dX6_isSo_23 : decode cX6_isSo 23 = .ok (.goto 4, 3) := by decide +kernel
theorem dX6_isSo_26 : decode cX6_isSo 26 = .ok (.iconst 0, 1) := by decide +kernel
theorem dX6_isSo_27 : decode cX6_isSo 27 = .ok (.ireturn, 1) := by decide +kernel
theorem dX6_isWhen_0 : decode cX6_isWhen 0 = .ok (.iconst 1, 1) := by decide +kernel
theorem dX6_isWhen_1 : decode cX6_isWhen 1 = .ok (.istore_n 2, 1) := by decide +kernel
theorem dX6_isWhen_2 : decode cX6_isWhen 2 = .ok (.iconst 0, 1) := by decide +kernel
theorem dX6_isWhen_3 : decode cX6_isWhen 3 = .ok (.istore_n 3, 1) := by decide +kernel
theorem dX6_isWhen_4 : decode cX6_isWhen 4 = .ok (.iload_n 3, 1) := by decide +kernel
theorem dX6_isWhen_5 : decode cX6_isWhen 5 = .ok (.aload_n 0, 1) := by decide +kernel
theorem dX6_isWhen_6 : decode cX6_isWhen 6 = .ok (.getfield 260, 3) := by decide +kernel
theorem dX6_isWhen_9 : decode cX6_isWhen 9 = .ok (.if_icmp .ge 39, 3) := by decide +kernel
theorem dX6_isWhen_12 : decode cX6_isWhen 12 = .ok (.iload_n 2, 1) := by decide +kernel
theorem dX6_isWhen_13 : decode cX6_isWhen 13 = .ok (.ifCond .eq 27, 3) := by decide +kernel
theorem dX6_isWhen_16 : decode cX6_isWhen 16 = .ok (.aload_n 0, 1) := by decide +kernel
theorem dX6_isWhen_17 : decode cX6_isWhen 17 = .ok (.iload_n 1, 1) := by decide +kernel
theorem dX6_isWhen_18 : decode cX6_isWhen 18 = .ok (.aload_n 0, 1) := by decide +kernel
theorem dX6_isWhen_19 : decode cX6_isWhen 19 = .ok (.getfield 73, 3) := by decide +kernel
theorem dX6_isWhen_22 : decode cX6_isWhen 22 = .ok (.iload_n 3, 1) := by decide +kernel
theorem dX6_isWhen_23 : decode cX6_isWhen 23 = .ok (.iaload, 1) := by decide +kernel
theorem dX6_isWhen_24 : decode cX6_isWhen 24 = .ok (.aload_n 0, 1) := by decide +kernel
theorem dX6_isWhen_25 : decode cX6_isWhen 25 = .ok (.getfield 76, 3) := by decide +kernel
theorem dX6_isWhen_28 : decode cX6_isWhen 28 = .ok (.iload_n 3, 1) := by decide +kernel
theorem dX6_isWhen_29 : decode cX6_isWhen 29 = .ok (.iaload, 1) := by decide +kernel
theorem dX6_isWhen_30 : decode cX6_isWhen 30 = .ok (.invokevirtual 266, 3) := by decide +kernel
theorem dX6_isWhen_33 : decode cX6_isWhen 33 = .ok (.ifCond .eq 7, 3) := by decide +kernel
theorem dX6_isWhen_36 : decode cX6_isWhen 36 = .ok (.iconst 1, 1) := by decide +kernel
theorem dX6_isWhen_37 : decode cX6_isWhen 37 = .ok (.goto 4, 3) := by decide +kernel
theorem dX6_isWhen_40 : decode cX6_isWhen 40 = .ok (.iconst 0, 1) := by decide +kernel
theorem dX6_isWhen_41 : decode cX6_isWhen 41 = .ok (.istore_n 2, 1) := by decide +kernel
theorem dX6_isWhen_42 : decode cX6_isWhen 42 = .ok (.iinc 3 1, 3) := by decide +kernel
theorem dX6_isWhen_45 : decode cX6_isWhen 45 = .ok (.goto (-41), 3) := by decide +kernel
theorem dX6_isWhen_48 : decode cX6_isWhen 48 = .ok (.iload_n 2, 1) := by decide +kernel
theorem dX6_isWhen_49 : decode cX6_isWhen 49 = .ok (.ireturn, 1) := by decide +kernel
theorem dX6_whenOf_0 : decode cX6_whenOf 0 = .ok (.aload_n 0, 1) := by decide +kernel
theorem dX6_whenOf_1 : decode cX6_whenOf 1 = .ok (.invokevirtual 194, 3) := by decide +kernel
theorem dX6_whenOf_4 : decode cX6_whenOf 4 = .ok (.iconst 0, 1) := by decide +kernel
theorem dX6_whenOf_5 : decode cX6_whenOf 5 = .ok (.istore_n 2, 1) := by decide +kernel
theorem dX6_whenOf_6 : decode cX6_whenOf 6 = .ok (.iconst (-1), 1) := by decide +kernel
theorem dX6_whenOf_7 : decode cX6_whenOf 7 = .ok (.istore_n 3, 1) := by decide +kernel
theorem dX6_whenOf_8 : decode cX6_whenOf 8 = .ok (.iconst 0, 1) := by decide +kernel
theorem dX6_whenOf_9 : decode cX6_whenOf 9 = .ok (.istore 4, 2) := by decide +kernel
theorem dX6_whenOf_11 : decode cX6_whenOf 11 = .ok (.iload 4, 2) := by decide +kernel
theorem dX6_whenOf_13 : decode cX6_whenOf 13 = .ok (.bipush 40, 2) := by decide +kernel
theorem dX6_whenOf_15 : decode cX6_whenOf 15 = .ok (.if_icmp .ge 47, 3) := by decide +kernel
theorem dX6_whenOf_18 : decode cX6_whenOf 18 = .ok (.aload_n 0, 1) := by decide +kernel
theorem dX6_whenOf_19 : decode cX6_whenOf 19 = .ok (.iload 4, 2) := by decide +kernel
theorem dX6_whenOf_21 : decode cX6_whenOf 21 = .ok (.invokevirtual 269, 3) := by decide +kernel
theorem dX6_whenOf_24 : decode cX6_whenOf 24 = .ok (.istore 5, 2) := by decide +kernel
theorem dX6_whenOf_26 : decode cX6_whenOf 26 = .ok (.iload 5, 2) := by decide +kernel
theorem dX6_whenOf_28 : decode cX6_whenOf 28 = .ok (.ifCond .eq 13, 3) := by decide +kernel
theorem dX6_whenOf_31 : decode cX6_whenOf 31 = .ok (.iload_n 2, 1) := by decide +kernel
theorem dX6_whenOf_32 : decode cX6_whenOf 32 = .ok (.iload_n 1, 1) := by decide +kernel
theorem dX6_whenOf_33 : decode cX6_whenOf 33 = .ok (.if_icmp .ne 8, 3) := by decide +kernel
theorem dX6_whenOf_36 : decode cX6_whenOf 36 = .ok (.iload 4, 2) := by decide +kernel
theorem dX6_whenOf_38 : decode cX6_whenOf 38 = .ok (.goto 4, 3) := by decide +kernel
theorem dX6_whenOf_41 : decode cX6_whenOf 41 = .ok (.iload_n 3, 1) := by decide +kernel
theorem dX6_whenOf_42 : decode cX6_whenOf 42 = .ok (.istore_n 3, 1) := by decide +kernel
theorem dX6_whenOf_43 : decode cX6_whenOf 43 = .ok (.iload_n 2, 1) := by decide +kernel
theorem dX6_whenOf_44 : decode cX6_whenOf 44 = .ok (.iload 5, 2) := by decide +kernel
theorem dX6_whenOf_46 : decode cX6_whenOf 46 = .ok (.ifCond .eq 7, 3) := by decide +kernel
theorem dX6_whenOf_49 : decode cX6_whenOf 49 = .ok (.iconst 1, 1) := by decide +kernel
theorem dX6_whenOf_50 : decode cX6_whenOf 50 = .ok (.goto 4, 3) := by decide +kernel
theorem dX6_whenOf_53 : decode cX6_whenOf 53 = .ok (.iconst 0, 1) := by decide +kernel
theorem dX6_whenOf_54 : decode cX6_whenOf 54 = .ok (.iadd, 1) := by decide +kernel
theorem dX6_whenOf_55 : decode cX6_whenOf 55 = .ok (.istore_n 2, 1) := by decide +kernel
theorem dX6_whenOf_56 : decode cX6_whenOf 56 = .ok (.iinc 4 1, 3) := by decide +kernel
theorem dX6_whenOf_59 : decode cX6_whenOf 59 = .ok (.goto (-48), 3) := by decide +kernel
theorem dX6_whenOf_62 : decode cX6_whenOf 62 = .ok (.iload_n 1, 1) := by decide +kernel
theorem dX6_whenOf_63 : decode cX6_whenOf 63 = .ok (.iconst (-1), 1) := by decide +kernel
theorem dX6_whenOf_64 : decode cX6_whenOf 64 = .ok (.if_icmp .ne 7, 3) := by decide +kernel
theorem dX6_whenOf_67 : decode cX6_whenOf 67 = .ok (.iload_n 2, 1) := by decide +kernel
theorem dX6_whenOf_68 : decode cX6_whenOf 68 = .ok (.goto 4, 3) := by decide +kernel
theorem dX6_whenOf_71 : decode cX6_whenOf 71 = .ok (.iload_n 3, 1) := by decide +kernel
theorem dX6_whenOf_72 : decode cX6_whenOf 72 = .ok (.ireturn, 1) := by decide +kernel
theorem dX6_when_0 : decode cX6_when 0 = .ok (.iload_n 1, 1) := by decide +kernel
theorem dX6_when_1 : decode cX6_when 1 = .ok (.iconst (-1), 1) := by decide +kernel
theorem dX6_when_2 : decode cX6_when 2 = .ok (.bipush 39, 2) := by decide +kernel
theorem dX6_when_4 : decode cX6_when 4 = .ok (.invokestatic 106, 3) := by decide +kernel
theorem dX6_when_7 : decode cX6_when 7 = .ok (.ifCond .eq 11, 3) := by decide +kernel
theorem dX6_when_10 : decode cX6_when 10 = .ok (.aload_n 0, 1) := by decide +kernel
theorem dX6_when_11 : decode cX6_when 11 = .ok (.iload_n 1, 1) := by decide +kernel
theorem dX6_when_12 : decode cX6_when 12 = .ok (.invokevirtual 272, 3) := by decide +kernel
theorem dX6_when_15 : decode cX6_when 15 = .ok (.goto 5, 3) := by decide +kernel
theorem dX6_when_18 : decode cX6_when 18 = .ok (.bipush (-2), 2) := by decide +kernel
theorem dX6_when_20 : decode cX6_when 20 = .ok (.ireturn, 1) := by decide +kernel
theorem dX6_askNow_0 : decode cX6_askNow 0 = .ok (.aload_n 0, 1) := by decide +kernel
theorem dX6_askNow_1 : decode cX6_askNow 1 = .ok (.invokevirtual 194, 3) := by decide +kernel
theorem dX6_askNow_4 : decode cX6_askNow 4 = .ok (.iconst (-1), 1) := by decide +kernel
theorem dX6_askNow_5 : decode cX6_askNow 5 = .ok (.istore_n 1, 1) := by decide +kernel
theorem dX6_askNow_6 : decode cX6_askNow 6 = .ok (.iconst 0, 1) := by decide +kernel
theorem dX6_askNow_7 : decode cX6_askNow 7 = .ok (.istore_n 2, 1) := by decide +kernel
theorem dX6_askNow_8 : decode cX6_askNow 8 = .ok (.iconst 0, 1) := by decide +kernel
theorem dX6_askNow_9 : decode cX6_askNow 9 = .ok (.istore_n 3, 1) := by decide +kernel
theorem dX6_askNow_10 : decode cX6_askNow 10 = .ok (.iload_n 3, 1) := by decide +kernel
theorem dX6_askNow_11 : decode cX6_askNow 11 = .ok (.aload_n 0, 1) := by decide +kernel
theorem dX6_askNow_12 : decode cX6_askNow 12 = .ok (.getfield 114, 3) := by decide +kernel
theorem dX6_askNow_15 : decode cX6_askNow 15 = .ok (.if_icmp .ge 154, 3) := by decide +kernel
theorem dX6_askNow_18 : decode cX6_askNow 18 = .ok (.iconst 0, 1) := by decide +kernel
theorem dX6_askNow_19 : decode cX6_askNow 19 = .ok (.istore 4, 2) := by decide +kernel
theorem dX6_askNow_21 : decode cX6_askNow 21 = .ok (.iconst 0, 1) := by decide +kernel
theorem dX6_askNow_22 : decode cX6_askNow 22 = .ok (.istore 5, 2) := by decide +kernel
theorem dX6_askNow_24 : decode cX6_askNow 24 = .ok (.iconst 0, 1) := by decide +kernel
theorem dX6_askNow_25 : decode cX6_askNow 25 = .ok (.istore 6, 2) := by decide +kernel
theorem dX6_askNow_27 : decode cX6_askNow 27 = .ok (.iload 6, 2) := by decide +kernel
theorem dX6_askNow_29 : decode cX6_askNow 29 = .ok (.bipush 40, 2) := by decide +kernel
theorem dX6_askNow_31 : decode cX6_askNow 31 = .ok (.if_icmp .ge 75, 3) := by decide +kernel
theorem dX6_askNow_34 : decode cX6_askNow 34 = .ok (.iload 4, 2) := by decide +kernel
theorem dX6_askNow_36 : decode cX6_askNow 36 = .ok (.aload_n 0, 1) := by decide +kernel
theorem dX6_askNow_37 : decode cX6_askNow 37 = .ok (.iload 6, 2) := by decide +kernel
theorem dX6_askNow_39 : decode cX6_askNow 39 = .ok (.invokevirtual 269, 3) := by decide +kernel
theorem dX6_askNow_42 : decode cX6_askNow 42 = .ok (.ifCond .eq 21, 3) := by decide +kernel
theorem dX6_askNow_45 : decode cX6_askNow 45 = .ok (.aload_n 0, 1) := by decide +kernel
theorem dX6_askNow_46 : decode cX6_askNow 46 = .ok (.getfield 55, 3) := by decide +kernel
theorem dX6_askNow_49 : decode cX6_askNow 49 = .ok (.iload 6, 2) := by decide +kernel
theorem dX6_askNow_51 : decode cX6_askNow 51 = .ok (.iaload, 1) := by decide +kernel
theorem dX6_askNow_52 : decode cX6_askNow 52 = .ok (.iload_n 3, 1) := by decide +kernel
theorem dX6_askNow_53 : decode cX6_askNow 53 = .ok (.invokestatic 127, 3) := by decide +kernel
theorem dX6_askNow_56 : decode cX6_askNow 56 = .ok (.ifCond .eq 7, 3) := by decide +kernel
theorem dX6_askNow_59 : decode cX6_askNow 59 = .ok (.iconst 1, 1) := by decide +kernel
theorem dX6_askNow_60 : decode cX6_askNow 60 = .ok (.goto 4, 3) := by decide +kernel
theorem dX6_askNow_63 : decode cX6_askNow 63 = .ok (.iconst 0, 1) := by decide +kernel
theorem dX6_askNow_64 : decode cX6_askNow 64 = .ok (.iadd, 1) := by decide +kernel
theorem dX6_askNow_65 : decode cX6_askNow 65 = .ok (.istore 4, 2) := by decide +kernel
theorem dX6_askNow_67 : decode cX6_askNow 67 = .ok (.iload 5, 2) := by decide +kernel
theorem dX6_askNow_69 : decode cX6_askNow 69 = .ok (.aload_n 0, 1) := by decide +kernel
theorem dX6_askNow_70 : decode cX6_askNow 70 = .ok (.iload 6, 2) := by decide +kernel
theorem dX6_askNow_72 : decode cX6_askNow 72 = .ok (.invokevirtual 269, 3) := by decide +kernel
theorem dX6_askNow_75 : decode cX6_askNow 75 = .ok (.ifCond .eq 21, 3) := by decide +kernel
theorem dX6_askNow_78 : decode cX6_askNow 78 = .ok (.aload_n 0, 1) := by decide +kernel
theorem dX6_askNow_79 : decode cX6_askNow 79 = .ok (.getfield 55, 3) := by decide +kernel
theorem dX6_askNow_82 : decode cX6_askNow 82 = .ok (.iload 6, 2) := by decide +kernel
theorem dX6_askNow_84 : decode cX6_askNow 84 = .ok (.iaload, 1) := by decide +kernel
theorem dX6_askNow_85 : decode cX6_askNow 85 = .ok (.iload_n 3, 1) := by decide +kernel
theorem dX6_askNow_86 : decode cX6_askNow 86 = .ok (.invokestatic 127, 3) := by decide +kernel
theorem dX6_askNow_89 : decode cX6_askNow 89 = .ok (.ifCond .ne 7, 3) := by decide +kernel
theorem dX6_askNow_92 : decode cX6_askNow 92 = .ok (.iconst 1, 1) := by decide +kernel
theorem dX6_askNow_93 : decode cX6_askNow 93 = .ok (.goto 4, 3) := by decide +kernel
theorem dX6_askNow_96 : decode cX6_askNow 96 = .ok (.iconst 0, 1) := by decide +kernel
theorem dX6_askNow_97 : decode cX6_askNow 97 = .ok (.iadd, 1) := by decide +kernel
theorem dX6_askNow_98 : decode cX6_askNow 98 = .ok (.istore 5, 2) := by decide +kernel
theorem dX6_askNow_100 : decode cX6_askNow 100 = .ok (.iinc 6 1, 3) := by decide +kernel
theorem dX6_askNow_103 : decode cX6_askNow 103 = .ok (.goto (-76), 3) := by decide +kernel
theorem dX6_askNow_106 : decode cX6_askNow 106 = .ok (.iload 4, 2) := by decide +kernel
theorem dX6_askNow_108 : decode cX6_askNow 108 = .ok (.iload 5, 2) := by decide +kernel
theorem dX6_askNow_110 : decode cX6_askNow 110 = .ok (.if_icmp .le 8, 3) := by decide +kernel
theorem dX6_askNow_113 : decode cX6_askNow 113 = .ok (.iload 4, 2) := by decide +kernel
theorem dX6_askNow_115 : decode cX6_askNow 115 = .ok (.goto 5, 3) := by decide +kernel
theorem dX6_askNow_118 : decode cX6_askNow 118 = .ok (.iload 5, 2) := by decide +kernel
theorem dX6_askNow_120 : decode cX6_askNow 120 = .ok (.istore 6, 2) := by decide +kernel
theorem dX6_askNow_122 : decode cX6_askNow 122 = .ok (.iload_n 1, 1) := by decide +kernel
theorem dX6_askNow_123 : decode cX6_askNow 123 = .ok (.iconst (-1), 1) := by decide +kernel
theorem dX6_askNow_124 : decode cX6_askNow 124 = .ok (.if_icmp .eq 9, 3) := by decide +kernel
theorem dX6_askNow_127 : decode cX6_askNow 127 = .ok (.iload 6, 2) := by decide +kernel
theorem dX6_askNow_129 : decode cX6_askNow 129 = .ok (.iload_n 2, 1) := by decide +kernel
theorem dX6_askNow_130 : decode cX6_askNow 130 = .ok (.if_icmp .ge 7, 3) := by decide +kernel
theorem dX6_askNow_133 : decode cX6_askNow 133 = .ok (.iconst 1, 1) := by decide +kernel
theorem dX6_askNow_134 : decode cX6_askNow 134 = .ok (.goto 4, 3) := by decide +kernel
theorem dX6_askNow_137 : decode cX6_askNow 137 = .ok (.iconst 0, 1) := by decide +kernel
theorem dX6_askNow_138 : decode cX6_askNow 138 = .ok (.istore 7, 2) := by decide +kernel
theorem dX6_askNow_140 : decode cX6_askNow 140 = .ok (.iload 7, 2) := by decide +kernel
theorem dX6_askNow_142 : decode cX6_askNow 142 = .ok (.ifCond .eq 7, 3) := by decide +kernel
theorem dX6_askNow_145 : decode cX6_askNow 145 = .ok (.iload_n 3, 1) := by decide +kernel
theorem dX6_askNow_146 : decode cX6_askNow 146 = .ok (.goto 4, 3) := by decide +kernel
theorem dX6_askNow_149 : decode cX6_askNow 149 = .ok (.iload_n 1, 1) := by decide +kernel
theorem dX6_askNow_150 : decode cX6_askNow 150 = .ok (.istore_n 1, 1) := by decide +kernel
theorem dX6_askNow_151 : decode cX6_askNow 151 = .ok (.iload 7, 2) := by decide +kernel
theorem dX6_askNow_153 : decode cX6_askNow 153 = .ok (.ifCond .eq 8, 3) := by decide +kernel
theorem dX6_askNow_156 : decode cX6_askNow 156 = .ok (.iload 6, 2) := by decide +kernel
theorem dX6_askNow_158 : decode cX6_askNow 158 = .ok (.goto 4, 3) := by decide +kernel
theorem dX6_askNow_161 : decode cX6_askNow 161 = .ok (.iload_n 2, 1) := by decide +kernel
theorem dX6_askNow_162 : decode cX6_askNow 162 = .ok (.istore_n 2, 1) := by decide +kernel
theorem dX6_askNow_163 : decode cX6_askNow 163 = .ok (.iinc 3 1, 3) := by decide +kernel
theorem dX6_askNow_166 : decode cX6_askNow 166 = .ok (.goto (-156), 3) := by decide +kernel
theorem dX6_askNow_169 : decode cX6_askNow 169 = .ok (.iload_n 1, 1) := by decide +kernel
theorem dX6_askNow_170 : decode cX6_askNow 170 = .ok (.ireturn, 1) := by decide +kernel
theorem dX6_ask_0 : decode cX6_ask 0 = .ok (.aload_n 0, 1) := by decide +kernel
theorem dX6_ask_1 : decode cX6_ask 1 = .ok (.invokevirtual 275, 3) := by decide +kernel
theorem dX6_ask_4 : decode cX6_ask 4 = .ok (.ireturn, 1) := by decide +kernel
theorem dX6_forgedNow_0 : decode cX6_forgedNow 0 = .ok (.aload_n 0, 1) := by decide +kernel
theorem dX6_forgedNow_1 : decode cX6_forgedNow 1 = .ok (.invokevirtual 124, 3) := by decide +kernel
theorem dX6_forgedNow_4 : decode cX6_forgedNow 4 = .ok (.aload_n 0, 1) := by decide +kernel
theorem dX6_forgedNow_5 : decode cX6_forgedNow 5 = .ok (.invokevirtual 188, 3) := by decide +kernel
theorem dX6_forgedNow_8 : decode cX6_forgedNow 8 = .ok (.iconst 0, 1) := by decide +kernel
theorem dX6_forgedNow_9 : decode cX6_forgedNow 9 = .ok (.istore_n 1, 1) := by decide +kernel
theorem dX6_forgedNow_10 : decode cX6_forgedNow 10 = .ok (.iconst 0, 1) := by decide +kernel
theorem dX6_forgedNow_11 : decode cX6_forgedNow 11 = .ok (.istore_n 2, 1) := by decide +kernel
theorem dX6_forgedNow_12 : decode cX6_forgedNow 12 = .ok (.iload_n 2, 1) := by decide +kernel
theorem dX6_forgedNow_13 : decode cX6_forgedNow 13 = .ok (.aload_n 0, 1) := by decide +kernel
theorem dX6_forgedNow_14 : decode cX6_forgedNow 14 = .ok (.getfield 16, 3) := by decide +kernel
theorem dX6_forgedNow_17 : decode cX6_forgedNow 17 = .ok (.iconst 2, 1) := by decide +kernel
theorem dX6_forgedNow_18 : decode cX6_forgedNow 18 = .ok (.iaload, 1) := by decide +kernel
theorem dX6_forgedNow_19 : decode cX6_forgedNow 19 = .ok (.if_icmp .ge 90, 3) := by decide +kernel
theorem dX6_forgedNow_22 : decode cX6_forgedNow 22 = .ok (.aload_n 0, 1) := by decide +kernel
theorem dX6_forgedNow_23 : decode cX6_forgedNow 23 = .ok (.iload_n 2, 1) := by decide +kernel
theorem dX6_forgedNow_24 : decode cX6_forgedNow 24 = .ok (.putfield 176, 3) := by decide +kernel
theorem dX6_forgedNow_27 : decode cX6_forgedNow 27 = .ok (.aload_n 0, 1) := by decide +kernel
theorem dX6_forgedNow_28 : decode cX6_forgedNow 28 = .ok (.invokevirtual 191, 3) := by decide +kernel
theorem dX6_forgedNow_31 : decode cX6_forgedNow 31 = .ok (.iconst 1, 1) := by decide +kernel
theorem dX6_forgedNow_32 : decode cX6_forgedNow 32 = .ok (.istore_n 3, 1) := by decide +kernel
theorem dX6_forgedNow_33 : decode cX6_forgedNow 33 = .ok (.iconst 0, 1) := by decide +kernel
theorem dX6_forgedNow_34 : decode cX6_forgedNow 34 = .ok (.istore 4, 2) := by decide +kernel
theorem dX6_forgedNow_36 : decode cX6_forgedNow 36 = .ok (.iload 4, 2) := by decide +kernel
theorem dX6_forgedNow_38 : decode cX6_forgedNow 38 = .ok (.aload_n 0, 1) := by decide +kernel
theorem dX6_forgedNow_39 : decode cX6_forgedNow 39 = .ok (.getfield 263, 3) := by decide +kernel
theorem dX6_forgedNow_42 : decode cX6_forgedNow 42 = .ok (.if_icmp .ge 47, 3) := by decide +kernel
theorem dX6_forgedNow_45 : decode cX6_forgedNow 45 = .ok (.iload_n 3, 1) := by decide +kernel
theorem dX6_forgedNow_46 : decode cX6_forgedNow 46 = .ok (.ifCond .eq 35, 3) := by decide +kernel
theorem dX6_forgedNow_49 : decode cX6_forgedNow 49 = .ok (.aload_n 0, 1) := by decide +kernel
theorem dX6_forgedNow_50 : decode cX6_forgedNow 50 = .ok (.aload_n 0, 1) := by decide +kernel
theorem dX6_forgedNow_51 : decode cX6_forgedNow 51 = .ok (.getfield 79, 3) := by decide +kernel
theorem dX6_forgedNow_54 : decode cX6_forgedNow 54 = .ok (.iload 4, 2) := by decide +kernel
theorem dX6_forgedNow_56 : decode cX6_forgedNow 56 = .ok (.iaload, 1) := by decide +kernel
theorem dX6_forgedNow_57 : decode cX6_forgedNow 57 = .ok (.aload_n 0, 1) := by decide +kernel
theorem dX6_forgedNow_58 : decode cX6_forgedNow 58 = .ok (.getfield 82, 3) := by decide +kernel
theorem dX6_forgedNow_61 : decode cX6_forgedNow 61 = .ok (.iload 4, 2) := by decide +kernel
theorem dX6_forgedNow_63 : decode cX6_forgedNow 63 = .ok (.iaload, 1) := by decide +kernel
theorem dX6_forgedNow_64 : decode cX6_forgedNow 64 = .ok (.aload_n 0, 1) := by decide +kernel
theorem dX6_forgedNow_65 : decode cX6_forgedNow 65 = .ok (.getfield 85, 3) := by decide +kernel
theorem dX6_forgedNow_68 : decode cX6_forgedNow 68 = .ok (.iload 4, 2) := by decide +kernel
theorem dX6_forgedNow_70 : decode cX6_forgedNow 70 = .ok (.iaload, 1) := by decide +kernel
theorem dX6_forgedNow_71 : decode cX6_forgedNow 71 = .ok (.invokevirtual 266, 3) := by decide +kernel
theorem dX6_forgedNow_74 : decode cX6_forgedNow 74 = .ok (.ifCond .eq 7, 3) := by decide +kernel
theorem dX6_forgedNow_77 : decode cX6_forgedNow 77 = .ok (.iconst 1, 1) := by decide +kernel
theorem dX6_forgedNow_78 : decode cX6_forgedNow 78 = .ok (.goto 4, 3) := by decide +kernel
theorem dX6_forgedNow_81 : decode cX6_forgedNow 81 = .ok (.iconst 0, 1) := by decide +kernel
theorem dX6_forgedNow_82 : decode cX6_forgedNow 82 = .ok (.istore_n 3, 1) := by decide +kernel
theorem dX6_forgedNow_83 : decode cX6_forgedNow 83 = .ok (.iinc 4 1, 3) := by decide +kernel
theorem dX6_forgedNow_86 : decode cX6_forgedNow 86 = .ok (.goto (-50), 3) := by decide +kernel
theorem dX6_forgedNow_89 : decode cX6_forgedNow 89 = .ok (.iload_n 1, 1) := by decide +kernel
theorem dX6_forgedNow_90 : decode cX6_forgedNow 90 = .ok (.iload_n 3, 1) := by decide +kernel
theorem dX6_forgedNow_91 : decode cX6_forgedNow 91 = .ok (.ifCond .eq 9, 3) := by decide +kernel
theorem dX6_forgedNow_94 : decode cX6_forgedNow 94 = .ok (.iconst 1, 1) := by decide +kernel
theorem dX6_forgedNow_95 : decode cX6_forgedNow 95 = .ok (.iload_n 2, 1) := by decide +kernel
theorem dX6_forgedNow_96 : decode cX6_forgedNow 96 = .ok (.ishl, 1) := by decide +kernel
theorem dX6_forgedNow_97 : decode cX6_forgedNow 97 = .ok (.goto 4, 3) := by decide +kernel
theorem dX6_forgedNow_100 : decode cX6_forgedNow 100 = .ok (.iconst 0, 1) := by decide +kernel
theorem dX6_forgedNow_101 : decode cX6_forgedNow 101 = .ok (.ior, 1) := by decide +kernel
theorem dX6_forgedNow_102 : decode cX6_forgedNow 102 = .ok (.istore_n 1, 1) := by decide +kernel
theorem dX6_forgedNow_103 : decode cX6_forgedNow 103 = .ok (.iinc 2 1, 3) := by decide +kernel
theorem dX6_forgedNow_106 : decode cX6_forgedNow 106 = .ok (.goto (-94), 3) := by decide +kernel
theorem dX6_forgedNow_109 : decode cX6_forgedNow 109 = .ok (.iload_n 1, 1) := by decide +kernel
theorem dX6_forgedNow_110 : decode cX6_forgedNow 110 = .ok (.ireturn, 1) := by decide +kernel
theorem dX6_forged_0 : decode cX6_forged 0 = .ok (.aload_n 0, 1) := by decide +kernel
theorem dX6_forged_1 : decode cX6_forged 1 = .ok (.invokevirtual 278, 3) := by decide +kernel
theorem dX6_forged_4 : decode cX6_forged 4 = .ok (.ireturn, 1) := by decide +kernel
theorem dX6_chanceOn_0 : decode cX6_chanceOn 0 = .ok (.aload_n 0, 1) := by decide +kernel
theorem dX6_chanceOn_1 : decode cX6_chanceOn 1 = .ok (.getfield 52, 3) := by decide +kernel
theorem dX6_chanceOn_4 : decode cX6_chanceOn 4 = .ok (.iload_n 2, 1) := by decide +kernel
theorem dX6_chanceOn_5 : decode cX6_chanceOn 5 = .ok (.iaload, 1) := by decide +kernel
theorem dX6_chanceOn_6 : decode cX6_chanceOn 6 = .ok (.iload_n 3, 1) := by decide +kernel
theorem dX6_chanceOn_7 : decode cX6_chanceOn 7 = .ok (.ishr, 1) := by decide +kernel
theorem dX6_chanceOn_8 : decode cX6_chanceOn 8 = .ok (.iconst 1, 1) := by decide +kernel
theorem dX6_chanceOn_9 : decode cX6_chanceOn 9 = .ok (.iand, 1) := by decide +kernel
theorem dX6_chanceOn_10 : decode cX6_chanceOn 10 = .ok (.istore 4, 2) := by decide +kernel
theorem dX6_chanceOn_12 : decode cX6_chanceOn 12 = .ok (.aload_n 0, 1) := by decide +kernel
theorem dX6_chanceOn_13 : decode cX6_chanceOn 13 = .ok (.getfield 52, 3) := by decide +kernel
theorem dX6_chanceOn_16 : decode cX6_chanceOn 16 = .ok (.bipush 40, 2) := by decide +kernel
theorem dX6_chanceOn_18 : decode cX6_chanceOn 18 = .ok (.iload_n 2, 1) := by decide +kernel
theorem dX6_chanceOn_19 : decode cX6_chanceOn 19 = .ok (.iadd, 1) := by decide +kernel
theorem dX6_chanceOn_20 : decode cX6_chanceOn 20 = .ok (.iaload, 1) := by decide +kernel
theorem dX6_chanceOn_21 : decode cX6_chanceOn 21 = .ok (.iload_n 3, 1) := by decide +kernel
theorem dX6_chanceOn_22 : decode cX6_chanceOn 22 = .ok (.ishr, 1) := by decide +kernel
theorem dX6_chanceOn_23 : decode cX6_chanceOn 23 = .ok (.iconst 1, 1) := by decide +kernel
theorem dX6_chanceOn_24 : decode cX6_chanceOn 24 = .ok (.iand, 1) := by decide +kernel
theorem dX6_chanceOn_25 : decode cX6_chanceOn 25 = .ok (.istore 5, 2) := by decide +kernel
theorem dX6_chanceOn_27 : decode cX6_chanceOn 27 = .ok (.aload_n 0, 1) := by decide +kernel
theorem dX6_chanceOn_28 : decode cX6_chanceOn 28 = .ok (.iload_n 2, 1) := by decide +kernel
theorem dX6_chanceOn_29 : decode cX6_chanceOn 29 = .ok (.invokevirtual 167, 3) := by decide +kernel
theorem dX6_chanceOn_32 : decode cX6_chanceOn 32 = .ok (.ifCond .eq 13, 3) := by decide +kernel
theorem dX6_chanceOn_35 : decode cX6_chanceOn 35 = .ok (.sipush 256, 3) := by decide +kernel
theorem dX6_chanceOn_38 : decode cX6_chanceOn 38 = .ok (.iload 4, 2) := by decide +kernel
theorem dX6_chanceOn_40 : decode cX6_chanceOn 40 = .ok (.imul, 1) := by decide +kernel
theorem dX6_chanceOn_41 : decode cX6_chanceOn 41 = .ok (.iload 5, 2) := by decide +kernel
theorem dX6_chanceOn_43 : decode cX6_chanceOn 43 = .ok (.imul, 1) := by decide +kernel
theorem dX6_chanceOn_44 : decode cX6_chanceOn 44 = .ok (.ireturn, 1) := by decide +kernel
theorem dX6_chanceOn_45 : decode cX6_chanceOn 45 = .ok (.iload_n 2, 1) := by decide +kernel
theorem dX6_chanceOn_46 : decode cX6_chanceOn 46 = .ok (.bipush 7, 2) := by decide +kernel
theorem dX6_chanceOn_48 : decode cX6_chanceOn 48 = .ok (.irem, 1) := by decide +kernel
theorem dX6_chanceOn_49 : decode cX6_chanceOn 49 = .ok (.bipush 6, 2) := by decide +kernel
theorem dX6_chanceOn_51 : decode cX6_chanceOn 51 = .ok (.if_icmp .ne 7, 3) := by decide +kernel
theorem dX6_chanceOn_54 : decode cX6_chanceOn 54 = .ok (.sipush 256, 3) := by decide +kernel
theorem dX6_chanceOn_57 : decode cX6_chanceOn 57 = .ok (.ireturn, 1) := by decide +kernel
theorem dX6_chanceOn_58 : decode cX6_chanceOn 58 = .ok (.iload_n 2, 1) := by decide +kernel
theorem dX6_chanceOn_59 : decode cX6_chanceOn 59 = .ok (.iconst 2, 1) := by decide +kernel
theorem dX6_chanceOn_60 : decode cX6_chanceOn 60 = .ok (.irem, 1) := by decide +kernel
theorem dX6_chanceOn_61 : decode cX6_chanceOn 61 = .ok (.ifCond .ne 8, 3) := by decide +kernel
theorem dX6_chanceOn_64 : decode cX6_chanceOn 64 = .ok (.iload 4, 2) := by decide +kernel
theorem dX6_chanceOn_66 : decode cX6_chanceOn 66 = .ok (.goto 5, 3) := by decide +kernel
theorem dX6_chanceOn_69 : decode cX6_chanceOn 69 = .ok (.iload 5, 2) := by decide +kernel
theorem dX6_chanceOn_71 : decode cX6_chanceOn 71 = .ok (.istore 6, 2) := by decide +kernel
theorem dX6_chanceOn_73 : decode cX6_chanceOn 73 = .ok (.iload_n 2, 1) := by decide +kernel
theorem dX6_chanceOn_74 : decode cX6_chanceOn 74 = .ok (.iconst 2, 1) := by decide +kernel
theorem dX6_chanceOn_75 : decode cX6_chanceOn 75 = .ok (.irem, 1) := by decide +kernel
theorem dX6_chanceOn_76 : decode cX6_chanceOn 76 = .ok (.ifCond .ne 8, 3) := by decide +kernel
theorem dX6_chanceOn_79 : decode cX6_chanceOn 79 = .ok (.iload 5, 2) := by decide +kernel
theorem dX6_chanceOn_81 : decode cX6_chanceOn 81 = .ok (.goto 5, 3) := by decide +kernel
theorem dX6_chanceOn_84 : decode cX6_chanceOn 84 = .ok (.iload 4, 2) := by decide +kernel
theorem dX6_chanceOn_86 : decode cX6_chanceOn 86 = .ok (.istore 7, 2) := by decide +kernel
theorem dX6_chanceOn_88 : decode cX6_chanceOn 88 = .ok (.iload 6, 2) := by decide +kernel
theorem dX6_chanceOn_90 : decode cX6_chanceOn 90 = .ok (.bipush 16, 2) := by decide +kernel
theorem dX6_chanceOn_92 : decode cX6_chanceOn 92 = .ok (.imul, 1) := by decide +kernel
theorem dX6_chanceOn_93 : decode cX6_chanceOn 93 = .ok (.bipush 16, 2) := by decide +kernel
theorem dX6_chanceOn_95 : decode cX6_chanceOn 95 = .ok (.iload_n 1, 1) := by decide +kernel
theorem dX6_chanceOn_96 : decode cX6_chanceOn 96 = .ok (.isub, 1) := by decide +kernel
theorem dX6_chanceOn_97 : decode cX6_chanceOn 97 = .ok (.imul, 1) := by decide +kernel
theorem dX6_chanceOn_98 : decode cX6_chanceOn 98 = .ok (.iload 7, 2) := by decide +kernel
theorem dX6_chanceOn_100 : decode cX6_chanceOn 100 = .ok (.iload_n 1, 1) := by decide +kernel
theorem dX6_chanceOn_101 : decode cX6_chanceOn 101 = .ok (.imul, 1) := by decide +kernel
theorem dX6_chanceOn_102 : decode cX6_chanceOn 102 = .ok (.bipush 16, 2) := by decide +kernel
theorem dX6_chanceOn_104 : decode cX6_chanceOn 104 = .ok (.iload_n 1, 1) := by decide +kernel
theorem dX6_chanceOn_105 : decode cX6_chanceOn 105 = .ok (.isub, 1) := by decide +kernel
theorem dX6_chanceOn_106 : decode cX6_chanceOn 106 = .ok (.imul, 1) := by decide +kernel
theorem dX6_chanceOn_107 : decode cX6_chanceOn 107 = .ok (.iadd, 1) := by decide +kernel
theorem dX6_chanceOn_108 : decode cX6_chanceOn 108 = .ok (.iload_n 1, 1) := by decide +kernel
theorem dX6_chanceOn_109 : decode cX6_chanceOn 109 = .ok (.iload_n 1, 1) := by decide +kernel
theorem dX6_chanceOn_110 : decode cX6_chanceOn 110 = .ok (.imul, 1) := by decide +kernel
theorem dX6_chanceOn_111 : decode cX6_chanceOn 111 = .ok (.iadd, 1) := by decide +kernel
theorem dX6_chanceOn_112 : decode cX6_chanceOn 112 = .ok (.ireturn, 1) := by decide +kernel
theorem dX6_chanceOf_0 : decode cX6_chanceOf 0 = .ok (.aload_n 0, 1) := by decide +kernel
theorem dX6_chanceOf_1 : decode cX6_chanceOf 1 = .ok (.invokevirtual 194, 3) := by decide +kernel
theorem dX6_chanceOf_4 : decode cX6_chanceOf 4 = .ok (.lconst 1, 1) := by decide +kernel
theorem dX6_chanceOf_5 : decode cX6_chanceOf 5 = .ok (.lstore 6, 2) := by decide +kernel
theorem dX6_chanceOf_7 : decode cX6_chanceOf 7 = .ok (.lconst 1, 1) := by decide +kernel
theorem dX6_chanceOf_8 : decode cX6_chanceOf 8 = .ok (.lstore 8, 2) := by decide +kernel
theorem dX6_chanceOf_10 : decode cX6_chanceOf 10 = .ok (.iconst 0, 1) := by decide +kernel
theorem dX6_chanceOf_11 : decode cX6_chanceOf 11 = .ok (.istore 10, 2) := by decide +kernel
theorem dX6_chanceOf_13 : decode cX6_chanceOf 13 = .ok (.iload 10, 2) := by decide +kernel
theorem dX6_chanceOf_15 : decode cX6_chanceOf 15 = .ok (.iload 4, 2) := by decide +kernel
theorem dX6_chanceOf_17 : decode cX6_chanceOf 17 = .ok (.if_icmp .ge 33, 3) := by decide +kernel
theorem dX6_chanceOf_20 : decode cX6_chanceOf 20 = .ok (.lload 6, 2) := by decide +kernel
theorem dX6_chanceOf_22 : decode cX6_chanceOf 22 = .ok (.aload_n 0, 1) := by decide +kernel
theorem dX6_chanceOf_23 : decode cX6_chanceOf 23 = .ok (.iload_n 1, 1) := by decide +kernel
theorem dX6_chanceOf_24 : decode cX6_chanceOf 24 = .ok (.iload_n 2, 1) := by decide +kernel
theorem dX6_chanceOf_25 : decode cX6_chanceOf 25 = .ok (.iload 10, 2) := by decide +kernel
theorem dX6_chanceOf_27 : decode cX6_chanceOf 27 = .ok (.iadd, 1) := by decide +kernel
theorem dX6_chanceOf_28 : decode cX6_chanceOf 28 = .ok (.iload_n 3, 1) := by decide +kernel
theorem dX6_chanceOf_29 : decode cX6_chanceOf 29 = .ok (.invokevirtual 281, 3) := by decide +kernel
theorem dX6_chanceOf_32 : decode cX6_chanceOf 32 = .ok (.i2l, 1) := by decide +kernel
theorem dX6_chanceOf_33 : decode cX6_chanceOf 33 = .ok (.lmul, 1) := by decide +kernel
theorem dX6_chanceOf_34 : decode cX6_chanceOf 34 = .ok (.lstore 6, 2) := by decide +kernel
theorem dX6_chanceOf_36 : decode cX6_chanceOf 36 = .ok (.lload 8, 2) := by decide +kernel
theorem dX6_chanceOf_38 : decode cX6_chanceOf 38 = .ok (.ldc2_w 284, 3) := by decide +kernel
theorem dX6_chanceOf_41 : decode cX6_chanceOf 41 = .ok (.lmul, 1) := by decide +kernel
theorem dX6_chanceOf_42 : decode cX6_chanceOf 42 = .ok (.lstore 8, 2) := by decide +kernel
theorem dX6_chanceOf_44 : decode cX6_chanceOf 44 = .ok (.iinc 10 1, 3) := by decide +kernel
theorem dX6_chanceOf_47 : decode cX6_chanceOf 47 = .ok (.goto (-34), 3) := by decide +kernel
theorem dX6_chanceOf_50 : decode cX6_chanceOf 50 = .ok (.lload 6, 2) := by decide +kernel
theorem dX6_chanceOf_52 : decode cX6_chanceOf 52 = .ok (.lload 8, 2) := by decide +kernel
theorem dX6_chanceOf_54 : decode cX6_chanceOf 54 = .ok (.iload 5, 2) := by decide +kernel
theorem dX6_chanceOf_56 : decode cX6_chanceOf 56 = .ok (.invokestatic 286, 3) := by decide +kernel
theorem dX6_chanceOf_59 : decode cX6_chanceOf 59 = .ok (.lreturn, 1) := by decide +kernel
theorem dX6_chance_0 : decode cX6_chance 0 = .ok (.iload_n 1, 1) := by decide +kernel
theorem dX6_chance_1 : decode cX6_chance 1 = .ok (.iconst 0, 1) := by decide +kernel
theorem dX6_chance_2 : decode cX6_chance 2 = .ok (.bipush 16, 2) := by decide +kernel
theorem dX6_chance_4 : decode cX6_chance 4 = .ok (.invokestatic 106, 3) := by decide +kernel
theorem dX6_chance_7 : decode cX6_chance 7 = .ok (.ifCond .eq 42, 3) := by decide +kernel
theorem dX6_chance_10 : decode cX6_chance 10 = .ok (.iload_n 2, 1) := by decide +kernel
theorem dX6_chance_11 : decode cX6_chance 11 = .ok (.invokestatic 151, 3) := by decide +kernel
theorem dX6_chance_14 : decode cX6_chance 14 = .ok (.ifCond .eq 35, 3) := by decide +kernel
theorem dX6_chance_17 : decode cX6_chance 17 = .ok (.aload_n 0, 1) := by decide +kernel
theorem dX6_chance_18 : decode cX6_chance 18 = .ok (.iload_n 3, 1) := by decide +kernel
theorem dX6_chance_19 : decode cX6_chance 19 = .ok (.invokevirtual 137, 3) := by decide +kernel
theorem dX6_chance_22 : decode cX6_chance 22 = .ok (.ifCond .eq 27, 3) := by decide +kernel
theorem dX6_chance_25 : decode cX6_chance 25 = .ok (.iload 4, 2) := by decide +kernel
theorem dX6_chance_27 : decode cX6_chance 27 = .ok (.iconst 1, 1) := by decide +kernel
theorem dX6_chance_28 : decode cX6_chance 28 = .ok (.bipush 6, 2) := by decide +kernel
theorem dX6_chance_30 : decode cX6_chance 30 = .ok (.invokestatic 106, 3) := by decide +kernel
theorem dX6_chance_33 : decode cX6_chance 33 = .ok (.ifCond .eq 16, 3) := by decide +kernel
theorem dX6_chance_36 : decode cX6_chance 36 = .ok (.iload_n 2, 1) := by decide +kernel
theorem dX6_chance_37 : decode cX6_chance 37 = .ok (.iload 4, 2) := by decide +kernel
theorem dX6_chance_39 : decode cX6_chance 39 = .ok (.iadd, 1) := by decide +kernel
theorem dX6_chance_40 : decode cX6_chance 40 = .ok (.bipush 40, 2) := by decide +kernel
theorem dX6_chance_42 : decode cX6_chance 42 = .ok (.if_icmp .gt 7, 3) := by decide +kernel
theorem dX6_chance_45 : decode cX6_chance 45 = .ok (.iconst 1, 1) := by decide +kernel
theorem dX6_chance_46 : decode cX6_chance 46 = .ok (.goto 4, 3) := by decide +kernel
theorem dX6_chance_49 : decode cX6_chance 49 = .ok (.iconst 0, 1) := by decide +kernel
theorem dX6_chance_50 : decode cX6_chance 50 = .ok (.istore 6, 2) := by decide +kernel
theorem dX6_chance_52 : decode cX6_chance 52 = .ok (.iload 6, 2) := by decide +kernel
theorem dX6_chance_54 : decode cX6_chance 54 = .ok (.ifCond .eq 25, 3) := by decide +kernel
theorem dX6_chance_57 : decode cX6_chance 57 = .ok (.iload 5, 2) := by decide +kernel
theorem dX6_chance_59 : decode cX6_chance 59 = .ok (.invokestatic 145, 3) := by decide +kernel
theorem dX6_chance_62 : decode cX6_chance 62 = .ok (.ifCond .eq 17, 3) := by decide +kernel
theorem dX6_chance_65 : decode cX6_chance 65 = .ok (.aload_n 0, 1) := by decide +kernel
theorem dX6_chance_66 : decode cX6_chance 66 = .ok (.iload_n 1, 1) := by decide +kernel
theorem dX6_chance_67 : decode cX6_chance 67 = .ok (.iload_n 2, 1) := by decide +kernel
theorem dX6_chance_68 : decode cX6_chance 68 = .ok (.iload_n 3, 1) := by decide +kernel
theorem dX6_chance_69 : decode cX6_chance 69 = .ok (.iload 4, 2) := by decide +kernel
theorem dX6_chance_71 : decode cX6_chance 71 = .ok (.iload 5, 2) := by decide +kernel
theorem dX6_chance_73 : decode cX6_chance 73 = .ok (.invokevirtual 290, 3) := by decide +kernel
theorem dX6_chance_76 : decode cX6_chance 76 = .ok (.goto 8, 3) := by decide +kernel
theorem dX6_chance_79 : decode cX6_chance 79 = .ok (.bipush (-2), 2) := by decide +kernel
theorem dX6_chance_81 : decode cX6_chance 81 = .ok (.invokestatic 294, 3) := by decide +kernel
theorem dX6_chance_84 : decode cX6_chance 84 = .ok (.lreturn, 1) := by decide +kernel
theorem dX6_yearOf_0 : decode cX6_yearOf 0 = .ok (.aload_n 0, 1) := by decide +kernel
theorem dX6_yearOf_1 : decode cX6_yearOf 1 = .ok (.invokevirtual 194, 3) := by decide +kernel
theorem dX6_yearOf_4 : decode cX6_yearOf 4 = .ok (.iload_n 1, 1) := by decide +kernel
theorem dX6_yearOf_5 : decode cX6_yearOf 5 = .ok (.istore 4, 2) := by decide +kernel
theorem dX6_yearOf_7 : decode cX6_yearOf 7 = .ok (.iconst 0, 1) := by decide +kernel
theorem dX6_yearOf_8 : decode cX6_yearOf 8 = .ok (.istore 5, 2) := by decide +kernel
theorem dX6_yearOf_10 : decode cX6_yearOf 10 = .ok (.iconst 0, 1) := by decide +kernel
theorem dX6_yearOf_11 : decode cX6_yearOf 11 = .ok (.istore 6, 2) := by decide +kernel
theorem dX6_yearOf_13 : decode cX6_yearOf 13 = .ok (.iconst 0, 1) := by decide +kernel
theorem dX6_yearOf_14 : decode cX6_yearOf 14 = .ok (.istore 7, 2) := by decide +kernel
theorem dX6_yearOf_16 : decode cX6_yearOf 16 = .ok (.iload 7, 2) := by decide +kernel
theorem dX6_yearOf_18 : decode cX6_yearOf 18 = .ok (.iload_n 2, 1) := by decide +kernel
theorem dX6_yearOf_19 : decode cX6_yearOf 19 = .ok (.if_icmp .ge 98, 3) := by decide +kernel
theorem dX6_yearOf_22 : decode cX6_yearOf 22 = .ok (.aload_n 0, 1) := by decide +kernel
theorem dX6_yearOf_23 : decode cX6_yearOf 23 = .ok (.getfield 114, 3) := by decide +kernel
theorem dX6_yearOf_26 : decode cX6_yearOf 26 = .ok (.ifCond .le 91, 3) := by decide +kernel
theorem dX6_yearOf_29 : decode cX6_yearOf 29 = .ok (.ldc_w 298, 3) := by decide +kernel
theorem dX6_yearOf_32 : decode cX6_yearOf 32 = .ok (.iload 4, 2) := by decide +kernel
theorem dX6_yearOf_34 : decode cX6_yearOf 34 = .ok (.imul, 1) := by decide +kernel
theorem dX6_yearOf_35 : decode cX6_yearOf 35 = .ok (.sipush 12345, 3) := by decide +kernel
theorem dX6_yearOf_38 : decode cX6_yearOf 38 = .ok (.iadd, 1) := by decide +kernel
theorem dX6_yearOf_39 : decode cX6_yearOf 39 = .ok (.istore 4, 2) := by decide +kernel
theorem dX6_yearOf_41 : decode cX6_yearOf 41 = .ok (.iload 4, 2) := by decide +kernel
theorem dX6_yearOf_43 : decode cX6_yearOf 43 = .ok (.bipush 16, 2) := by decide +kernel
theorem dX6_yearOf_45 : decode cX6_yearOf 45 = .ok (.iushr, 1) := by decide +kernel
theorem dX6_yearOf_46 : decode cX6_yearOf 46 = .ok (.aload_n 0, 1) := by decide +kernel
theorem dX6_yearOf_47 : decode cX6_yearOf 47 = .ok (.getfield 114, 3) := by decide +kernel
theorem dX6_yearOf_50 : decode cX6_yearOf 50 = .ok (.irem, 1) := by decide +kernel
theorem dX6_yearOf_51 : decode cX6_yearOf 51 = .ok (.istore 8, 2) := by decide +kernel
theorem dX6_yearOf_53 : decode cX6_yearOf 53 = .ok (.aload_n 0, 1) := by decide +kernel
theorem dX6_yearOf_54 : decode cX6_yearOf 54 = .ok (.getfield 55, 3) := by decide +kernel
theorem dX6_yearOf_57 : decode cX6_yearOf 57 = .ok (.iload 7, 2) := by decide +kernel
theorem dX6_yearOf_59 : decode cX6_yearOf 59 = .ok (.iaload, 1) := by decide +kernel
theorem dX6_yearOf_60 : decode cX6_yearOf 60 = .ok (.iload 8, 2) := by decide +kernel
theorem dX6_yearOf_62 : decode cX6_yearOf 62 = .ok (.invokestatic 127, 3) := by decide +kernel
theorem dX6_yearOf_65 : decode cX6_yearOf 65 = .ok (.ifCond .ne 7, 3) := by decide +kernel
theorem dX6_yearOf_68 : decode cX6_yearOf 68 = .ok (.iconst 1, 1) := by decide +kernel
theorem dX6_yearOf_69 : decode cX6_yearOf 69 = .ok (.goto 4, 3) := by decide +kernel
theorem dX6_yearOf_72 : decode cX6_yearOf 72 = .ok (.iconst 0, 1) := by decide +kernel
theorem dX6_yearOf_73 : decode cX6_yearOf 73 = .ok (.istore 9, 2) := by decide +kernel
theorem dX6_yearOf_75 : decode cX6_yearOf 75 = .ok (.iload 5, 2) := by decide +kernel
theorem dX6_yearOf_77 : decode cX6_yearOf 77 = .ok (.iload 9, 2) := by decide +kernel
theorem dX6_yearOf_79 : decode cX6_yearOf 79 = .ok (.ifCond .eq 7, 3) := by decide +kernel
theorem dX6_yearOf_82 : decode cX6_yearOf 82 = .ok (.iconst 1, 1) := by decide +kernel
theorem dX6_yearOf_83 : decode cX6_yearOf 83 = .ok (.goto 4, 3) := by decide +kernel
theorem dX6_yearOf_86 : decode cX6_yearOf 86 = .ok (.iconst 0, 1) := by decide +kernel
theorem dX6_yearOf_87 : decode cX6_yearOf 87 = .ok (.iadd, 1) := by decide +kernel
theorem dX6_yearOf_88 : decode cX6_yearOf 88 = .ok (.istore 5, 2) := by decide +kernel
theorem dX6_yearOf_90 : decode cX6_yearOf 90 = .ok (.iload 6, 2) := by decide +kernel
theorem dX6_yearOf_92 : decode cX6_yearOf 92 = .ok (.iload 9, 2) := by decide +kernel
theorem dX6_yearOf_94 : decode cX6_yearOf 94 = .ok (.ifCond .eq 13, 3) := by decide +kernel
theorem dX6_yearOf_97 : decode cX6_yearOf 97 = .ok (.aload_n 0, 1) := by decide +kernel
theorem dX6_yearOf_98 : decode cX6_yearOf 98 = .ok (.getfield 13, 3) := by decide +kernel
theorem dX6_yearOf_101 : decode cX6_yearOf 101 = .ok (.iload 8, 2) := by decide +kernel
theorem dX6_yearOf_103 : decode cX6_yearOf 103 = .ok (.iaload, 1) := by decide +kernel
theorem dX6_yearOf_104 : decode cX6_yearOf 104 = .ok (.goto 4, 3) := by decide +kernel
theorem dX6_yearOf_107 : decode cX6_yearOf 107 = .ok (.iconst 0, 1) := by decide +kernel
theorem dX6_yearOf_108 : decode cX6_yearOf 108 = .ok (.iadd, 1) := by decide +kernel
theorem dX6_yearOf_109 : decode cX6_yearOf 109 = .ok (.istore 6, 2) := by decide +kernel
theorem dX6_yearOf_111 : decode cX6_yearOf 111 = .ok (.iinc 7 1, 3) := by decide +kernel
theorem dX6_yearOf_114 : decode cX6_yearOf 114 = .ok (.goto (-98), 3) := by decide +kernel
theorem dX6_yearOf_117 : decode cX6_yearOf 117 = .ok (.iload_n 3, 1) := by decide +kernel
theorem dX6_yearOf_118 : decode cX6_yearOf 118 = .ok (.ifCond .ne 8, 3) := by decide +kernel
theorem dX6_yearOf_121 : decode cX6_yearOf 121 = .ok (.iload 5, 2) := by decide +kernel
theorem dX6_yearOf_123 : decode cX6_yearOf 123 = .ok (.goto 5, 3) := by decide +kernel
theorem dX6_yearOf_126 : decode cX6_yearOf 126 = .ok (.iload 6, 2) := by decide +kernel
theorem dX6_yearOf_128 : decode cX6_yearOf 128 = .ok (.ireturn, 1) := by decide +kernel
theorem dX6_year_0 : decode cX6_year 0 = .ok (.iload_n 2, 1) := by decide +kernel
theorem dX6_year_1 : decode cX6_year 1 = .ok (.iconst 1, 1) := by decide +kernel
theorem dX6_year_2 : decode cX6_year 2 = .ok (.bipush 40, 2) := by decide +kernel
theorem dX6_year_4 : decode cX6_year 4 = .ok (.invokestatic 106, 3) := by decide +kernel
theorem dX6_year_7 : decode cX6_year 7 = .ok (.ifCond .eq 20, 3) := by decide +kernel
theorem dX6_year_10 : decode cX6_year 10 = .ok (.iload_n 3, 1) := by decide +kernel
theorem dX6_year_11 : decode cX6_year 11 = .ok (.invokestatic 145, 3) := by decide +kernel
theorem dX6_year_14 : decode cX6_year 14 = .ok (.ifCond .eq 13, 3) := by decide +kernel
theorem dX6_year_17 : decode cX6_year 17 = .ok (.aload_n 0, 1) := by decide +kernel
theorem dX6_year_18 : decode cX6_year 18 = .ok (.iload_n 1, 1) := by decide +kernel
theorem dX6_year_19 : decode cX6_year 19 = .ok (.iload_n 2, 1) := by decide +kernel
theorem dX6_year_20 : decode cX6_year 20 = .ok (.iload_n 3, 1) := by decide +kernel
theorem dX6_year_21 : decode cX6_year 21 = .ok (.invokevirtual 299, 3) := by decide +kernel
theorem dX6_year_24 : decode cX6_year 24 = .ok (.goto 5, 3) := by decide +kernel
theorem dX6_year_27 : decode cX6_year 27 = .ok (.bipush (-2), 2) := by decide +kernel
theorem dX6_year_29 : decode cX6_year 29 = .ok (.ireturn, 1) := by decide +kernel
theorem dX6_meets_0 : decode cX6_meets 0 = .ok (.aload_n 0, 1) := by decide +kernel
theorem dX6_meets_1 : decode cX6_meets 1 = .ok (.iload_n 1, 1) := by decide +kernel
theorem dX6_meets_2 : decode cX6_meets 2 = .ok (.putfield 302, 3) := by decide +kernel
theorem dX6_meets_5 : decode cX6_meets 5 = .ok (.bipush (-10), 2) := by decide +kernel
theorem dX6_meets_7 : decode cX6_meets 7 = .ok (.iload_n 1, 1) := by decide +kernel
theorem dX6_meets_8 : decode cX6_meets 8 = .ok (.isub, 1) := by decide +kernel
theorem dX6_meets_9 : decode cX6_meets 9 = .ok (.ireturn, 1) := by decide +kernel
theorem dX6_isSheet_0 : decode cX6_isSheet 0 = .ok (.iload_n 0, 1) := by decide +kernel
theorem dX6_isSheet_1 : decode cX6_isSheet 1 = .ok (.iconst 0, 1) := by decide +kernel
theorem dX6_isSheet_2 : decode cX6_isSheet 2 = .ok (.iconst 3, 1) := by decide +kernel
theorem dX6_isSheet_3 : decode cX6_isSheet 3 = .ok (.invokestatic 106, 3) := by decide +kernel
theorem dX6_isSheet_6 : decode cX6_isSheet 6 = .ok (.ireturn, 1) := by decide +kernel
theorem dX6_sheet_0 : decode cX6_sheet 0 = .ok (.iload_n 1, 1) := by decide +kernel
theorem dX6_sheet_1 : decode cX6_sheet 1 = .ok (.invokestatic 157, 3) := by decide +kernel
theorem dX6_sheet_4 : decode cX6_sheet 4 = .ok (.ifCond .eq 18, 3) := by decide +kernel
theorem dX6_sheet_7 : decode cX6_sheet 7 = .ok (.iload_n 2, 1) := by decide +kernel
theorem dX6_sheet_8 : decode cX6_sheet 8 = .ok (.iconst 0, 1) := by decide +kernel
theorem dX6_sheet_9 : decode cX6_sheet 9 = .ok (.iconst 2, 1) := by decide +kernel
theorem dX6_sheet_10 : decode cX6_sheet 10 = .ok (.invokestatic 106, 3) := by decide +kernel
theorem dX6_sheet_13 : decode cX6_sheet 13 = .ok (.ifCond .eq 9, 3) := by decide +kernel
theorem dX6_sheet_16 : decode cX6_sheet 16 = .ok (.iload_n 3, 1) := by decide +kernel
theorem dX6_sheet_17 : decode cX6_sheet 17 = .ok (.bipush 60, 2) := by decide +kernel
theorem dX6_sheet_19 : decode cX6_sheet 19 = .ok (.if_icmp .le 6, 3) := by decide +kernel
theorem dX6_sheet_22 : decode cX6_sheet 22 = .ok (.bipush (-2), 2) := by decide +kernel
theorem dX6_sheet_24 : decode cX6_sheet 24 = .ok (.ireturn, 1) := by decide +kernel
theorem dX6_sheet_25 : decode cX6_sheet 25 = .ok (.iload_n 3, 1) := by decide +kernel
theorem dX6_sheet_26 : decode cX6_sheet 26 = .ok (.ifCond .ge 9, 3) := by decide +kernel
theorem dX6_sheet_29 : decode cX6_sheet 29 = .ok (.aload_n 0, 1) := by decide +kernel
theorem dX6_sheet_30 : decode cX6_sheet 30 = .ok (.iconst 5, 1) := by decide +kernel
theorem dX6_sheet_31 : decode cX6_sheet 31 = .ok (.invokevirtual 160, 3) := by decide +kernel
theorem dX6_sheet_34 : decode cX6_sheet 34 = .ok (.ireturn, 1) := by decide +kernel
theorem dX6_sheet_35 : decode cX6_sheet 35 = .ok (.aload_n 0, 1) := by decide +kernel
theorem dX6_sheet_36 : decode cX6_sheet 36 = .ok (.getfield 88, 3) := by decide +kernel
theorem dX6_sheet_39 : decode cX6_sheet 39 = .ok (.iload_n 1, 1) := by decide +kernel
theorem dX6_sheet_40 : decode cX6_sheet 40 = .ok (.iconst 1, 1) := by decide +kernel
theorem dX6_sheet_41 : decode cX6_sheet 41 = .ok (.bastore, 1) := by decide +kernel
theorem dX6_sheet_42 : decode cX6_sheet 42 = .ok (.aload_n 0, 1) := by decide +kernel
theorem dX6_sheet_43 : decode cX6_sheet 43 = .ok (.getfield 92, 3) := by decide +kernel
theorem dX6_sheet_46 : decode cX6_sheet 46 = .ok (.iload_n 1, 1) := by decide +kernel
theorem dX6_sheet_47 : decode cX6_sheet 47 = .ok (.iload_n 2, 1) := by decide +kernel
theorem dX6_sheet_48 : decode cX6_sheet 48 = .ok (.iastore, 1) := by decide +kernel
theorem dX6_sheet_49 : decode cX6_sheet 49 = .ok (.aload_n 0, 1) := by decide +kernel
theorem dX6_sheet_50 : decode cX6_sheet 50 = .ok (.getfield 95, 3) := by decide +kernel
theorem dX6_sheet_53 : decode cX6_sheet 53 = .ok (.iload_n 1, 1) := by decide +kernel
theorem dX6_sheet_54 : decode cX6_sheet 54 = .ok (.iload_n 3, 1) := by decide +kernel
theorem dX6_sheet_55 : decode cX6_sheet 55 = .ok (.iastore, 1) := by decide +kernel
theorem dX6_sheet_56 : decode cX6_sheet 56 = .ok (.iconst 0, 1) := by decide +kernel
theorem dX6_sheet_57 : decode cX6_sheet 57 = .ok (.istore 4, 2) := by decide +kernel
theorem dX6_sheet_59 : decode cX6_sheet 59 = .ok (.iload 4, 2) := by decide +kernel
theorem dX6_sheet_61 : decode cX6_sheet 61 = .ok (.bipush 60, 2) := by decide +kernel
theorem dX6_sheet_63 : decode cX6_sheet 63 = .ok (.if_icmp .ge 22, 3) := by decide +kernel
theorem dX6_sheet_66 : decode cX6_sheet 66 = .ok (.aload_n 0, 1) := by decide +kernel
theorem dX6_sheet_67 : decode cX6_sheet 67 = .ok (.getfield 98, 3) := by decide +kernel
theorem dX6_sheet_70 : decode cX6_sheet 70 = .ok (.bipush 60, 2) := by decide +kernel
theorem dX6_sheet_72 : decode cX6_sheet 72 = .ok (.iload_n 1, 1) := by decide +kernel
theorem dX6_sheet_73 : decode cX6_sheet 73 = .ok (.imul, 1) := by decide +kernel
theorem dX6_sheet_74 : decode cX6_sheet 74 = .ok (.iload 4, 2) := by decide +kernel
theorem dX6_sheet_76 : decode cX6_sheet 76 = .ok (.iadd, 1) := by decide +kernel
theorem dX6_sheet_77 : decode cX6_sheet 77 = .ok (.iconst 0, 1) := by decide +kernel
theorem dX6_sheet_78 : decode cX6_sheet 78 = .ok (.iastore, 1) := by decide +kernel
theorem dX6_sheet_79 : decode cX6_sheet 79 = .ok (.iinc 4 1, 3) := by decide +kernel
theorem dX6_sheet_82 : decode cX6_sheet 82 = .ok (.goto (-23), 3) := by decide +kernel
theorem dX6_sheet_85 : decode cX6_sheet 85 = .ok (.iload_n 3, 1) := by decide +kernel
theorem dX6_sheet_86 : decode cX6_sheet 86 = .ok (.ireturn, 1) := by decide +kernel
theorem dX6_lose_0 : decode cX6_lose 0 = .ok (.iload_n 1, 1) := by decide +kernel
theorem dX6_lose_1 : decode cX6_lose 1 = .ok (.invokestatic 157, 3) := by decide +kernel
theorem dX6_lose_4 : decode cX6_lose 4 = .ok (.ifCond .ne 6, 3) := by decide +kernel
theorem dX6_lose_7 : decode cX6_lose 7 = .ok (.bipush (-2), 2) := by decide +kernel
theorem dX6_lose_9 : decode cX6_lose 9 = .ok (.ireturn, 1) := by decide +kernel
theorem dX6_lose_10 : decode cX6_lose 10 = .ok (.aload_n 0, 1) := by decide +kernel
theorem dX6_lose_11 : decode cX6_lose 11 = .ok (.getfield 88, 3) := by decide +kernel
theorem dX6_lose_14 : decode cX6_lose 14 = .ok (.iload_n 1, 1) := by decide +kernel
theorem dX6_lose_15 : decode cX6_lose 15 = .ok (.baload, 1) := by decide +kernel
theorem dX6_lose_16 : decode cX6_lose 16 = .ok (.ifCond .ne 9, 3) := by decide +kernel
theorem dX6_lose_19 : decode cX6_lose 19 = .ok (.aload_n 0, 1) := by decide +kernel
theorem dX6_lose_20 : decode cX6_lose 20 = .ok (.iconst 1, 1) := by decide +kernel
theorem dX6_lose_21 : decode cX6_lose 21 = .ok (.invokevirtual 160, 3) := by decide +kernel
theorem dX6_lose_24 : decode cX6_lose 24 = .ok (.ireturn, 1) := by decide +kernel
theorem dX6_lose_25 : decode cX6_lose 25 = .ok (.aload_n 0, 1) := by decide +kernel
theorem dX6_lose_26 : decode cX6_lose 26 = .ok (.getfield 88, 3) := by decide +kernel
theorem dX6_lose_29 : decode cX6_lose 29 = .ok (.iload_n 1, 1) := by decide +kernel
theorem dX6_lose_30 : decode cX6_lose 30 = .ok (.iconst 0, 1) := by decide +kernel
theorem dX6_lose_31 : decode cX6_lose 31 = .ok (.bastore, 1) := by decide +kernel
theorem dX6_lose_32 : decode cX6_lose 32 = .ok (.aload_n 0, 1) := by decide +kernel
theorem dX6_lose_33 : decode cX6_lose 33 = .ok (.getfield 95, 3) := by decide +kernel
theorem dX6_lose_36 : decode cX6_lose 36 = .ok (.iload_n 1, 1) := by decide +kernel
theorem dX6_lose_37 : decode cX6_lose 37 = .ok (.iaload, 1) := by decide +kernel
theorem dX6_lose_38 : decode cX6_lose 38 = .ok (.ireturn, 1) := by decide +kernel
theorem dX6_lacks_0 : decode cX6_lacks 0 = .ok (.aload_n 0, 1) := by decide +kernel
theorem dX6_lacks_1 : decode cX6_lacks 1 = .ok (.getfield 88, 3) := by decide +kernel
theorem dX6_lacks_4 : decode cX6_lacks 4 = .ok (.iload_n 1, 1) := by decide +kernel
theorem dX6_lacks_5 : decode cX6_lacks 5 = .ok (.baload, 1) := by decide +kernel
theorem dX6_lacks_6 : decode cX6_lacks 6 = .ok (.ifCond .ne 7, 3) := by decide +kernel
theorem dX6_lacks_9 : decode cX6_lacks 9 = .ok (.iconst 1, 1) := by decide +kernel
theorem dX6_lacks_10 : decode cX6_lacks 10 = .ok (.goto 38, 3) := by decide +kernel
theorem dX6_lacks_13 : decode cX6_lacks 13 = .ok (.aload_n 0, 1) := by decide +kernel
theorem dX6_lacks_14 : decode cX6_lacks 14 = .ok (.getfield 92, 3) := by decide +kernel
theorem dX6_lacks_17 : decode cX6_lacks 17 = .ok (.iload_n 1, 1) := by decide +kernel
theorem dX6_lacks_18 : decode cX6_lacks 18 = .ok (.iaload, 1) := by decide +kernel
theorem dX6_lacks_19 : decode cX6_lacks 19 = .ok (.iload_n 2, 1) := by decide +kernel
theorem dX6_lacks_20 : decode cX6_lacks 20 = .ok (.if_icmp .eq 7, 3) := by decide +kernel
theorem dX6_lacks_23 : decode cX6_lacks 23 = .ok (.iconst 3, 1) := by decide +kernel
theorem dX6_lacks_24 : decode cX6_lacks 24 = .ok (.goto 24, 3) := by decide +kernel
theorem dX6_lacks_27 : decode cX6_lacks 27 = .ok (.iload_n 3, 1) := by decide +kernel
theorem dX6_lacks_28 : decode cX6_lacks 28 = .ok (.iconst 0, 1) := by decide +kernel
theorem dX6_lacks_29 : decode cX6_lacks 29 = .ok (.aload_n 0, 1) := by decide +kernel
theorem dX6_lacks_30 : decode cX6_lacks 30 = .ok (.getfield 95, 3) := by decide +kernel
theorem dX6_lacks_33 : decode cX6_lacks 33 = .ok (.iload_n 1, 1) := by decide +kernel
theorem dX6_lacks_34 : decode cX6_lacks 34 = .ok (.iaload, 1) := by decide +kernel
theorem dX6_lacks_35 : decode cX6_lacks 35 = .ok (.iconst 1, 1) := by decide +kernel
theorem dX6_lacks_36 : decode cX6_lacks 36 = .ok (.isub, 1) := by decide +kernel
theorem dX6_lacks_37 : decode cX6_lacks 37 = .ok (.invokestatic 106, 3) := by decide +kernel
theorem dX6_lacks_40 : decode cX6_lacks 40 = .ok (.ifCond .eq 7, 3) := by decide +kernel
theorem dX6_lacks_43 : decode cX6_lacks 43 = .ok (.iconst 0, 1) := by decide +kernel
theorem dX6_lacks_44 : decode cX6_lacks 44 = .ok (.goto 4, 3) := by decide +kernel
theorem dX6_lacks_47 : decode cX6_lacks 47 = .ok (.iconst 2, 1) := by decide +kernel
theorem dX6_lacks_48 : decode cX6_lacks 48 = .ok (.ireturn, 1) := by decide +kernel
theorem dX6_keep_0 : decode cX6_keep 0 = .ok (.aload_n 0, 1) := by decide +kernel
theorem dX6_keep_1 : decode cX6_keep 1 = .ok (.getfield 98, 3) := by decide +kernel
theorem dX6_keep_4 : decode cX6_keep 4 = .ok (.bipush 60, 2) := by decide +kernel
theorem dX6_keep_6 : decode cX6_keep 6 = .ok (.iload_n 1, 1) := by decide +kernel
theorem dX6_keep_7 : decode cX6_keep 7 = .ok (.imul, 1) := by decide +kernel
theorem dX6_keep_8 : decode cX6_keep 8 = .ok (.iload_n 2, 1) := by decide +kernel
theorem dX6_keep_9 : decode cX6_keep 9 = .ok (.iadd, 1) := by decide +kernel
theorem dX6_keep_10 : decode cX6_keep 10 = .ok (.aload_n 0, 1) := by decide +kernel
theorem dX6_keep_11 : decode cX6_keep 11 = .ok (.getfield 92, 3) := by decide +kernel
theorem dX6_keep_14 : decode cX6_keep 14 = .ok (.iload_n 1, 1) := by decide +kernel
theorem dX6_keep_15 : decode cX6_keep 15 = .ok (.iaload, 1) := by decide +kernel
theorem dX6_keep_16 : decode cX6_keep 16 = .ok (.ifCond .ne 8, 3) := by decide +kernel
theorem dX6_keep_19 : decode cX6_keep 19 = .ok (.iload_n 3, 1) := by decide +kernel
theorem dX6_keep_20 : decode cX6_keep 20 = .ok (.i2b, 1) := by decide +kernel
theorem dX6_keep_21 : decode cX6_keep 21 = .ok (.goto 19, 3) := by decide +kernel
theorem dX6_keep_24 : decode cX6_keep 24 = .ok (.aload_n 0, 1) := by decide +kernel
theorem dX6_keep_25 : decode cX6_keep 25 = .ok (.getfield 92, 3) := by decide +kernel
theorem dX6_keep_28 : decode cX6_keep 28 = .ok (.iload_n 1, 1) := by decide +kernel
theorem dX6_keep_29 : decode cX6_keep 29 = .ok (.iaload, 1) := by decide +kernel
theorem dX6_keep_30 : decode cX6_keep 30 = .ok (.iconst 1, 1) := by decide +kernel
theorem dX6_keep_31 : decode cX6_keep 31 = .ok (.if_icmp .ne 8, 3) := by decide +kernel
theorem dX6_keep_34 : decode cX6_keep 34 = .ok (.iload_n 3, 1) := by decide +kernel
theorem dX6_keep_35 : decode cX6_keep 35 = .ok (.i2s, 1) := by decide +kernel
theorem dX6_keep_36 : decode cX6_keep 36 = .ok (.goto 4, 3) := by decide +kernel
theorem dX6_keep_39 : decode cX6_keep 39 = .ok (.iload_n 3, 1) := by decide +kernel
theorem dX6_keep_40 : decode cX6_keep 40 = .ok (.iastore, 1) := by decide +kernel
theorem dX6_keep_41 : decode cX6_keep 41 = .ok (.return_, 1) := by decide +kernel
theorem dX6_put_0 : decode cX6_put 0 = .ok (.iload_n 1, 1) := by decide +kernel
theorem dX6_put_1 : decode cX6_put 1 = .ok (.invokestatic 157, 3) := by decide +kernel
theorem dX6_put_4 : decode cX6_put 4 = .ok (.ifCond .eq 12, 3) := by decide +kernel
theorem dX6_put_7 : decode cX6_put 7 = .ok (.iload_n 2, 1) := by decide +kernel
theorem dX6_put_8 : decode cX6_put 8 = .ok (.iconst 0, 1) := by decide +kernel
theorem dX6_put_9 : decode cX6_put 9 = .ok (.iconst 2, 1) := by decide +kernel
theorem dX6_put_10 : decode cX6_put 10 = .ok (.invokestatic 106, 3) := by decide +kernel
theorem dX6_put_13 : decode cX6_put 13 = .ok (.ifCond .ne 6, 3) := by decide +kernel
theorem dX6_put_16 : decode cX6_put 16 = .ok (.bipush (-2), 2) := by decide +kernel
theorem dX6_put_18 : decode cX6_put 18 = .ok (.ireturn, 1) := by decide +kernel
theorem dX6_put_19 : decode cX6_put 19 = .ok (.aload_n 0, 1) := by decide +kernel
theorem dX6_put_20 : decode cX6_put 20 = .ok (.iload_n 1, 1) := by decide +kernel
theorem dX6_put_21 : decode cX6_put 21 = .ok (.iload_n 2, 1) := by decide +kernel
theorem dX6_put_22 : decode cX6_put 22 = .ok (.iload_n 3, 1) := by decide +kernel
theorem dX6_put_23 : decode cX6_put 23 = .ok (.invokevirtual 305, 3) := by decide +kernel
theorem dX6_put_26 : decode cX6_put 26 = .ok (.istore 5, 2) := by decide +kernel
theorem dX6_put_28 : decode cX6_put 28 = .ok (.iload 5, 2) := by decide +kernel
theorem dX6_put_30 : decode cX6_put 30 = .ok (.ifCond .le 10, 3) := by decide +kernel
theorem dX6_put_33 : decode cX6_put 33 = .ok (.aload_n 0, 1) := by decide +kernel
theorem dX6_put_34 : decode cX6_put 34 = .ok (.iload 5, 2) := by decide +kernel
theorem dX6_put_36 : decode cX6_put 36 = .ok (.invokevirtual 160, 3) := by decide +kernel
theorem dX6_put_39 : decode cX6_put 39 = .ok (.ireturn, 1) := by decide +kernel
theorem dX6_put_40 : decode cX6_put 40 = .ok (.aload_n 0, 1) := by decide +kernel
theorem dX6_put_41 : decode cX6_put 41 = .ok (.iload_n 1, 1) := by decide +kernel
theorem dX6_put_42 : decode cX6_put 42 = .ok (.iload_n 3, 1) := by decide +kernel
theorem dX6_put_43 : decode cX6_put 43 = .ok (.iload 4, 2) := by decide +kernel
theorem dX6_put_45 : decode cX6_put 45 = .ok (.invokevirtual 308, 3) := by decide +kernel
theorem dX6_put_48 : decode cX6_put 48 = .ok (.iconst 1, 1) := by decide +kernel
theorem dX6_put_49 : decode cX6_put 49 = .ok (.ireturn, 1) := by decide +kernel
theorem dX6_get_0 : decode cX6_get 0 = .ok (.iload_n 1, 1) := by decide +kernel
theorem dX6_get_1 : decode cX6_get 1 = .ok (.invokestatic 157, 3) := by decide +kernel
theorem dX6_get_4 : decode cX6_get 4 = .ok (.ifCond .eq 12, 3) := by decide +kernel
theorem dX6_get_7 : decode cX6_get 7 = .ok (.iload_n 2, 1) := by decide +kernel
theorem dX6_get_8 : decode cX6_get 8 = .ok (.iconst 0, 1) := by decide +kernel
theorem dX6_get_9 : decode cX6_get 9 = .ok (.iconst 2, 1) := by decide +kernel
theorem dX6_get_10 : decode cX6_get 10 = .ok (.invokestatic 106, 3) := by decide +kernel
theorem dX6_get_13 : decode cX6_get 13 = .ok (.ifCond .ne 7, 3) := by decide +kernel
theorem dX6_get_16 : decode cX6_get 16 = .ok (.ldc_w 311, 3) := by decide +kernel
theorem dX6_get_19 : decode cX6_get 19 = .ok (.ireturn, 1) := by decide +kernel
theorem dX6_get_20 : decode cX6_get 20 = .ok (.aload_n 0, 1) := by decide +kernel
theorem dX6_get_21 : decode cX6_get 21 = .ok (.iload_n 1, 1) := by decide +kernel
theorem dX6_get_22 : decode cX6_get 22 = .ok (.iload_n 2, 1) := by decide +kernel
theorem dX6_get_23 : decode cX6_get 23 = .ok (.iload_n 3, 1) := by decide +kernel
theorem dX6_get_24 : decode cX6_get 24 = .ok (.invokevirtual 305, 3) := by decide +kernel
theorem dX6_get_27 : decode cX6_get 27 = .ok (.istore 4, 2) := by decide +kernel
theorem dX6_get_29 : decode cX6_get 29 = .ok (.iload 4, 2) := by decide +kernel
theorem dX6_get_31 : decode cX6_get 31 = .ok (.ifCond .le 13, 3) := by decide +kernel
theorem dX6_get_34 : decode cX6_get 34 = .ok (.aload_n 0, 1) := by decide +kernel
theorem dX6_get_35 : decode cX6_get 35 = .ok (.iload 4, 2) := by decide +kernel
theorem dX6_get_37 : decode cX6_get 37 = .ok (.putfield 302, 3) := by decide +kernel
theorem dX6_get_40 : decode cX6_get 40 = .ok (.ldc_w 311, 3) := by decide +kernel
theorem dX6_get_43 : decode cX6_get 43 = .ok (.ireturn, 1) := by decide +kernel
theorem dX6_get_44 : decode cX6_get 44 = .ok (.aload_n 0, 1) := by decide +kernel
theorem dX6_get_45 : decode cX6_get 45 = .ok (.getfield 98, 3) := by decide +kernel
theorem dX6_get_48 : decode cX6_get 48 = .ok (.bipush 60, 2) := by decide +kernel
theorem dX6_get_50 : decode cX6_get 50 = .ok (.iload_n 1, 1) := by decide +kernel
theorem dX6_get_51 : decode cX6_get 51 = .ok (.imul, 1) := by decide +kernel
theorem dX6_get_52 : decode cX6_get 52 = .ok (.iload_n 3, 1) := by decide +kernel
theorem dX6_get_53 : decode cX6_get 53 = .ok (.iadd, 1) := by decide +kernel
theorem dX6_get_54 : decode cX6_get 54 = .ok (.iaload, 1) := by decide +kernel
theorem dX6_get_55 : decode cX6_get 55 = .ok (.ireturn, 1) := by decide +kernel
theorem dX6_copy_0 : decode cX6_copy 0 = .ok (.iload_n 1, 1) := by decide +kernel
theorem dX6_copy_1 : decode cX6_copy 1 = .ok (.invokestatic 157, 3) := by decide +kernel
theorem dX6_copy_4 : decode cX6_copy 4 = .ok (.ifCond .eq 10, 3) := by decide +kernel
theorem dX6_copy_7 : decode cX6_copy 7 = .ok (.iload_n 3, 1) := by decide +kernel
theorem dX6_copy_8 : decode cX6_copy 8 = .ok (.invokestatic 157, 3) := by decide +kernel
theorem dX6_copy_11 : decode cX6_copy 11 = .ok (.ifCond .ne 6, 3) := by decide +kernel
theorem dX6_copy_14 : decode cX6_copy 14 = .ok (.bipush (-2), 2) := by decide +kernel
theorem dX6_copy_16 : decode cX6_copy 16 = .ok (.ireturn, 1) := by decide +kernel
theorem dX6_copy_17 : decode cX6_copy 17 = .ok (.aload_n 0, 1) := by decide +kernel
theorem dX6_copy_18 : decode cX6_copy 18 = .ok (.getfield 88, 3) := by decide +kernel
theorem dX6_copy_21 : decode cX6_copy 21 = .ok (.iload_n 1, 1) := by decide +kernel
theorem dX6_copy_22 : decode cX6_copy 22 = .ok (.baload, 1) := by decide +kernel
theorem dX6_copy_23 : decode cX6_copy 23 = .ok (.ifCond .eq 12, 3) := by decide +kernel
theorem dX6_copy_26 : decode cX6_copy 26 = .ok (.aload_n 0, 1) := by decide +kernel
theorem dX6_copy_27 : decode cX6_copy 27 = .ok (.getfield 88, 3) := by decide +kernel
theorem dX6_copy_30 : decode cX6_copy 30 = .ok (.iload_n 3, 1) := by decide +kernel
theorem dX6_copy_31 : decode cX6_copy 31 = .ok (.baload, 1) := by decide +kernel
theorem dX6_copy_32 : decode cX6_copy 32 = .ok (.ifCond .ne 9, 3) := by decide +kernel
theorem dX6_copy_35 : decode cX6_copy 35 = .ok (.aload_n 0, 1) := by decide +kernel
theorem dX6_copy_36 : decode cX6_copy 36 = .ok (.iconst 1, 1) := by decide +kernel
theorem dX6_copy_37 : decode cX6_copy 37 = .ok (.invokevirtual 160, 3) := by decide +kernel
theorem dX6_copy_40 : decode cX6_copy 40 = .ok (.ireturn, 1) := by decide +kernel
theorem dX6_copy_41 : decode cX6_copy 41 = .ok (.aload_n 0, 1) := by decide +kernel
theorem dX6_copy_42 : decode cX6_copy 42 = .ok (.getfield 92, 3) := by decide +kernel
theorem dX6_copy_45 : decode cX6_copy 45 = .ok (.iload_n 1, 1) := by decide +kernel
theorem dX6_copy_46 : decode cX6_copy 46 = .ok (.iaload, 1) := by decide +kernel
theorem dX6_copy_47 : decode cX6_copy 47 = .ok (.aload_n 0, 1) := by decide +kernel
theorem dX6_copy_48 : decode cX6_copy 48 = .ok (.getfield 92, 3) := by decide +kernel
theorem dX6_copy_51 : decode cX6_copy 51 = .ok (.iload_n 3, 1) := by decide +kernel
theorem dX6_copy_52 : decode cX6_copy 52 = .ok (.iaload, 1) := by decide +kernel
theorem dX6_copy_53 : decode cX6_copy 53 = .ok (.if_icmp .eq 9, 3) := by decide +kernel
theorem dX6_copy_56 : decode cX6_copy 56 = .ok (.aload_n 0, 1) := by decide +kernel
theorem dX6_copy_57 : decode cX6_copy 57 = .ok (.iconst 4, 1) := by decide +kernel
theorem dX6_copy_58 : decode cX6_copy 58 = .ok (.invokevirtual 160, 3) := by decide +kernel
theorem dX6_copy_61 : decode cX6_copy 61 = .ok (.ireturn, 1) := by decide +kernel
theorem dX6_copy_62 : decode cX6_copy 62 = .ok (.iload_n 2, 1) := by decide +kernel
theorem dX6_copy_63 : decode cX6_copy 63 = .ok (.ifCond .lt 48, 3) := by decide +kernel
theorem dX6_copy_66 : decode cX6_copy 66 = .ok (.iload 4, 2) := by decide +kernel
theorem dX6_copy_68 : decode cX6_copy 68 = .ok (.ifCond .lt 43, 3) := by decide +kernel
theorem dX6_copy_71 : decode cX6_copy 71 = .ok (.iload 5, 2) := by decide +kernel
theorem dX6_copy_73 : decode cX6_copy 73 = .ok (.ifCond .lt 38, 3) := by decide +kernel
theorem dX6_copy_76 : decode cX6_copy 76 = .ok (.iload_n 2, 1) := by decide +kernel
theorem dX6_copy_77 : decode cX6_copy 77 = .ok (.i2l, 1) := by decide +kernel
theorem dX6_copy_78 : decode cX6_copy 78 = .ok (.iload 5, 2) := by decide +kernel
theorem dX6_copy_80 : decode cX6_copy 80 = .ok (.i2l, 1) := by decide +kernel
theorem dX6_copy_81 : decode cX6_copy 81 = .ok (.ladd, 1) := by decide +kernel
theorem dX6_copy_82 : decode cX6_copy 82 = .ok (.aload_n 0, 1) := by decide +kernel
theorem dX6_copy_83 : decode cX6_copy 83 = .ok (.getfield 95, 3) := by decide +kernel
theorem dX6_copy_86 : decode cX6_copy 86 = .ok (.iload_n 1, 1) := by decide +kernel
theorem dX6_copy_87 : decode cX6_copy 87 = .ok (.iaload, 1) := by decide +kernel
theorem dX6_copy_88 : decode cX6_copy 88 = .ok (.i2l, 1) := by decide +kernel
theorem dX6_copy_89 : decode cX6_copy 89 = .ok (.lcmp, 1) := by decide +kernel
theorem dX6_copy_90 : decode cX6_copy 90 = .ok (.ifCond .gt 21, 3) := by decide +kernel
theorem dX6_copy_93 : decode cX6_copy 93 = .ok (.iload 4, 2) := by decide +kernel
theorem dX6_copy_95 : decode cX6_copy 95 = .ok (.i2l, 1) := by decide +kernel
theorem dX6_copy_96 : decode cX6_copy 96 = .ok (.iload 5, 2) := by decide +kernel
theorem dX6_copy_98 : decode cX6_copy 98 = .ok (.i2l, 1) := by decide +kernel
theorem dX6_copy_99 : decode cX6_copy 99 = .ok (.ladd, 1) := by decide +kernel
theorem dX6_copy_100 : decode cX6_copy 100 = .ok (.aload_n 0, 1) := by decide +kernel
theorem dX6_copy_101 : decode cX6_copy 101 = .ok (.getfield 95, 3) := by decide +kernel
theorem dX6_copy_104 : decode cX6_copy 104 = .ok (.iload_n 3, 1) := by decide +kernel
theorem dX6_copy_105 : decode cX6_copy 105 = .ok (.iaload, 1) := by decide +kernel
theorem dX6_copy_106 : decode cX6_copy 106 = .ok (.i2l, 1) := by decide +kernel
theorem dX6_copy_107 : decode cX6_copy 107 = .ok (.lcmp, 1) := by decide +kernel
theorem dX6_copy_108 : decode cX6_copy 108 = .ok (.ifCond .le 9, 3) := by decide +kernel
theorem dX6_copy_111 : decode cX6_copy 111 = .ok (.aload_n 0, 1) := by decide +kernel
theorem dX6_copy_112 : decode cX6_copy 112 = .ok (.iconst 2, 1) := by decide +kernel
theorem dX6_copy_113 : decode cX6_copy 113 = .ok (.invokevirtual 160, 3) := by decide +kernel
theorem dX6_copy_116 : decode cX6_copy 116 = .ok (.ireturn, 1) := by decide +kernel
theorem dX6_copy_117 : decode cX6_copy 117 = .ok (.iconst 0, 1) := by decide +kernel
theorem dX6_copy_118 : decode cX6_copy 118 = .ok (.istore 6, 2) := by decide +kernel
theorem dX6_copy_120 : decode cX6_copy 120 = .ok (.iload 6, 2) := by decide +kernel
theorem dX6_copy_122 : decode cX6_copy 122 = .ok (.iload 5, 2) := by decide +kernel
theorem dX6_copy_124 : decode cX6_copy 124 = .ok (.if_icmp .ge 30, 3) := by decide +kernel
theorem dX6_copy_127 : decode cX6_copy 127 = .ok (.aload_n 0, 1) := by decide +kernel
theorem dX6_copy_128 : decode cX6_copy 128 = .ok (.getfield 101, 3) := by decide +kernel
theorem dX6_copy_131 : decode cX6_copy 131 = .ok (.iload 6, 2) := by decide +kernel
theorem dX6_copy_133 : decode cX6_copy 133 = .ok (.aload_n 0, 1) := by decide +kernel
theorem dX6_copy_134 : decode cX6_copy 134 = .ok (.getfield 98, 3) := by decide +kernel
theorem dX6_copy_137 : decode cX6_copy 137 = .ok (.bipush 60, 2) := by decide +kernel
theorem dX6_copy_139 : decode cX6_copy 139 = .ok (.iload_n 1, 1) := by decide +kernel
theorem dX6_copy_140 : decode cX6_copy 140 = .ok (.imul, 1) := by decide +kernel
theorem dX6_copy_141 : decode cX6_copy 141 = .ok (.iload_n 2, 1) := by decide +kernel
theorem dX6_copy_142 : decode cX6_copy 142 = .ok (.iadd, 1) := by decide +kernel
theorem dX6_copy_143 : decode cX6_copy 143 = .ok (.iload 6, 2) := by decide +kernel
theorem dX6_copy_145 : decode cX6_copy 145 = .ok (.iadd, 1) := by decide +kernel
theorem dX6_copy_146 : decode cX6_copy 146 = .ok (.iaload, 1) := by decide +kernel
theorem dX6_copy_147 : decode cX6_copy 147 = .ok (.iastore, 1) := by decide +kernel
theorem dX6_copy_148 : decode cX6_copy 148 = .ok (.iinc 6 1, 3) := by decide +kernel
theorem dX6_copy_151 : decode cX6_copy 151 = .ok (.goto (-31), 3) := by decide +kernel
theorem dX6_copy_154 : decode cX6_copy 154 = .ok (.iconst 0, 1) := by decide +kernel
theorem dX6_copy_155 : decode cX6_copy 155 = .ok (.istore 6, 2) := by decide +kernel
theorem dX6_copy_157 : decode cX6_copy 157 = .ok (.iload 6, 2) := by decide +kernel
theorem dX6_copy_159 : decode cX6_copy 159 = .ok (.iload 5, 2) := by decide +kernel
theorem dX6_copy_161 : decode cX6_copy 161 = .ok (.if_icmp .ge 31, 3) := by decide +kernel
theorem dX6_copy_164 : decode cX6_copy 164 = .ok (.aload_n 0, 1) := by decide +kernel
theorem dX6_copy_165 : decode cX6_copy 165 = .ok (.getfield 98, 3) := by decide +kernel
theorem dX6_copy_168 : decode cX6_copy 168 = .ok (.bipush 60, 2) := by decide +kernel
theorem dX6_copy_170 : decode cX6_copy 170 = .ok (.iload_n 3, 1) := by decide +kernel
theorem dX6_copy_171 : decode cX6_copy 171 = .ok (.imul, 1) := by decide +kernel
theorem dX6_copy_172 : decode cX6_copy 172 = .ok (.iload 4, 2) := by decide +kernel
theorem dX6_copy_174 : decode cX6_copy 174 = .ok (.iadd, 1) := by decide +kernel
theorem dX6_copy_175 : decode cX6_copy 175 = .ok (.iload 6, 2) := by decide +kernel
theorem dX6_copy_177 : decode cX6_copy 177 = .ok (.iadd, 1) := by decide +kernel
theorem dX6_copy_178 : decode cX6_copy 178 = .ok (.aload_n 0, 1) := by decide +kernel
theorem dX6_copy_179 : decode cX6_copy 179 = .ok (.getfield 101, 3) := by decide +kernel
theorem dX6_copy_182 : decode cX6_copy 182 = .ok (.iload 6, 2) := by decide +kernel
theorem dX6_copy_184 : decode cX6_copy 184 = .ok (.iaload, 1) := by decide +kernel
theorem dX6_copy_185 : decode cX6_copy 185 = .ok (.iastore, 1) := by decide +kernel
theorem dX6_copy_186 : decode cX6_copy 186 = .ok (.iinc 6 1, 3) := by decide +kernel
theorem dX6_copy_189 : decode cX6_copy 189 = .ok (.goto (-32), 3) := by decide +kernel
theorem dX6_copy_192 : decode cX6_copy 192 = .ok (.iconst 1, 1) := by decide +kernel
theorem dX6_copy_193 : decode cX6_copy 193 = .ok (.ireturn, 1) := by decide +kernel
theorem dX6_write_0 : decode cX6_write 0 = .ok (.iload_n 1, 1) := by decide +kernel
theorem dX6_write_1 : decode cX6_write 1 = .ok (.invokestatic 157, 3) := by decide +kernel
theorem dX6_write_4 : decode cX6_write 4 = .ok (.ifCond .ne 6, 3) := by decide +kernel
theorem dX6_write_7 : decode cX6_write 7 = .ok (.bipush (-2), 2) := by decide +kernel
theorem dX6_write_9 : decode cX6_write 9 = .ok (.ireturn, 1) := by decide +kernel
theorem dX6_write_10 : decode cX6_write 10 = .ok (.aload_n 0, 1) := by decide +kernel
theorem dX6_write_11 : decode cX6_write 11 = .ok (.getfield 88, 3) := by decide +kernel
theorem dX6_write_14 : decode cX6_write 14 = .ok (.iload_n 1, 1) := by decide +kernel
theorem dX6_write_15 : decode cX6_write 15 = .ok (.baload, 1) := by decide +kernel
theorem dX6_write_16 : decode cX6_write 16 = .ok (.ifCond .ne 9, 3) := by decide +kernel
theorem dX6_write_19 : decode cX6_write 19 = .ok (.aload_n 0, 1) := by decide +kernel
theorem dX6_write_20 : decode cX6_write 20 = .ok (.iconst 1, 1) := by decide +kernel
theorem dX6_write_21 : decode cX6_write 21 = .ok (.invokevirtual 160, 3) := by decide +kernel
theorem dX6_write_24 : decode cX6_write 24 = .ok (.ireturn, 1) := by decide +kernel
theorem dX6_write_25 : decode cX6_write 25 = .ok (.aload_n 0, 1) := by decide +kernel
theorem dX6_write_26 : decode cX6_write 26 = .ok (.invokevirtual 194, 3) := by decide +kernel
theorem dX6_write_29 : decode cX6_write 29 = .ok (.iconst 0, 1) := by decide +kernel
theorem dX6_write_30 : decode cX6_write 30 = .ok (.istore_n 2, 1) := by decide +kernel
theorem dX6_write_31 : decode cX6_write 31 = .ok (.iload_n 2, 1) := by decide +kernel
theorem dX6_write_32 : decode cX6_write 32 = .ok (.aload_n 0, 1) := by decide +kernel
theorem dX6_write_33 : decode cX6_write 33 = .ok (.getfield 95, 3) := by decide +kernel
theorem dX6_write_36 : decode cX6_write 36 = .ok (.iload_n 1, 1) := by decide +kernel
theorem dX6_write_37 : decode cX6_write 37 = .ok (.iaload, 1) := by decide +kernel
theorem dX6_write_38 : decode cX6_write 38 = .ok (.if_icmp .ge 27, 3) := by decide +kernel
theorem dX6_write_41 : decode cX6_write 41 = .ok (.iload_n 2, 1) := by decide +kernel
theorem dX6_write_42 : decode cX6_write 42 = .ok (.bipush 40, 2) := by decide +kernel
theorem dX6_write_44 : decode cX6_write 44 = .ok (.if_icmp .ge 21, 3) := by decide +kernel
theorem dX6_write_47 : decode cX6_write 47 = .ok (.aload_n 0, 1) := by decide +kernel
theorem dX6_write_48 : decode cX6_write 48 = .ok (.iload_n 1, 1) := by decide +kernel
theorem dX6_write_49 : decode cX6_write 49 = .ok (.iload_n 2, 1) := by decide +kernel
theorem dX6_write_50 : decode cX6_write 50 = .ok (.aload_n 0, 1) := by decide +kernel
theorem dX6_write_51 : decode cX6_write 51 = .ok (.getfield 55, 3) := by decide +kernel
theorem dX6_write_54 : decode cX6_write 54 = .ok (.iload_n 2, 1) := by decide +kernel
theorem dX6_write_55 : decode cX6_write 55 = .ok (.iaload, 1) := by decide +kernel
theorem dX6_write_56 : decode cX6_write 56 = .ok (.invokevirtual 308, 3) := by decide +kernel
theorem dX6_write_59 : decode cX6_write 59 = .ok (.iinc 2 1, 3) := by decide +kernel
theorem dX6_write_62 : decode cX6_write 62 = .ok (.goto (-31), 3) := by decide +kernel
theorem dX6_write_65 : decode cX6_write 65 = .ok (.iload_n 2, 1) := by decide +kernel
theorem dX6_write_66 : decode cX6_write 66 = .ok (.ireturn, 1) := by decide +kernel
theorem dX6_count_0 : decode cX6_count 0 = .ok (.iload_n 1, 1) := by decide +kernel
theorem dX6_count_1 : decode cX6_count 1 = .ok (.tableswitch 89 0 8 #[51, 60, 65, 65, 65, 65, 65, 74, 84], 51) := by decide +kernel
theorem dX6_count_52 : decode cX6_count 52 = .ok (.aload_n 0, 1) := by decide +kernel
theorem dX6_count_53 : decode cX6_count 53 = .ok (.invokevirtual 124, 3) := by decide +kernel
theorem dX6_count_56 : decode cX6_count 56 = .ok (.aload_n 0, 1) := by decide +kernel
theorem dX6_count_57 : decode cX6_count 57 = .ok (.getfield 114, 3) := by decide +kernel
theorem dX6_count_60 : decode cX6_count 60 = .ok (.ireturn, 1) := by decide +kernel
theorem dX6_count_61 : decode cX6_count 61 = .ok (.aload_n 0, 1) := by decide +kernel
theorem dX6_count_62 : decode cX6_count 62 = .ok (.getfield 110, 3) := by decide +kernel
theorem dX6_count_65 : decode cX6_count 65 = .ok (.ireturn, 1) := by decide +kernel
theorem dX6_count_66 : decode cX6_count 66 = .ok (.aload_n 0, 1) := by decide +kernel
theorem dX6_count_67 : decode cX6_count 67 = .ok (.getfield 16, 3) := by decide +kernel
theorem dX6_count_70 : decode cX6_count 70 = .ok (.iload_n 1, 1) := by decide +kernel
theorem dX6_count_71 : decode cX6_count 71 = .ok (.iconst 2, 1) := by decide +kernel
theorem dX6_count_72 : decode cX6_count 72 = .ok (.isub, 1) := by decide +kernel
theorem dX6_count_73 : decode cX6_count 73 = .ok (.iaload, 1) := by decide +kernel
theorem dX6_count_74 : decode cX6_count 74 = .ok (.ireturn, 1) := by decide +kernel
theorem dX6_count_75 : decode cX6_count 75 = .ok (.aload_n 0, 1) := by decide +kernel
theorem dX6_count_76 : decode cX6_count 76 = .ok (.getfield 260, 3) := by decide +kernel
theorem dX6_count_79 : decode cX6_count 79 = .ok (.aload_n 0, 1) := by decide +kernel
theorem dX6_count_80 : decode cX6_count 80 = .ok (.getfield 263, 3) := by decide +kernel
theorem dX6_count_83 : decode cX6_count 83 = .ok (.iadd, 1) := by decide +kernel
theorem dX6_count_84 : decode cX6_count 84 = .ok (.ireturn, 1) := by decide +kernel
theorem dX6_count_85 : decode cX6_count 85 = .ok (.aload_n 0, 1) := by decide +kernel
theorem dX6_count_86 : decode cX6_count 86 = .ok (.getfield 302, 3) := by decide +kernel
theorem dX6_count_89 : decode cX6_count 89 = .ok (.ireturn, 1) := by decide +kernel
theorem dX6_count_90 : decode cX6_count 90 = .ok (.bipush (-2), 2) := by decide +kernel
theorem dX6_count_92 : decode cX6_count 92 = .ok (.ireturn, 1) := by decide +kernel
theorem dX6_deedDigest_0 : decode cX6_deedDigest 0 = .ok (.lload_n 1, 1) := by decide +kernel
theorem dX6_deedDigest_1 : decode cX6_deedDigest 1 = .ok (.lstore 4, 2) := by decide +kernel
theorem dX6_deedDigest_3 : decode cX6_deedDigest 3 = .ok (.iconst 0, 1) := by decide +kernel
theorem dX6_deedDigest_4 : decode cX6_deedDigest 4 = .ok (.istore 6, 2) := by decide +kernel
theorem dX6_deedDigest_6 : decode cX6_deedDigest 6 = .ok (.iload 6, 2) := by decide +kernel
theorem dX6_deedDigest_8 : decode cX6_deedDigest 8 = .ok (.iconst 3, 1) := by decide +kernel
theorem dX6_deedDigest_9 : decode cX6_deedDigest 9 = .ok (.if_icmp .ge 26, 3) := by decide +kernel
theorem dX6_deedDigest_12 : decode cX6_deedDigest 12 = .ok (.ldc2_w 312, 3) := by decide +kernel
theorem dX6_deedDigest_15 : decode cX6_deedDigest 15 = .ok (.lload 4, 2) := by decide +kernel
theorem dX6_deedDigest_17 : decode cX6_deedDigest 17 = .ok (.lmul, 1) := by decide +kernel
theorem dX6_deedDigest_18 : decode cX6_deedDigest 18 = .ok (.aload_n 0, 1) := by decide +kernel
theorem dX6_deedDigest_19 : decode cX6_deedDigest 19 = .ok (.iload_n 3, 1) := by decide +kernel
theorem dX6_deedDigest_20 : decode cX6_deedDigest 20 = .ok (.iload 6, 2) := by decide +kernel
theorem dX6_deedDigest_22 : decode cX6_deedDigest 22 = .ok (.invokevirtual 141, 3) := by decide +kernel
theorem dX6_deedDigest_25 : decode cX6_deedDigest 25 = .ok (.i2l, 1) := by decide +kernel
theorem dX6_deedDigest_26 : decode cX6_deedDigest 26 = .ok (.ladd, 1) := by decide +kernel
theorem dX6_deedDigest_27 : decode cX6_deedDigest 27 = .ok (.lstore 4, 2) := by decide +kernel
theorem dX6_deedDigest_29 : decode cX6_deedDigest 29 = .ok (.iinc 6 1, 3) := by decide +kernel
theorem dX6_deedDigest_32 : decode cX6_deedDigest 32 = .ok (.goto (-26), 3) := by decide +kernel
theorem dX6_deedDigest_35 : decode cX6_deedDigest 35 = .ok (.ldc2_w 312, 3) := by decide +kernel
theorem dX6_deedDigest_38 : decode cX6_deedDigest 38 = .ok (.lload 4, 2) := by decide +kernel
theorem dX6_deedDigest_40 : decode cX6_deedDigest 40 = .ok (.lmul, 1) := by decide +kernel
theorem dX6_deedDigest_41 : decode cX6_deedDigest 41 = .ok (.aload_n 0, 1) := by decide +kernel
theorem dX6_deedDigest_42 : decode cX6_deedDigest 42 = .ok (.iload_n 3, 1) := by decide +kernel
theorem dX6_deedDigest_43 : decode cX6_deedDigest 43 = .ok (.invokevirtual 209, 3) := by decide +kernel
theorem dX6_deedDigest_46 : decode cX6_deedDigest 46 = .ok (.i2l, 1) := by decide +kernel
theorem dX6_deedDigest_47 : decode cX6_deedDigest 47 = .ok (.ladd, 1) := by decide +kernel
theorem dX6_deedDigest_48 : decode cX6_deedDigest 48 = .ok (.lstore 4, 2) := by decide +kernel
theorem dX6_deedDigest_50 : decode cX6_deedDigest 50 = .ok (.ldc2_w 312, 3) := by decide +kernel
theorem dX6_deedDigest_53 : decode cX6_deedDigest 53 = .ok (.lload 4, 2) := by decide +kernel
theorem dX6_deedDigest_55 : decode cX6_deedDigest 55 = .ok (.lmul, 1) := by decide +kernel
theorem dX6_deedDigest_56 : decode cX6_deedDigest 56 = .ok (.aload_n 0, 1) := by decide +kernel
theorem dX6_deedDigest_57 : decode cX6_deedDigest 57 = .ok (.iload_n 3, 1) := by decide +kernel
theorem dX6_deedDigest_58 : decode cX6_deedDigest 58 = .ok (.iconst 3, 1) := by decide +kernel
theorem dX6_deedDigest_59 : decode cX6_deedDigest 59 = .ok (.iconst 5, 1) := by decide +kernel
theorem dX6_deedDigest_60 : decode cX6_deedDigest 60 = .ok (.invokevirtual 225, 3) := by decide +kernel
theorem dX6_deedDigest_63 : decode cX6_deedDigest 63 = .ok (.i2l, 1) := by decide +kernel
theorem dX6_deedDigest_64 : decode cX6_deedDigest 64 = .ok (.ladd, 1) := by decide +kernel
theorem dX6_deedDigest_65 : decode cX6_deedDigest 65 = .ok (.lstore 4, 2) := by decide +kernel
theorem dX6_deedDigest_67 : decode cX6_deedDigest 67 = .ok (.ldc2_w 312, 3) := by decide +kernel
theorem dX6_deedDigest_70 : decode cX6_deedDigest 70 = .ok (.lload 4, 2) := by decide +kernel
theorem dX6_deedDigest_72 : decode cX6_deedDigest 72 = .ok (.lmul, 1) := by decide +kernel
theorem dX6_deedDigest_73 : decode cX6_deedDigest 73 = .ok (.aload_n 0, 1) := by decide +kernel
theorem dX6_deedDigest_74 : decode cX6_deedDigest 74 = .ok (.iload_n 3, 1) := by decide +kernel
theorem dX6_deedDigest_75 : decode cX6_deedDigest 75 = .ok (.iconst 4, 1) := by decide +kernel
theorem dX6_deedDigest_76 : decode cX6_deedDigest 76 = .ok (.iconst 2, 1) := by decide +kernel
theorem dX6_deedDigest_77 : decode cX6_deedDigest 77 = .ok (.iconst 0, 1) := by decide +kernel
theorem dX6_deedDigest_78 : decode cX6_deedDigest 78 = .ok (.invokevirtual 228, 3) := by decide +kernel
theorem dX6_deedDigest_81 : decode cX6_deedDigest 81 = .ok (.i2l, 1) := by decide +kernel
theorem dX6_deedDigest_82 : decode cX6_deedDigest 82 = .ok (.ladd, 1) := by decide +kernel
theorem dX6_deedDigest_83 : decode cX6_deedDigest 83 = .ok (.lstore 4, 2) := by decide +kernel
theorem dX6_deedDigest_85 : decode cX6_deedDigest 85 = .ok (.ldc2_w 312, 3) := by decide +kernel
theorem dX6_deedDigest_88 : decode cX6_deedDigest 88 = .ok (.lload 4, 2) := by decide +kernel
theorem dX6_deedDigest_90 : decode cX6_deedDigest 90 = .ok (.lmul, 1) := by decide +kernel
theorem dX6_deedDigest_91 : decode cX6_deedDigest 91 = .ok (.aload_n 0, 1) := by decide +kernel
theorem dX6_deedDigest_92 : decode cX6_deedDigest 92 = .ok (.iload_n 3, 1) := by decide +kernel
theorem dX6_deedDigest_93 : decode cX6_deedDigest 93 = .ok (.iconst 4, 1) := by decide +kernel
theorem dX6_deedDigest_94 : decode cX6_deedDigest 94 = .ok (.iconst 2, 1) := by decide +kernel
theorem dX6_deedDigest_95 : decode cX6_deedDigest 95 = .ok (.iconst 1, 1) := by decide +kernel
theorem dX6_deedDigest_96 : decode cX6_deedDigest 96 = .ok (.invokevirtual 228, 3) := by decide +kernel
theorem dX6_deedDigest_99 : decode cX6_deedDigest 99 = .ok (.i2l, 1) := by decide +kernel
theorem dX6_deedDigest_100 : decode cX6_deedDigest 100 = .ok (.ladd, 1) := by decide +kernel
theorem dX6_deedDigest_101 : decode cX6_deedDigest 101 = .ok (.lstore 4, 2) := by decide +kernel
theorem dX6_deedDigest_103 : decode cX6_deedDigest 103 = .ok (.ldc2_w 312, 3) := by decide +kernel
theorem dX6_deedDigest_106 : decode cX6_deedDigest 106 = .ok (.lload 4, 2) := by decide +kernel
theorem dX6_deedDigest_108 : decode cX6_deedDigest 108 = .ok (.lmul, 1) := by decide +kernel
theorem dX6_deedDigest_109 : decode cX6_deedDigest 109 = .ok (.aload_n 0, 1) := by decide +kernel
theorem dX6_deedDigest_110 : decode cX6_deedDigest 110 = .ok (.iconst 5, 1) := by decide +kernel
theorem dX6_deedDigest_111 : decode cX6_deedDigest 111 = .ok (.iconst 3, 1) := by decide +kernel
theorem dX6_deedDigest_112 : decode cX6_deedDigest 112 = .ok (.iload_n 3, 1) := by decide +kernel
theorem dX6_deedDigest_113 : decode cX6_deedDigest 113 = .ok (.iconst 4, 1) := by decide +kernel
theorem dX6_deedDigest_114 : decode cX6_deedDigest 114 = .ok (.iconst 0, 1) := by decide +kernel
theorem dX6_deedDigest_115 : decode cX6_deedDigest 115 = .ok (.invokevirtual 290, 3) := by decide +kernel
theorem dX6_deedDigest_118 : decode cX6_deedDigest 118 = .ok (.ladd, 1) := by decide +kernel
theorem dX6_deedDigest_119 : decode cX6_deedDigest 119 = .ok (.lstore 4, 2) := by decide +kernel
theorem dX6_deedDigest_121 : decode cX6_deedDigest 121 = .ok (.ldc2_w 312, 3) := by decide +kernel
theorem dX6_deedDigest_124 : decode cX6_deedDigest 124 = .ok (.lload 4, 2) := by decide +kernel
theorem dX6_deedDigest_126 : decode cX6_deedDigest 126 = .ok (.lmul, 1) := by decide +kernel
theorem dX6_deedDigest_127 : decode cX6_deedDigest 127 = .ok (.aload_n 0, 1) := by decide +kernel
theorem dX6_deedDigest_128 : decode cX6_deedDigest 128 = .ok (.iconst 5, 1) := by decide +kernel
theorem dX6_deedDigest_129 : decode cX6_deedDigest 129 = .ok (.iconst 3, 1) := by decide +kernel
theorem dX6_deedDigest_130 : decode cX6_deedDigest 130 = .ok (.iload_n 3, 1) := by decide +kernel
theorem dX6_deedDigest_131 : decode cX6_deedDigest 131 = .ok (.iconst 4, 1) := by decide +kernel
theorem dX6_deedDigest_132 : decode cX6_deedDigest 132 = .ok (.iconst 1, 1) := by decide +kernel
theorem dX6_deedDigest_133 : decode cX6_deedDigest 133 = .ok (.invokevirtual 290, 3) := by decide +kernel
theorem dX6_deedDigest_136 : decode cX6_deedDigest 136 = .ok (.ladd, 1) := by decide +kernel
theorem dX6_deedDigest_137 : decode cX6_deedDigest 137 = .ok (.lreturn, 1) := by decide +kernel
theorem dX6_dayDigest_0 : decode cX6_dayDigest 0 = .ok (.ldc2_w 312, 3) := by decide +kernel
theorem dX6_dayDigest_3 : decode cX6_dayDigest 3 = .ok (.lload_n 1, 1) := by decide +kernel
theorem dX6_dayDigest_4 : decode cX6_dayDigest 4 = .ok (.lmul, 1) := by decide +kernel
theorem dX6_dayDigest_5 : decode cX6_dayDigest 5 = .ok (.aload_n 0, 1) := by decide +kernel
theorem dX6_dayDigest_6 : decode cX6_dayDigest 6 = .ok (.iload_n 3, 1) := by decide +kernel
theorem dX6_dayDigest_7 : decode cX6_dayDigest 7 = .ok (.invokevirtual 173, 3) := by decide +kernel
theorem dX6_dayDigest_10 : decode cX6_dayDigest 10 = .ok (.i2l, 1) := by decide +kernel
theorem dX6_dayDigest_11 : decode cX6_dayDigest 11 = .ok (.ladd, 1) := by decide +kernel
theorem dX6_dayDigest_12 : decode cX6_dayDigest 12 = .ok (.lstore 4, 2) := by decide +kernel
theorem dX6_dayDigest_14 : decode cX6_dayDigest 14 = .ok (.ldc2_w 312, 3) := by decide +kernel
theorem dX6_dayDigest_17 : decode cX6_dayDigest 17 = .ok (.lload 4, 2) := by decide +kernel
theorem dX6_dayDigest_19 : decode cX6_dayDigest 19 = .ok (.lmul, 1) := by decide +kernel
theorem dX6_dayDigest_20 : decode cX6_dayDigest 20 = .ok (.aload_n 0, 1) := by decide +kernel
theorem dX6_dayDigest_21 : decode cX6_dayDigest 21 = .ok (.iload_n 3, 1) := by decide +kernel
theorem dX6_dayDigest_22 : decode cX6_dayDigest 22 = .ok (.iconst 0, 1) := by decide +kernel
theorem dX6_dayDigest_23 : decode cX6_dayDigest 23 = .ok (.invokevirtual 197, 3) := by decide +kernel
theorem dX6_dayDigest_26 : decode cX6_dayDigest 26 = .ok (.i2l, 1) := by decide +kernel
theorem dX6_dayDigest_27 : decode cX6_dayDigest 27 = .ok (.ladd, 1) := by decide +kernel
theorem dX6_dayDigest_28 : decode cX6_dayDigest 28 = .ok (.lstore 4, 2) := by decide +kernel
theorem dX6_dayDigest_30 : decode cX6_dayDigest 30 = .ok (.ldc2_w 312, 3) := by decide +kernel
theorem dX6_dayDigest_33 : decode cX6_dayDigest 33 = .ok (.lload 4, 2) := by decide +kernel
theorem dX6_dayDigest_35 : decode cX6_dayDigest 35 = .ok (.lmul, 1) := by decide +kernel
theorem dX6_dayDigest_36 : decode cX6_dayDigest 36 = .ok (.aload_n 0, 1) := by decide +kernel
theorem dX6_dayDigest_37 : decode cX6_dayDigest 37 = .ok (.iload_n 3, 1) := by decide +kernel
theorem dX6_dayDigest_38 : decode cX6_dayDigest 38 = .ok (.iconst 1, 1) := by decide +kernel
theorem dX6_dayDigest_39 : decode cX6_dayDigest 39 = .ok (.invokevirtual 197, 3) := by decide +kernel
theorem dX6_dayDigest_42 : decode cX6_dayDigest 42 = .ok (.i2l, 1) := by decide +kernel
theorem dX6_dayDigest_43 : decode cX6_dayDigest 43 = .ok (.ladd, 1) := by decide +kernel
theorem dX6_dayDigest_44 : decode cX6_dayDigest 44 = .ok (.lstore 4, 2) := by decide +kernel
theorem dX6_dayDigest_46 : decode cX6_dayDigest 46 = .ok (.ldc2_w 312, 3) := by decide +kernel
theorem dX6_dayDigest_49 : decode cX6_dayDigest 49 = .ok (.lload 4, 2) := by decide +kernel
theorem dX6_dayDigest_51 : decode cX6_dayDigest 51 = .ok (.lmul, 1) := by decide +kernel
theorem dX6_dayDigest_52 : decode cX6_dayDigest 52 = .ok (.aload_n 0, 1) := by decide +kernel
theorem dX6_dayDigest_53 : decode cX6_dayDigest 53 = .ok (.iload_n 3, 1) := by decide +kernel
theorem dX6_dayDigest_54 : decode cX6_dayDigest 54 = .ok (.invokevirtual 200, 3) := by decide +kernel
theorem dX6_dayDigest_57 : decode cX6_dayDigest 57 = .ok (.i2l, 1) := by decide +kernel
theorem dX6_dayDigest_58 : decode cX6_dayDigest 58 = .ok (.ladd, 1) := by decide +kernel
theorem dX6_dayDigest_59 : decode cX6_dayDigest 59 = .ok (.lreturn, 1) := by decide +kernel
theorem dX6_digest_0 : decode cX6_digest 0 = .ok (.ldc2_w 314, 3) := by decide +kernel
theorem dX6_digest_3 : decode cX6_digest 3 = .ok (.lstore_n 1, 1) := by decide +kernel
theorem dX6_digest_4 : decode cX6_digest 4 = .ok (.iconst 0, 1) := by decide +kernel
theorem dX6_digest_5 : decode cX6_digest 5 = .ok (.istore_n 3, 1) := by decide +kernel
theorem dX6_digest_6 : decode cX6_digest 6 = .ok (.iload_n 3, 1) := by decide +kernel
theorem dX6_digest_7 : decode cX6_digest 7 = .ok (.bipush 8, 2) := by decide +kernel
theorem dX6_digest_9 : decode cX6_digest 9 = .ok (.if_icmp .ge 22, 3) := by decide +kernel
theorem dX6_digest_12 : decode cX6_digest 12 = .ok (.ldc2_w 312, 3) := by decide +kernel
theorem dX6_digest_15 : decode cX6_digest 15 = .ok (.lload_n 1, 1) := by decide +kernel
theorem dX6_digest_16 : decode cX6_digest 16 = .ok (.lmul, 1) := by decide +kernel
theorem dX6_digest_17 : decode cX6_digest 17 = .ok (.aload_n 0, 1) := by decide +kernel
theorem dX6_digest_18 : decode cX6_digest 18 = .ok (.iload_n 3, 1) := by decide +kernel
theorem dX6_digest_19 : decode cX6_digest 19 = .ok (.invokevirtual 316, 3) := by decide +kernel
theorem dX6_digest_22 : decode cX6_digest 22 = .ok (.i2l, 1) := by decide +kernel
theorem dX6_digest_23 : decode cX6_digest 23 = .ok (.ladd, 1) := by decide +kernel
theorem dX6_digest_24 : decode cX6_digest 24 = .ok (.lstore_n 1, 1) := by decide +kernel
theorem dX6_digest_25 : decode cX6_digest 25 = .ok (.iinc 3 1, 3) := by decide +kernel
theorem dX6_digest_28 : decode cX6_digest 28 = .ok (.goto (-22), 3) := by decide +kernel
theorem dX6_digest_31 : decode cX6_digest 31 = .ok (.ldc2_w 312, 3) := by decide +kernel
theorem dX6_digest_34 : decode cX6_digest 34 = .ok (.lload_n 1, 1) := by decide +kernel
theorem dX6_digest_35 : decode cX6_digest 35 = .ok (.lmul, 1) := by decide +kernel
theorem dX6_digest_36 : decode cX6_digest 36 = .ok (.aload_n 0, 1) := by decide +kernel
theorem dX6_digest_37 : decode cX6_digest 37 = .ok (.invokevirtual 120, 3) := by decide +kernel
theorem dX6_digest_40 : decode cX6_digest 40 = .ok (.i2l, 1) := by decide +kernel
theorem dX6_digest_41 : decode cX6_digest 41 = .ok (.ladd, 1) := by decide +kernel
theorem dX6_digest_42 : decode cX6_digest 42 = .ok (.lstore_n 1, 1) := by decide +kernel
theorem dX6_digest_43 : decode cX6_digest 43 = .ok (.iconst 0, 1) := by decide +kernel
theorem dX6_digest_44 : decode cX6_digest 44 = .ok (.istore_n 3, 1) := by decide +kernel
theorem dX6_digest_45 : decode cX6_digest 45 = .ok (.iload_n 3, 1) := by decide +kernel
theorem dX6_digest_46 : decode cX6_digest 46 = .ok (.aload_n 0, 1) := by decide +kernel
theorem dX6_digest_47 : decode cX6_digest 47 = .ok (.getfield 114, 3) := by decide +kernel
theorem dX6_digest_50 : decode cX6_digest 50 = .ok (.if_icmp .ge 16, 3) := by decide +kernel
theorem dX6_digest_53 : decode cX6_digest 53 = .ok (.aload_n 0, 1) := by decide +kernel
theorem dX6_digest_54 : decode cX6_digest 54 = .ok (.lload_n 1, 1) := by decide +kernel
theorem dX6_digest_55 : decode cX6_digest 55 = .ok (.iload_n 3, 1) := by decide +kernel
theorem dX6_digest_56 : decode cX6_digest 56 = .ok (.invokevirtual 319, 3) := by decide +kernel
theorem dX6_digest_59 : decode cX6_digest 59 = .ok (.lstore_n 1, 1) := by decide +kernel
theorem dX6_digest_60 : decode cX6_digest 60 = .ok (.iinc 3 1, 3) := by decide +kernel
theorem dX6_digest_63 : decode cX6_digest 63 = .ok (.goto (-18), 3) := by decide +kernel
theorem dX6_digest_66 : decode cX6_digest 66 = .ok (.aload_n 0, 1) := by decide +kernel
theorem dX6_digest_67 : decode cX6_digest 67 = .ok (.lload_n 1, 1) := by decide +kernel
theorem dX6_digest_68 : decode cX6_digest 68 = .ok (.iconst 0, 1) := by decide +kernel
theorem dX6_digest_69 : decode cX6_digest 69 = .ok (.invokevirtual 323, 3) := by decide +kernel
theorem dX6_digest_72 : decode cX6_digest 72 = .ok (.lstore_n 1, 1) := by decide +kernel
theorem dX6_digest_73 : decode cX6_digest 73 = .ok (.aload_n 0, 1) := by decide +kernel
theorem dX6_digest_74 : decode cX6_digest 74 = .ok (.lload_n 1, 1) := by decide +kernel
theorem dX6_digest_75 : decode cX6_digest 75 = .ok (.iconst 1, 1) := by decide +kernel
theorem dX6_digest_76 : decode cX6_digest 76 = .ok (.invokevirtual 323, 3) := by decide +kernel
theorem dX6_digest_79 : decode cX6_digest 79 = .ok (.lstore_n 1, 1) := by decide +kernel
theorem dX6_digest_80 : decode cX6_digest 80 = .ok (.aload_n 0, 1) := by decide +kernel
theorem dX6_digest_81 : decode cX6_digest 81 = .ok (.lload_n 1, 1) := by decide +kernel
theorem dX6_digest_82 : decode cX6_digest 82 = .ok (.bipush 6, 2) := by decide +kernel
theorem dX6_digest_84 : decode cX6_digest 84 = .ok (.invokevirtual 323, 3) := by decide +kernel
theorem dX6_digest_87 : decode cX6_digest 87 = .ok (.lstore_n 1, 1) := by decide +kernel
theorem dX6_digest_88 : decode cX6_digest 88 = .ok (.aload_n 0, 1) := by decide +kernel
theorem dX6_digest_89 : decode cX6_digest 89 = .ok (.lload_n 1, 1) := by decide +kernel
theorem dX6_digest_90 : decode cX6_digest 90 = .ok (.bipush 20, 2) := by decide +kernel
theorem dX6_digest_92 : decode cX6_digest 92 = .ok (.invokevirtual 323, 3) := by decide +kernel
theorem dX6_digest_95 : decode cX6_digest 95 = .ok (.lstore_n 1, 1) := by decide +kernel
theorem dX6_digest_96 : decode cX6_digest 96 = .ok (.aload_n 0, 1) := by decide +kernel
theorem dX6_digest_97 : decode cX6_digest 97 = .ok (.lload_n 1, 1) := by decide +kernel
theorem dX6_digest_98 : decode cX6_digest 98 = .ok (.bipush 39, 2) := by decide +kernel
theorem dX6_digest_100 : decode cX6_digest 100 = .ok (.invokevirtual 323, 3) := by decide +kernel
theorem dX6_digest_103 : decode cX6_digest 103 = .ok (.lstore_n 1, 1) := by decide +kernel
theorem dX6_digest_104 : decode cX6_digest 104 = .ok (.ldc2_w 312, 3) := by decide +kernel
theorem dX6_digest_107 : decode cX6_digest 107 = .ok (.lload_n 1, 1) := by decide +kernel
theorem dX6_digest_108 : decode cX6_digest 108 = .ok (.lmul, 1) := by decide +kernel
theorem dX6_digest_109 : decode cX6_digest 109 = .ok (.aload_n 0, 1) := by decide +kernel
theorem dX6_digest_110 : decode cX6_digest 110 = .ok (.invokevirtual 203, 3) := by decide +kernel
theorem dX6_digest_113 : decode cX6_digest 113 = .ok (.i2l, 1) := by decide +kernel
theorem dX6_digest_114 : decode cX6_digest 114 = .ok (.ladd, 1) := by decide +kernel
theorem dX6_digest_115 : decode cX6_digest 115 = .ok (.lstore_n 1, 1) := by decide +kernel
theorem dX6_digest_116 : decode cX6_digest 116 = .ok (.ldc2_w 312, 3) := by decide +kernel
theorem dX6_digest_119 : decode cX6_digest 119 = .ok (.lload_n 1, 1) := by decide +kernel
theorem dX6_digest_120 : decode cX6_digest 120 = .ok (.lmul, 1) := by decide +kernel
theorem dX6_digest_121 : decode cX6_digest 121 = .ok (.aload_n 0, 1) := by decide +kernel
theorem dX6_digest_122 : decode cX6_digest 122 = .ok (.invokevirtual 206, 3) := by decide +kernel
theorem dX6_digest_125 : decode cX6_digest 125 = .ok (.i2l, 1) := by decide +kernel
theorem dX6_digest_126 : decode cX6_digest 126 = .ok (.ladd, 1) := by decide +kernel
theorem dX6_digest_127 : decode cX6_digest 127 = .ok (.lstore_n 1, 1) := by decide +kernel
theorem dX6_digest_128 : decode cX6_digest 128 = .ok (.iconst 0, 1) := by decide +kernel
theorem dX6_digest_129 : decode cX6_digest 129 = .ok (.istore_n 3, 1) := by decide +kernel
theorem dX6_digest_130 : decode cX6_digest 130 = .ok (.iload_n 3, 1) := by decide +kernel
theorem dX6_digest_131 : decode cX6_digest 131 = .ok (.aload_n 0, 1) := by decide +kernel
theorem dX6_digest_132 : decode cX6_digest 132 = .ok (.getfield 16, 3) := by decide +kernel
theorem dX6_digest_135 : decode cX6_digest 135 = .ok (.iconst 3, 1) := by decide +kernel
theorem dX6_digest_136 : decode cX6_digest 136 = .ok (.iaload, 1) := by decide +kernel
theorem dX6_digest_137 : decode cX6_digest 137 = .ok (.if_icmp .ge 22, 3) := by decide +kernel
theorem dX6_digest_140 : decode cX6_digest 140 = .ok (.ldc2_w 312, 3) := by decide +kernel
theorem dX6_digest_143 : decode cX6_digest 143 = .ok (.lload_n 1, 1) := by decide +kernel
theorem dX6_digest_144 : decode cX6_digest 144 = .ok (.lmul, 1) := by decide +kernel
theorem dX6_digest_145 : decode cX6_digest 145 = .ok (.aload_n 0, 1) := by decide +kernel
theorem dX6_digest_146 : decode cX6_digest 146 = .ok (.iload_n 3, 1) := by decide +kernel
theorem dX6_digest_147 : decode cX6_digest 147 = .ok (.invokevirtual 215, 3) := by decide +kernel
theorem dX6_digest_150 : decode cX6_digest 150 = .ok (.i2l, 1) := by decide +kernel
theorem dX6_digest_151 : decode cX6_digest 151 = .ok (.ladd, 1) := by decide +kernel
theorem dX6_digest_152 : decode cX6_digest 152 = .ok (.lstore_n 1, 1) := by decide +kernel
theorem dX6_digest_153 : decode cX6_digest 153 = .ok (.iinc 3 1, 3) := by decide +kernel
theorem dX6_digest_156 : decode cX6_digest 156 = .ok (.goto (-26), 3) := by decide +kernel
theorem dX6_digest_159 : decode cX6_digest 159 = .ok (.ldc2_w 312, 3) := by decide +kernel
theorem dX6_digest_162 : decode cX6_digest 162 = .ok (.lload_n 1, 1) := by decide +kernel
theorem dX6_digest_163 : decode cX6_digest 163 = .ok (.lmul, 1) := by decide +kernel
theorem dX6_digest_164 : decode cX6_digest 164 = .ok (.aload_n 0, 1) := by decide +kernel
theorem dX6_digest_165 : decode cX6_digest 165 = .ok (.iconst 0, 1) := by decide +kernel
theorem dX6_digest_166 : decode cX6_digest 166 = .ok (.invokevirtual 218, 3) := by decide +kernel
theorem dX6_digest_169 : decode cX6_digest 169 = .ok (.i2l, 1) := by decide +kernel
theorem dX6_digest_170 : decode cX6_digest 170 = .ok (.ladd, 1) := by decide +kernel
theorem dX6_digest_171 : decode cX6_digest 171 = .ok (.lstore_n 1, 1) := by decide +kernel
theorem dX6_digest_172 : decode cX6_digest 172 = .ok (.ldc2_w 312, 3) := by decide +kernel
theorem dX6_digest_175 : decode cX6_digest 175 = .ok (.lload_n 1, 1) := by decide +kernel
theorem dX6_digest_176 : decode cX6_digest 176 = .ok (.lmul, 1) := by decide +kernel
theorem dX6_digest_177 : decode cX6_digest 177 = .ok (.aload_n 0, 1) := by decide +kernel
theorem dX6_digest_178 : decode cX6_digest 178 = .ok (.iconst 1, 1) := by decide +kernel
theorem dX6_digest_179 : decode cX6_digest 179 = .ok (.invokevirtual 218, 3) := by decide +kernel
theorem dX6_digest_182 : decode cX6_digest 182 = .ok (.i2l, 1) := by decide +kernel
theorem dX6_digest_183 : decode cX6_digest 183 = .ok (.ladd, 1) := by decide +kernel
theorem dX6_digest_184 : decode cX6_digest 184 = .ok (.lstore_n 1, 1) := by decide +kernel
theorem dX6_digest_185 : decode cX6_digest 185 = .ok (.ldc2_w 312, 3) := by decide +kernel
theorem dX6_digest_188 : decode cX6_digest 188 = .ok (.lload_n 1, 1) := by decide +kernel
theorem dX6_digest_189 : decode cX6_digest 189 = .ok (.lmul, 1) := by decide +kernel
theorem dX6_digest_190 : decode cX6_digest 190 = .ok (.aload_n 0, 1) := by decide +kernel
theorem dX6_digest_191 : decode cX6_digest 191 = .ok (.iconst 2, 1) := by decide +kernel
theorem dX6_digest_192 : decode cX6_digest 192 = .ok (.iconst (-1), 1) := by decide +kernel
theorem dX6_digest_193 : decode cX6_digest 193 = .ok (.invokevirtual 235, 3) := by decide +kernel
theorem dX6_digest_196 : decode cX6_digest 196 = .ok (.i2l, 1) := by decide +kernel
theorem dX6_digest_197 : decode cX6_digest 197 = .ok (.ladd, 1) := by decide +kernel
theorem dX6_digest_198 : decode cX6_digest 198 = .ok (.lstore_n 1, 1) := by decide +kernel
theorem dX6_digest_199 : decode cX6_digest 199 = .ok (.ldc2_w 312, 3) := by decide +kernel
theorem dX6_digest_202 : decode cX6_digest 202 = .ok (.lload_n 1, 1) := by decide +kernel
theorem dX6_digest_203 : decode cX6_digest 203 = .ok (.lmul, 1) := by decide +kernel
theorem dX6_digest_204 : decode cX6_digest 204 = .ok (.aload_n 0, 1) := by decide +kernel
theorem dX6_digest_205 : decode cX6_digest 205 = .ok (.iconst 2, 1) := by decide +kernel
theorem dX6_digest_206 : decode cX6_digest 206 = .ok (.iconst 0, 1) := by decide +kernel
theorem dX6_digest_207 : decode cX6_digest 207 = .ok (.invokevirtual 235, 3) := by decide +kernel
theorem dX6_digest_210 : decode cX6_digest 210 = .ok (.i2l, 1) := by decide +kernel
theorem dX6_digest_211 : decode cX6_digest 211 = .ok (.ladd, 1) := by decide +kernel
theorem dX6_digest_212 : decode cX6_digest 212 = .ok (.lstore_n 1, 1) := by decide +kernel
theorem dX6_digest_213 : decode cX6_digest 213 = .ok (.ldc2_w 312, 3) := by decide +kernel
theorem dX6_digest_216 : decode cX6_digest 216 = .ok (.lload_n 1, 1) := by decide +kernel
theorem dX6_digest_217 : decode cX6_digest 217 = .ok (.lmul, 1) := by decide +kernel
theorem dX6_digest_218 : decode cX6_digest 218 = .ok (.aload_n 0, 1) := by decide +kernel
theorem dX6_digest_219 : decode cX6_digest 219 = .ok (.iconst 2, 1) := by decide +kernel
theorem dX6_digest_220 : decode cX6_digest 220 = .ok (.iconst (-1), 1) := by decide +kernel
theorem dX6_digest_221 : decode cX6_digest 221 = .ok (.invokevirtual 241, 3) := by decide +kernel
theorem dX6_digest_224 : decode cX6_digest 224 = .ok (.i2l, 1) := by decide +kernel
theorem dX6_digest_225 : decode cX6_digest 225 = .ok (.ladd, 1) := by decide +kernel
theorem dX6_digest_226 : decode cX6_digest 226 = .ok (.lstore_n 1, 1) := by decide +kernel
theorem dX6_digest_227 : decode cX6_digest 227 = .ok (.ldc2_w 312, 3) := by decide +kernel
theorem dX6_digest_230 : decode cX6_digest 230 = .ok (.lload_n 1, 1) := by decide +kernel
theorem dX6_digest_231 : decode cX6_digest 231 = .ok (.lmul, 1) := by decide +kernel
theorem dX6_digest_232 : decode cX6_digest 232 = .ok (.aload_n 0, 1) := by decide +kernel
theorem dX6_digest_233 : decode cX6_digest 233 = .ok (.iconst 2, 1) := by decide +kernel
theorem dX6_digest_234 : decode cX6_digest 234 = .ok (.iconst 0, 1) := by decide +kernel
theorem dX6_digest_235 : decode cX6_digest 235 = .ok (.invokevirtual 241, 3) := by decide +kernel
theorem dX6_digest_238 : decode cX6_digest 238 = .ok (.i2l, 1) := by decide +kernel
theorem dX6_digest_239 : decode cX6_digest 239 = .ok (.ladd, 1) := by decide +kernel
theorem dX6_digest_240 : decode cX6_digest 240 = .ok (.lstore_n 1, 1) := by decide +kernel
theorem dX6_digest_241 : decode cX6_digest 241 = .ok (.ldc2_w 312, 3) := by decide +kernel
theorem dX6_digest_244 : decode cX6_digest 244 = .ok (.lload_n 1, 1) := by decide +kernel
theorem dX6_digest_245 : decode cX6_digest 245 = .ok (.lmul, 1) := by decide +kernel
theorem dX6_digest_246 : decode cX6_digest 246 = .ok (.aload_n 0, 1) := by decide +kernel
theorem dX6_digest_247 : decode cX6_digest 247 = .ok (.iconst 4, 1) := by decide +kernel
theorem dX6_digest_248 : decode cX6_digest 248 = .ok (.iconst 2, 1) := by decide +kernel
theorem dX6_digest_249 : decode cX6_digest 249 = .ok (.iconst 0, 1) := by decide +kernel
theorem dX6_digest_250 : decode cX6_digest 250 = .ok (.invokevirtual 257, 3) := by decide +kernel
theorem dX6_digest_253 : decode cX6_digest 253 = .ok (.i2l, 1) := by decide +kernel
theorem dX6_digest_254 : decode cX6_digest 254 = .ok (.ladd, 1) := by decide +kernel
theorem dX6_digest_255 : decode cX6_digest 255 = .ok (.lstore_n 1, 1) := by decide +kernel
theorem dX6_digest_256 : decode cX6_digest 256 = .ok (.ldc2_w 312, 3) := by decide +kernel
theorem dX6_digest_259 : decode cX6_digest 259 = .ok (.lload_n 1, 1) := by decide +kernel
theorem dX6_digest_260 : decode cX6_digest 260 = .ok (.lmul, 1) := by decide +kernel
theorem dX6_digest_261 : decode cX6_digest 261 = .ok (.aload_n 0, 1) := by decide +kernel
theorem dX6_digest_262 : decode cX6_digest 262 = .ok (.iconst 4, 1) := by decide +kernel
theorem dX6_digest_263 : decode cX6_digest 263 = .ok (.iconst 2, 1) := by decide +kernel
theorem dX6_digest_264 : decode cX6_digest 264 = .ok (.iconst 1, 1) := by decide +kernel
theorem dX6_digest_265 : decode cX6_digest 265 = .ok (.invokevirtual 257, 3) := by decide +kernel
theorem dX6_digest_268 : decode cX6_digest 268 = .ok (.i2l, 1) := by decide +kernel
theorem dX6_digest_269 : decode cX6_digest 269 = .ok (.ladd, 1) := by decide +kernel
theorem dX6_digest_270 : decode cX6_digest 270 = .ok (.lstore_n 1, 1) := by decide +kernel
theorem dX6_digest_271 : decode cX6_digest 271 = .ok (.ldc2_w 312, 3) := by decide +kernel
theorem dX6_digest_274 : decode cX6_digest 274 = .ok (.lload_n 1, 1) := by decide +kernel
theorem dX6_digest_275 : decode cX6_digest 275 = .ok (.lmul, 1) := by decide +kernel
theorem dX6_digest_276 : decode cX6_digest 276 = .ok (.aload_n 0, 1) := by decide +kernel
theorem dX6_digest_277 : decode cX6_digest 277 = .ok (.iconst (-1), 1) := by decide +kernel
theorem dX6_digest_278 : decode cX6_digest 278 = .ok (.invokevirtual 272, 3) := by decide +kernel
theorem dX6_digest_281 : decode cX6_digest 281 = .ok (.i2l, 1) := by decide +kernel
theorem dX6_digest_282 : decode cX6_digest 282 = .ok (.ladd, 1) := by decide +kernel
theorem dX6_digest_283 : decode cX6_digest 283 = .ok (.lstore_n 1, 1) := by decide +kernel
theorem dX6_digest_284 : decode cX6_digest 284 = .ok (.ldc2_w 312, 3) := by decide +kernel
theorem dX6_digest_287 : decode cX6_digest 287 = .ok (.lload_n 1, 1) := by decide +kernel
theorem dX6_digest_288 : decode cX6_digest 288 = .ok (.lmul, 1) := by decide +kernel
theorem dX6_digest_289 : decode cX6_digest 289 = .ok (.aload_n 0, 1) := by decide +kernel
theorem dX6_digest_290 : decode cX6_digest 290 = .ok (.iconst 0, 1) := by decide +kernel
theorem dX6_digest_291 : decode cX6_digest 291 = .ok (.invokevirtual 272, 3) := by decide +kernel
theorem dX6_digest_294 : decode cX6_digest 294 = .ok (.i2l, 1) := by decide +kernel
theorem dX6_digest_295 : decode cX6_digest 295 = .ok (.ladd, 1) := by decide +kernel
theorem dX6_digest_296 : decode cX6_digest 296 = .ok (.lstore_n 1, 1) := by decide +kernel
theorem dX6_digest_297 : decode cX6_digest 297 = .ok (.ldc2_w 312, 3) := by decide +kernel
theorem dX6_digest_300 : decode cX6_digest 300 = .ok (.lload_n 1, 1) := by decide +kernel
theorem dX6_digest_301 : decode cX6_digest 301 = .ok (.lmul, 1) := by decide +kernel
theorem dX6_digest_302 : decode cX6_digest 302 = .ok (.aload_n 0, 1) := by decide +kernel
theorem dX6_digest_303 : decode cX6_digest 303 = .ok (.invokevirtual 275, 3) := by decide +kernel
theorem dX6_digest_306 : decode cX6_digest 306 = .ok (.i2l, 1) := by decide +kernel
theorem dX6_digest_307 : decode cX6_digest 307 = .ok (.ladd, 1) := by decide +kernel
theorem dX6_digest_308 : decode cX6_digest 308 = .ok (.lstore_n 1, 1) := by decide +kernel
theorem dX6_digest_309 : decode cX6_digest 309 = .ok (.ldc2_w 312, 3) := by decide +kernel
theorem dX6_digest_312 : decode cX6_digest 312 = .ok (.lload_n 1, 1) := by decide +kernel
theorem dX6_digest_313 : decode cX6_digest 313 = .ok (.lmul, 1) := by decide +kernel
theorem dX6_digest_314 : decode cX6_digest 314 = .ok (.aload_n 0, 1) := by decide +kernel
theorem dX6_digest_315 : decode cX6_digest 315 = .ok (.invokevirtual 278, 3) := by decide +kernel
theorem dX6_digest_318 : decode cX6_digest 318 = .ok (.i2l, 1) := by decide +kernel
theorem dX6_digest_319 : decode cX6_digest 319 = .ok (.ladd, 1) := by decide +kernel
theorem dX6_digest_320 : decode cX6_digest 320 = .ok (.lstore_n 1, 1) := by decide +kernel
theorem dX6_digest_321 : decode cX6_digest 321 = .ok (.ldc2_w 312, 3) := by decide +kernel
theorem dX6_digest_324 : decode cX6_digest 324 = .ok (.lload_n 1, 1) := by decide +kernel
theorem dX6_digest_325 : decode cX6_digest 325 = .ok (.lmul, 1) := by decide +kernel
theorem dX6_digest_326 : decode cX6_digest 326 = .ok (.aload_n 0, 1) := by decide +kernel
theorem dX6_digest_327 : decode cX6_digest 327 = .ok (.bipush 7, 2) := by decide +kernel
theorem dX6_digest_329 : decode cX6_digest 329 = .ok (.bipush 30, 2) := by decide +kernel
theorem dX6_digest_331 : decode cX6_digest 331 = .ok (.iconst 0, 1) := by decide +kernel
theorem dX6_digest_332 : decode cX6_digest 332 = .ok (.invokevirtual 299, 3) := by decide +kernel
theorem dX6_digest_335 : decode cX6_digest 335 = .ok (.i2l, 1) := by decide +kernel
theorem dX6_digest_336 : decode cX6_digest 336 = .ok (.ladd, 1) := by decide +kernel
theorem dX6_digest_337 : decode cX6_digest 337 = .ok (.lstore_n 1, 1) := by decide +kernel
theorem dX6_digest_338 : decode cX6_digest 338 = .ok (.ldc2_w 312, 3) := by decide +kernel
theorem dX6_digest_341 : decode cX6_digest 341 = .ok (.lload_n 1, 1) := by decide +kernel
theorem dX6_digest_342 : decode cX6_digest 342 = .ok (.lmul, 1) := by decide +kernel
theorem dX6_digest_343 : decode cX6_digest 343 = .ok (.aload_n 0, 1) := by decide +kernel
theorem dX6_digest_344 : decode cX6_digest 344 = .ok (.bipush 7, 2) := by decide +kernel
theorem dX6_digest_346 : decode cX6_digest 346 = .ok (.bipush 30, 2) := by decide +kernel
theorem dX6_digest_348 : decode cX6_digest 348 = .ok (.iconst 1, 1) := by decide +kernel
theorem dX6_digest_349 : decode cX6_digest 349 = .ok (.invokevirtual 299, 3) := by decide +kernel
theorem dX6_digest_352 : decode cX6_digest 352 = .ok (.i2l, 1) := by decide +kernel
theorem dX6_digest_353 : decode cX6_digest 353 = .ok (.ladd, 1) := by decide +kernel
theorem dX6_digest_354 : decode cX6_digest 354 = .ok (.lreturn, 1) := by decide +kernel
