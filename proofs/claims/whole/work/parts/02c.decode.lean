theorem dX10_init_0 : decode cX10_init 0 = .ok (.aload_n 0, 1) := by decide +kernel
theorem dX10_init_1 : decode cX10_init 1 = .ok (.invokespecial 1, 3) := by decide +kernel
theorem dX10_init_4 : decode cX10_init 4 = .ok (.aload_n 0, 1) := by decide +kernel
theorem dX10_init_5 : decode cX10_init 5 = .ok (.iconst 2, 1) := by decide +kernel
theorem dX10_init_6 : decode cX10_init 6 = .ok (.newarray .int, 2) := by decide +kernel
theorem dX10_init_8 : decode cX10_init 8 = .ok (.putfield 7, 3) := by decide +kernel
theorem dX10_init_11 : decode cX10_init 11 = .ok (.aload_n 0, 1) := by decide +kernel
theorem dX10_init_12 : decode cX10_init 12 = .ok (.bipush 78, 2) := by decide +kernel
theorem dX10_init_14 : decode cX10_init 14 = .ok (.newarray .int, 2) := by decide +kernel
theorem dX10_init_16 : decode cX10_init 16 = .ok (.putfield 13, 3) := by decide +kernel
theorem dX10_init_19 : decode cX10_init 19 = .ok (.aload_n 0, 1) := by decide +kernel
theorem dX10_init_20 : decode cX10_init 20 = .ok (.bipush 9, 2) := by decide +kernel
theorem dX10_init_22 : decode cX10_init 22 = .ok (.newarray .int, 2) := by decide +kernel
theorem dX10_init_24 : decode cX10_init 24 = .ok (.putfield 16, 3) := by decide +kernel
theorem dX10_init_27 : decode cX10_init 27 = .ok (.aload_n 0, 1) := by decide +kernel
theorem dX10_init_28 : decode cX10_init 28 = .ok (.bipush 9, 2) := by decide +kernel
theorem dX10_init_30 : decode cX10_init 30 = .ok (.newarray .int, 2) := by decide +kernel
theorem dX10_init_32 : decode cX10_init 32 = .ok (.putfield 19, 3) := by decide +kernel
theorem dX10_init_35 : decode cX10_init 35 = .ok (.aload_n 0, 1) := by decide +kernel
theorem dX10_init_36 : decode cX10_init 36 = .ok (.bipush 9, 2) := by decide +kernel
theorem dX10_init_38 : decode cX10_init 38 = .ok (.newarray .int, 2) := by decide +kernel
theorem dX10_init_40 : decode cX10_init 40 = .ok (.putfield 22, 3) := by decide +kernel
theorem dX10_init_43 : decode cX10_init 43 = .ok (.aload_n 0, 1) := by decide +kernel
theorem dX10_init_44 : decode cX10_init 44 = .ok (.bipush 9, 2) := by decide +kernel
theorem dX10_init_46 : decode cX10_init 46 = .ok (.newarray .int, 2) := by decide +kernel
theorem dX10_init_48 : decode cX10_init 48 = .ok (.putfield 25, 3) := by decide +kernel
theorem dX10_init_51 : decode cX10_init 51 = .ok (.aload_n 0, 1) := by decide +kernel
theorem dX10_init_52 : decode cX10_init 52 = .ok (.bipush 9, 2) := by decide +kernel
theorem dX10_init_54 : decode cX10_init 54 = .ok (.newarray .int, 2) := by decide +kernel
theorem dX10_init_56 : decode cX10_init 56 = .ok (.putfield 28, 3) := by decide +kernel
theorem dX10_init_59 : decode cX10_init 59 = .ok (.aload_n 0, 1) := by decide +kernel
theorem dX10_init_60 : decode cX10_init 60 = .ok (.bipush 9, 2) := by decide +kernel
theorem dX10_init_62 : decode cX10_init 62 = .ok (.newarray .int, 2) := by decide +kernel
theorem dX10_init_64 : decode cX10_init 64 = .ok (.putfield 31, 3) := by decide +kernel
theorem dX10_init_67 : decode cX10_init 67 = .ok (.aload_n 0, 1) := by decide +kernel
theorem dX10_init_68 : decode cX10_init 68 = .ok (.bipush 9, 2) := by decide +kernel
theorem dX10_init_70 : decode cX10_init 70 = .ok (.newarray .int, 2) := by decide +kernel
theorem dX10_init_72 : decode cX10_init 72 = .ok (.putfield 34, 3) := by decide +kernel
theorem dX10_init_75 : decode cX10_init 75 = .ok (.aload_n 0, 1) := by decide +kernel
theorem dX10_init_76 : decode cX10_init 76 = .ok (.bipush 9, 2) := by decide +kernel
theorem dX10_init_78 : decode cX10_init 78 = .ok (.newarray .int, 2) := by decide +kernel
theorem dX10_init_80 : decode cX10_init 80 = .ok (.putfield 37, 3) := by decide +kernel
theorem dX10_init_83 : decode cX10_init 83 = .ok (.aload_n 0, 1) := by decide +kernel
theorem dX10_init_84 : decode cX10_init 84 = .ok (.bipush 9, 2) := by decide +kernel
theorem dX10_init_86 : decode cX10_init 86 = .ok (.newarray .int, 2) := by decide +kernel
theorem dX10_init_88 : decode cX10_init 88 = .ok (.putfield 40, 3) := by decide +kernel
theorem dX10_init_91 : decode cX10_init 91 = .ok (.aload_n 0, 1) := by decide +kernel
theorem dX10_init_92 : decode cX10_init 92 = .ok (.bipush 9, 2) := by decide +kernel
theorem dX10_init_94 : decode cX10_init 94 = .ok (.newarray .int, 2) := by decide +kernel
theorem dX10_init_96 : decode cX10_init 96 = .ok (.putfield 43, 3) := by decide +kernel
theorem dX10_init_99 : decode cX10_init 99 = .ok (.aload_n 0, 1) := by decide +kernel
theorem dX10_init_100 : decode cX10_init 100 = .ok (.bipush 9, 2) := by decide +kernel
theorem dX10_init_102 : decode cX10_init 102 = .ok (.newarray .int, 2) := by decide +kernel
theorem dX10_init_104 : decode cX10_init 104 = .ok (.putfield 46, 3) := by decide +kernel
theorem dX10_init_107 : decode cX10_init 107 = .ok (.aload_n 0, 1) := by decide +kernel
theorem dX10_init_108 : decode cX10_init 108 = .ok (.bipush 9, 2) := by decide +kernel
theorem dX10_init_110 : decode cX10_init 110 = .ok (.newarray .int, 2) := by decide +kernel
theorem dX10_init_112 : decode cX10_init 112 = .ok (.putfield 49, 3) := by decide +kernel
theorem dX10_init_115 : decode cX10_init 115 = .ok (.aload_n 0, 1) := by decide +kernel
theorem dX10_init_116 : decode cX10_init 116 = .ok (.bipush 9, 2) := by decide +kernel
theorem dX10_init_118 : decode cX10_init 118 = .ok (.newarray .int, 2) := by decide +kernel
theorem dX10_init_120 : decode cX10_init 120 = .ok (.putfield 52, 3) := by decide +kernel
theorem dX10_init_123 : decode cX10_init 123 = .ok (.aload_n 0, 1) := by decide +kernel
theorem dX10_init_124 : decode cX10_init 124 = .ok (.bipush 8, 2) := by decide +kernel
theorem dX10_init_126 : decode cX10_init 126 = .ok (.newarray .int, 2) := by decide +kernel
theorem dX10_init_128 : decode cX10_init 128 = .ok (.putfield 55, 3) := by decide +kernel
theorem dX10_init_131 : decode cX10_init 131 = .ok (.aload_n 0, 1) := by decide +kernel
theorem dX10_init_132 : decode cX10_init 132 = .ok (.bipush 8, 2) := by decide +kernel
theorem dX10_init_134 : decode cX10_init 134 = .ok (.newarray .int, 2) := by decide +kernel
theorem dX10_init_136 : decode cX10_init 136 = .ok (.putfield 58, 3) := by decide +kernel
theorem dX10_init_139 : decode cX10_init 139 = .ok (.aload_n 0, 1) := by decide +kernel
theorem dX10_init_140 : decode cX10_init 140 = .ok (.sipush 192, 3) := by decide +kernel
theorem dX10_init_143 : decode cX10_init 143 = .ok (.newarray .int, 2) := by decide +kernel
theorem dX10_init_145 : decode cX10_init 145 = .ok (.putfield 61, 3) := by decide +kernel
theorem dX10_init_148 : decode cX10_init 148 = .ok (.aload_n 0, 1) := by decide +kernel
theorem dX10_init_149 : decode cX10_init 149 = .ok (.sipush 192, 3) := by decide +kernel
theorem dX10_init_152 : decode cX10_init 152 = .ok (.newarray .int, 2) := by decide +kernel
theorem dX10_init_154 : decode cX10_init 154 = .ok (.putfield 64, 3) := by decide +kernel
theorem dX10_init_157 : decode cX10_init 157 = .ok (.aload_n 0, 1) := by decide +kernel
theorem dX10_init_158 : decode cX10_init 158 = .ok (.bipush 24, 2) := by decide +kernel
theorem dX10_init_160 : decode cX10_init 160 = .ok (.newarray .int, 2) := by decide +kernel
theorem dX10_init_162 : decode cX10_init 162 = .ok (.putfield 67, 3) := by decide +kernel
theorem dX10_init_165 : decode cX10_init 165 = .ok (.aload_n 0, 1) := by decide +kernel
theorem dX10_init_166 : decode cX10_init 166 = .ok (.bipush 24, 2) := by decide +kernel
theorem dX10_init_168 : decode cX10_init 168 = .ok (.newarray .int, 2) := by decide +kernel
theorem dX10_init_170 : decode cX10_init 170 = .ok (.putfield 70, 3) := by decide +kernel
theorem dX10_init_173 : decode cX10_init 173 = .ok (.aload_n 0, 1) := by decide +kernel
theorem dX10_init_174 : decode cX10_init 174 = .ok (.iconst 2, 1) := by decide +kernel
theorem dX10_init_175 : decode cX10_init 175 = .ok (.newarray .int, 2) := by decide +kernel
theorem dX10_init_177 : decode cX10_init 177 = .ok (.putfield 73, 3) := by decide +kernel
theorem dX10_init_180 : decode cX10_init 180 = .ok (.aload_n 0, 1) := by decide +kernel
theorem dX10_init_181 : decode cX10_init 181 = .ok (.bipush 8, 2) := by decide +kernel
theorem dX10_init_183 : decode cX10_init 183 = .ok (.newarray .int, 2) := by decide +kernel
theorem dX10_init_185 : decode cX10_init 185 = .ok (.putfield 76, 3) := by decide +kernel
theorem dX10_init_188 : decode cX10_init 188 = .ok (.aload_n 0, 1) := by decide +kernel
theorem dX10_init_189 : decode cX10_init 189 = .ok (.bipush 8, 2) := by decide +kernel
theorem dX10_init_191 : decode cX10_init 191 = .ok (.newarray .int, 2) := by decide +kernel
theorem dX10_init_193 : decode cX10_init 193 = .ok (.putfield 79, 3) := by decide +kernel
theorem dX10_init_196 : decode cX10_init 196 = .ok (.aload_n 0, 1) := by decide +kernel
theorem dX10_init_197 : decode cX10_init 197 = .ok (.bipush 8, 2) := by decide +kernel
theorem dX10_init_199 : decode cX10_init 199 = .ok (.newarray .int, 2) := by decide +kernel
theorem dX10_init_201 : decode cX10_init 201 = .ok (.putfield 82, 3) := by decide +kernel
theorem dX10_init_204 : decode cX10_init 204 = .ok (.aload_n 0, 1) := by decide +kernel
theorem dX10_init_205 : decode cX10_init 205 = .ok (.sipush 240, 3) := by decide +kernel
theorem dX10_init_208 : decode cX10_init 208 = .ok (.newarray .int, 2) := by decide +kernel
theorem dX10_init_210 : decode cX10_init 210 = .ok (.putfield 85, 3) := by decide +kernel
theorem dX10_init_213 : decode cX10_init 213 = .ok (.aload_n 0, 1) := by decide +kernel
theorem dX10_init_214 : decode cX10_init 214 = .ok (.iconst 4, 1) := by decide +kernel
theorem dX10_init_215 : decode cX10_init 215 = .ok (.newarray .boolean, 2) := by decide +kernel
theorem dX10_init_217 : decode cX10_init 217 = .ok (.putfield 88, 3) := by decide +kernel
theorem dX10_init_220 : decode cX10_init 220 = .ok (.aload_n 0, 1) := by decide +kernel
theorem dX10_init_221 : decode cX10_init 221 = .ok (.iconst 4, 1) := by decide +kernel
theorem dX10_init_222 : decode cX10_init 222 = .ok (.newarray .int, 2) := by decide +kernel
theorem dX10_init_224 : decode cX10_init 224 = .ok (.putfield 92, 3) := by decide +kernel
theorem dX10_init_227 : decode cX10_init 227 = .ok (.aload_n 0, 1) := by decide +kernel
theorem dX10_init_228 : decode cX10_init 228 = .ok (.iconst 4, 1) := by decide +kernel
theorem dX10_init_229 : decode cX10_init 229 = .ok (.newarray .int, 2) := by decide +kernel
theorem dX10_init_231 : decode cX10_init 231 = .ok (.putfield 95, 3) := by decide +kernel
theorem dX10_init_234 : decode cX10_init 234 = .ok (.aload_n 0, 1) := by decide +kernel
theorem dX10_init_235 : decode cX10_init 235 = .ok (.sipush 240, 3) := by decide +kernel
theorem dX10_init_238 : decode cX10_init 238 = .ok (.newarray .int, 2) := by decide +kernel
theorem dX10_init_240 : decode cX10_init 240 = .ok (.putfield 98, 3) := by decide +kernel
theorem dX10_init_243 : decode cX10_init 243 = .ok (.aload_n 0, 1) := by decide +kernel
theorem dX10_init_244 : decode cX10_init 244 = .ok (.bipush 60, 2) := by decide +kernel
theorem dX10_init_246 : decode cX10_init 246 = .ok (.newarray .int, 2) := by decide +kernel
theorem dX10_init_248 : decode cX10_init 248 = .ok (.putfield 101, 3) := by decide +kernel
theorem dX10_init_251 : decode cX10_init 251 = .ok (.return_, 1) := by decide +kernel
theorem dX10_in_0 : decode cX10_in 0 = .ok (.iload_n 0, 1) := by decide +kernel
theorem dX10_in_1 : decode cX10_in 1 = .ok (.iload_n 1, 1) := by decide +kernel
theorem dX10_in_2 : decode cX10_in 2 = .ok (.if_icmp .lt 12, 3) := by decide +kernel
theorem dX10_in_5 : decode cX10_in 5 = .ok (.iload_n 0, 1) := by decide +kernel
theorem dX10_in_6 : decode cX10_in 6 = .ok (.iload_n 2, 1) := by decide +kernel
theorem dX10_in_7 : decode cX10_in 7 = .ok (.if_icmp .gt 7, 3) := by decide +kernel
theorem dX10_in_10 : decode cX10_in 10 = .ok (.iconst 1, 1) := by decide +kernel
theorem dX10_in_11 : decode cX10_in 11 = .ok (.goto 4, 3) := by decide +kernel
theorem dX10_in_14 : decode cX10_in 14 = .ok (.iconst 0, 1) := by decide +kernel
theorem dX10_in_15 : decode cX10_in 15 = .ok (.ireturn, 1) := by decide +kernel
theorem dX10_isIn_0 : decode cX10_isIn 0 = .ok (.iload_n 0, 1) := by decide +kernel
theorem dX10_isIn_1 : decode cX10_isIn 1 = .ok (.iload_n 1, 1) := by decide +kernel
theorem dX10_isIn_2 : decode cX10_isIn 2 = .ok (.ishr, 1) := by decide +kernel
theorem dX10_isIn_3 : decode cX10_isIn 3 = .ok (.iconst 1, 1) := by decide +kernel
theorem dX10_isIn_4 : decode cX10_isIn 4 = .ok (.iand, 1) := by decide +kernel
theorem dX10_isIn_5 : decode cX10_isIn 5 = .ok (.iconst 1, 1) := by decide +kernel
theorem dX10_isIn_6 : decode cX10_isIn 6 = .ok (.if_icmp .ne 7, 3) := by decide +kernel
theorem dX10_isIn_9 : decode cX10_isIn 9 = .ok (.iconst 1, 1) := by decide +kernel
theorem dX10_isIn_10 : decode cX10_isIn 10 = .ok (.goto 4, 3) := by decide +kernel
theorem dX10_isIn_13 : decode cX10_isIn 13 = .ok (.iconst 0, 1) := by decide +kernel
theorem dX10_isIn_14 : decode cX10_isIn 14 = .ok (.ireturn, 1) := by decide +kernel
theorem dX10_no_0 : decode cX10_no 0 = .ok (.ldc2_w 104, 3) := by decide +kernel
theorem dX10_no_3 : decode cX10_no 3 = .ok (.iload_n 0, 1) := by decide +kernel
theorem dX10_no_4 : decode cX10_no 4 = .ok (.i2l, 1) := by decide +kernel
theorem dX10_no_5 : decode cX10_no 5 = .ok (.lsub, 1) := by decide +kernel
theorem dX10_no_6 : decode cX10_no 6 = .ok (.lreturn, 1) := by decide +kernel
theorem dX10_lowest_0 : decode cX10_lowest 0 = .ok (.lload_n 0, 1) := by decide +kernel
theorem dX10_lowest_1 : decode cX10_lowest 1 = .ok (.lstore 5, 2) := by decide +kernel
theorem dX10_lowest_3 : decode cX10_lowest 3 = .ok (.lload_n 2, 1) := by decide +kernel
theorem dX10_lowest_4 : decode cX10_lowest 4 = .ok (.lstore 7, 2) := by decide +kernel
theorem dX10_lowest_6 : decode cX10_lowest 6 = .ok (.lload 7, 2) := by decide +kernel
theorem dX10_lowest_8 : decode cX10_lowest 8 = .ok (.lconst 0, 1) := by decide +kernel
theorem dX10_lowest_9 : decode cX10_lowest 9 = .ok (.lcmp, 1) := by decide +kernel
theorem dX10_lowest_10 : decode cX10_lowest 10 = .ok (.ifCond .eq 21, 3) := by decide +kernel
theorem dX10_lowest_13 : decode cX10_lowest 13 = .ok (.lload 5, 2) := by decide +kernel
theorem dX10_lowest_15 : decode cX10_lowest 15 = .ok (.lload 7, 2) := by decide +kernel
theorem dX10_lowest_17 : decode cX10_lowest 17 = .ok (.lrem, 1) := by decide +kernel
theorem dX10_lowest_18 : decode cX10_lowest 18 = .ok (.lstore 9, 2) := by decide +kernel
theorem dX10_lowest_20 : decode cX10_lowest 20 = .ok (.lload 7, 2) := by decide +kernel
theorem dX10_lowest_22 : decode cX10_lowest 22 = .ok (.lstore 5, 2) := by decide +kernel
theorem dX10_lowest_24 : decode cX10_lowest 24 = .ok (.lload 9, 2) := by decide +kernel
theorem dX10_lowest_26 : decode cX10_lowest 26 = .ok (.lstore 7, 2) := by decide +kernel
theorem dX10_lowest_28 : decode cX10_lowest 28 = .ok (.goto (-22), 3) := by decide +kernel
theorem dX10_lowest_31 : decode cX10_lowest 31 = .ok (.iload 4, 2) := by decide +kernel
theorem dX10_lowest_33 : decode cX10_lowest 33 = .ok (.ifCond .ne 10, 3) := by decide +kernel
theorem dX10_lowest_36 : decode cX10_lowest 36 = .ok (.lload_n 0, 1) := by decide +kernel
theorem dX10_lowest_37 : decode cX10_lowest 37 = .ok (.lload 5, 2) := by decide +kernel
theorem dX10_lowest_39 : decode cX10_lowest 39 = .ok (.ldiv, 1) := by decide +kernel
theorem dX10_lowest_40 : decode cX10_lowest 40 = .ok (.goto 7, 3) := by decide +kernel
theorem dX10_lowest_43 : decode cX10_lowest 43 = .ok (.lload_n 2, 1) := by decide +kernel
theorem dX10_lowest_44 : decode cX10_lowest 44 = .ok (.lload 5, 2) := by decide +kernel
theorem dX10_lowest_46 : decode cX10_lowest 46 = .ok (.ldiv, 1) := by decide +kernel
theorem dX10_lowest_47 : decode cX10_lowest 47 = .ok (.lreturn, 1) := by decide +kernel
theorem dX10_isText_0 : decode cX10_isText 0 = .ok (.iload_n 0, 1) := by decide +kernel
theorem dX10_isText_1 : decode cX10_isText 1 = .ok (.iconst 0, 1) := by decide +kernel
theorem dX10_isText_2 : decode cX10_isText 2 = .ok (.iconst 1, 1) := by decide +kernel
theorem dX10_isText_3 : decode cX10_isText 3 = .ok (.invokestatic 106, 3) := by decide +kernel
theorem dX10_isText_6 : decode cX10_isText 6 = .ok (.ireturn, 1) := by decide +kernel
theorem dX10_isNight_0 : decode cX10_isNight 0 = .ok (.iload_n 0, 1) := by decide +kernel
theorem dX10_isNight_1 : decode cX10_isNight 1 = .ok (.iconst 0, 1) := by decide +kernel
theorem dX10_isNight_2 : decode cX10_isNight 2 = .ok (.bipush 23, 2) := by decide +kernel
theorem dX10_isNight_4 : decode cX10_isNight 4 = .ok (.invokestatic 106, 3) := by decide +kernel
theorem dX10_isNight_7 : decode cX10_isNight 7 = .ok (.ireturn, 1) := by decide +kernel
theorem dX10_isTwo_0 : decode cX10_isTwo 0 = .ok (.iload_n 0, 1) := by decide +kernel
theorem dX10_isTwo_1 : decode cX10_isTwo 1 = .ok (.iconst 0, 1) := by decide +kernel
theorem dX10_isTwo_2 : decode cX10_isTwo 2 = .ok (.iconst 1, 1) := by decide +kernel
theorem dX10_isTwo_3 : decode cX10_isTwo 3 = .ok (.invokestatic 106, 3) := by decide +kernel
theorem dX10_isTwo_6 : decode cX10_isTwo 6 = .ok (.ireturn, 1) := by decide +kernel
theorem dX10_isThree_0 : decode cX10_isThree 0 = .ok (.iload_n 0, 1) := by decide +kernel
theorem dX10_isThree_1 : decode cX10_isThree 1 = .ok (.iconst 0, 1) := by decide +kernel
theorem dX10_isThree_2 : decode cX10_isThree 2 = .ok (.iconst 2, 1) := by decide +kernel
theorem dX10_isThree_3 : decode cX10_isThree 3 = .ok (.invokestatic 106, 3) := by decide +kernel
theorem dX10_isThree_6 : decode cX10_isThree 6 = .ok (.ireturn, 1) := by decide +kernel
theorem dX10_isSix_0 : decode cX10_isSix 0 = .ok (.iload_n 0, 1) := by decide +kernel
theorem dX10_isSix_1 : decode cX10_isSix 1 = .ok (.iconst 0, 1) := by decide +kernel
theorem dX10_isSix_2 : decode cX10_isSix 2 = .ok (.iconst 5, 1) := by decide +kernel
theorem dX10_isSix_3 : decode cX10_isSix 3 = .ok (.invokestatic 106, 3) := by decide +kernel
theorem dX10_isSix_6 : decode cX10_isSix 6 = .ok (.ireturn, 1) := by decide +kernel
theorem dX10_isEight_0 : decode cX10_isEight 0 = .ok (.iload_n 0, 1) := by decide +kernel
theorem dX10_isEight_1 : decode cX10_isEight 1 = .ok (.iconst 0, 1) := by decide +kernel
theorem dX10_isEight_2 : decode cX10_isEight 2 = .ok (.bipush 7, 2) := by decide +kernel
theorem dX10_isEight_4 : decode cX10_isEight 4 = .ok (.invokestatic 106, 3) := by decide +kernel
theorem dX10_isEight_7 : decode cX10_isEight 7 = .ok (.ireturn, 1) := by decide +kernel
theorem dX10_type_0 : decode cX10_type 0 = .ok (.iload_n 1, 1) := by decide +kernel
theorem dX10_type_1 : decode cX10_type 1 = .ok (.invokestatic 110, 3) := by decide +kernel
theorem dX10_type_4 : decode cX10_type 4 = .ok (.ifCond .eq 14, 3) := by decide +kernel
theorem dX10_type_7 : decode cX10_type 7 = .ok (.iload_n 2, 1) := by decide +kernel
theorem dX10_type_8 : decode cX10_type 8 = .ok (.iconst 0, 1) := by decide +kernel
theorem dX10_type_9 : decode cX10_type 9 = .ok (.sipush 255, 3) := by decide +kernel
theorem dX10_type_12 : decode cX10_type 12 = .ok (.invokestatic 106, 3) := by decide +kernel
theorem dX10_type_15 : decode cX10_type 15 = .ok (.ifCond .ne 6, 3) := by decide +kernel
theorem dX10_type_18 : decode cX10_type 18 = .ok (.bipush (-2), 2) := by decide +kernel
theorem dX10_type_20 : decode cX10_type 20 = .ok (.ireturn, 1) := by decide +kernel
theorem dX10_type_21 : decode cX10_type 21 = .ok (.aload_n 0, 1) := by decide +kernel
theorem dX10_type_22 : decode cX10_type 22 = .ok (.getfield 7, 3) := by decide +kernel
theorem dX10_type_25 : decode cX10_type 25 = .ok (.iload_n 1, 1) := by decide +kernel
theorem dX10_type_26 : decode cX10_type 26 = .ok (.iaload, 1) := by decide +kernel
theorem dX10_type_27 : decode cX10_type 27 = .ok (.iload_n 1, 1) := by decide +kernel
theorem dX10_type_28 : decode cX10_type 28 = .ok (.ifCond .ne 8, 3) := by decide +kernel
theorem dX10_type_31 : decode cX10_type 31 = .ok (.bipush 39, 2) := by decide +kernel
theorem dX10_type_33 : decode cX10_type 33 = .ok (.goto 5, 3) := by decide +kernel
theorem dX10_type_36 : decode cX10_type 36 = .ok (.bipush 31, 2) := by decide +kernel
theorem dX10_type_38 : decode cX10_type 38 = .ok (.if_icmp .ne 6, 3) := by decide +kernel
theorem dX10_type_41 : decode cX10_type 41 = .ok (.bipush (-4), 2) := by decide +kernel
theorem dX10_type_43 : decode cX10_type 43 = .ok (.ireturn, 1) := by decide +kernel
theorem dX10_type_44 : decode cX10_type 44 = .ok (.aload_n 0, 1) := by decide +kernel
theorem dX10_type_45 : decode cX10_type 45 = .ok (.getfield 13, 3) := by decide +kernel
theorem dX10_type_48 : decode cX10_type 48 = .ok (.bipush 39, 2) := by decide +kernel
theorem dX10_type_50 : decode cX10_type 50 = .ok (.iload_n 1, 1) := by decide +kernel
theorem dX10_type_51 : decode cX10_type 51 = .ok (.imul, 1) := by decide +kernel
theorem dX10_type_52 : decode cX10_type 52 = .ok (.aload_n 0, 1) := by decide +kernel
theorem dX10_type_53 : decode cX10_type 53 = .ok (.getfield 7, 3) := by decide +kernel
theorem dX10_type_56 : decode cX10_type 56 = .ok (.iload_n 1, 1) := by decide +kernel
theorem dX10_type_57 : decode cX10_type 57 = .ok (.iaload, 1) := by decide +kernel
theorem dX10_type_58 : decode cX10_type 58 = .ok (.iadd, 1) := by decide +kernel
theorem dX10_type_59 : decode cX10_type 59 = .ok (.iload_n 2, 1) := by decide +kernel
theorem dX10_type_60 : decode cX10_type 60 = .ok (.iastore, 1) := by decide +kernel
theorem dX10_type_61 : decode cX10_type 61 = .ok (.aload_n 0, 1) := by decide +kernel
theorem dX10_type_62 : decode cX10_type 62 = .ok (.getfield 7, 3) := by decide +kernel
theorem dX10_type_65 : decode cX10_type 65 = .ok (.iload_n 1, 1) := by decide +kernel
theorem dX10_type_66 : decode cX10_type 66 = .ok (.dup2, 1) := by decide +kernel
theorem dX10_type_67 : decode cX10_type 67 = .ok (.iaload, 1) := by decide +kernel
theorem dX10_type_68 : decode cX10_type 68 = .ok (.iconst 1, 1) := by decide +kernel
theorem dX10_type_69 : decode cX10_type 69 = .ok (.iadd, 1) := by decide +kernel
theorem dX10_type_70 : decode cX10_type 70 = .ok (.iastore, 1) := by decide +kernel
theorem dX10_type_71 : decode cX10_type 71 = .ok (.aload_n 0, 1) := by decide +kernel
theorem dX10_type_72 : decode cX10_type 72 = .ok (.getfield 7, 3) := by decide +kernel
theorem dX10_type_75 : decode cX10_type 75 = .ok (.iload_n 1, 1) := by decide +kernel
theorem dX10_type_76 : decode cX10_type 76 = .ok (.iaload, 1) := by decide +kernel
theorem dX10_type_77 : decode cX10_type 77 = .ok (.ireturn, 1) := by decide +kernel
theorem dX10_wipe_0 : decode cX10_wipe 0 = .ok (.iload_n 1, 1) := by decide +kernel
theorem dX10_wipe_1 : decode cX10_wipe 1 = .ok (.invokestatic 110, 3) := by decide +kernel
theorem dX10_wipe_4 : decode cX10_wipe 4 = .ok (.ifCond .ne 6, 3) := by decide +kernel
theorem dX10_wipe_7 : decode cX10_wipe 7 = .ok (.bipush (-2), 2) := by decide +kernel
theorem dX10_wipe_9 : decode cX10_wipe 9 = .ok (.ireturn, 1) := by decide +kernel
theorem dX10_wipe_10 : decode cX10_wipe 10 = .ok (.aload_n 0, 1) := by decide +kernel
theorem dX10_wipe_11 : decode cX10_wipe 11 = .ok (.getfield 7, 3) := by decide +kernel
theorem dX10_wipe_14 : decode cX10_wipe 14 = .ok (.iload_n 1, 1) := by decide +kernel
theorem dX10_wipe_15 : decode cX10_wipe 15 = .ok (.iaload, 1) := by decide +kernel
theorem dX10_wipe_16 : decode cX10_wipe 16 = .ok (.istore_n 2, 1) := by decide +kernel
theorem dX10_wipe_17 : decode cX10_wipe 17 = .ok (.aload_n 0, 1) := by decide +kernel
theorem dX10_wipe_18 : decode cX10_wipe 18 = .ok (.getfield 7, 3) := by decide +kernel
theorem dX10_wipe_21 : decode cX10_wipe 21 = .ok (.iload_n 1, 1) := by decide +kernel
theorem dX10_wipe_22 : decode cX10_wipe 22 = .ok (.iconst 0, 1) := by decide +kernel
theorem dX10_wipe_23 : decode cX10_wipe 23 = .ok (.iastore, 1) := by decide +kernel
theorem dX10_wipe_24 : decode cX10_wipe 24 = .ok (.iload_n 2, 1) := by decide +kernel
theorem dX10_wipe_25 : decode cX10_wipe 25 = .ok (.ireturn, 1) := by decide +kernel
theorem dX10_undo_0 : decode cX10_undo 0 = .ok (.iload_n 1, 1) := by decide +kernel
theorem dX10_undo_1 : decode cX10_undo 1 = .ok (.invokestatic 110, 3) := by decide +kernel
theorem dX10_undo_4 : decode cX10_undo 4 = .ok (.ifCond .ne 6, 3) := by decide +kernel
theorem dX10_undo_7 : decode cX10_undo 7 = .ok (.bipush (-2), 2) := by decide +kernel
theorem dX10_undo_9 : decode cX10_undo 9 = .ok (.ireturn, 1) := by decide +kernel
theorem dX10_undo_10 : decode cX10_undo 10 = .ok (.aload_n 0, 1) := by decide +kernel
theorem dX10_undo_11 : decode cX10_undo 11 = .ok (.getfield 7, 3) := by decide +kernel
theorem dX10_undo_14 : decode cX10_undo 14 = .ok (.iload_n 1, 1) := by decide +kernel
theorem dX10_undo_15 : decode cX10_undo 15 = .ok (.iaload, 1) := by decide +kernel
theorem dX10_undo_16 : decode cX10_undo 16 = .ok (.ifCond .ne 6, 3) := by decide +kernel
theorem dX10_undo_19 : decode cX10_undo 19 = .ok (.bipush (-3), 2) := by decide +kernel
theorem dX10_undo_21 : decode cX10_undo 21 = .ok (.ireturn, 1) := by decide +kernel
theorem dX10_undo_22 : decode cX10_undo 22 = .ok (.aload_n 0, 1) := by decide +kernel
theorem dX10_undo_23 : decode cX10_undo 23 = .ok (.getfield 7, 3) := by decide +kernel
theorem dX10_undo_26 : decode cX10_undo 26 = .ok (.iload_n 1, 1) := by decide +kernel
theorem dX10_undo_27 : decode cX10_undo 27 = .ok (.dup2, 1) := by decide +kernel
theorem dX10_undo_28 : decode cX10_undo 28 = .ok (.iaload, 1) := by decide +kernel
theorem dX10_undo_29 : decode cX10_undo 29 = .ok (.iconst 1, 1) := by decide +kernel
theorem dX10_undo_30 : decode cX10_undo 30 = .ok (.isub, 1) := by decide +kernel
theorem dX10_undo_31 : decode cX10_undo 31 = .ok (.iastore, 1) := by decide +kernel
theorem dX10_undo_32 : decode cX10_undo 32 = .ok (.aload_n 0, 1) := by decide +kernel
theorem dX10_undo_33 : decode cX10_undo 33 = .ok (.getfield 7, 3) := by decide +kernel
theorem dX10_undo_36 : decode cX10_undo 36 = .ok (.iload_n 1, 1) := by decide +kernel
theorem dX10_undo_37 : decode cX10_undo 37 = .ok (.iaload, 1) := by decide +kernel
theorem dX10_undo_38 : decode cX10_undo 38 = .ok (.ireturn, 1) := by decide +kernel
theorem dX10_byteAt_0 : decode cX10_byteAt 0 = .ok (.iload_n 2, 1) := by decide +kernel
theorem dX10_byteAt_1 : decode cX10_byteAt 1 = .ok (.aload_n 0, 1) := by decide +kernel
theorem dX10_byteAt_2 : decode cX10_byteAt 2 = .ok (.getfield 7, 3) := by decide +kernel
theorem dX10_byteAt_5 : decode cX10_byteAt 5 = .ok (.iload_n 1, 1) := by decide +kernel
theorem dX10_byteAt_6 : decode cX10_byteAt 6 = .ok (.iaload, 1) := by decide +kernel
theorem dX10_byteAt_7 : decode cX10_byteAt 7 = .ok (.if_icmp .ge 17, 3) := by decide +kernel
theorem dX10_byteAt_10 : decode cX10_byteAt 10 = .ok (.aload_n 0, 1) := by decide +kernel
theorem dX10_byteAt_11 : decode cX10_byteAt 11 = .ok (.getfield 13, 3) := by decide +kernel
theorem dX10_byteAt_14 : decode cX10_byteAt 14 = .ok (.bipush 39, 2) := by decide +kernel
theorem dX10_byteAt_16 : decode cX10_byteAt 16 = .ok (.iload_n 1, 1) := by decide +kernel
theorem dX10_byteAt_17 : decode cX10_byteAt 17 = .ok (.imul, 1) := by decide +kernel
theorem dX10_byteAt_18 : decode cX10_byteAt 18 = .ok (.iload_n 2, 1) := by decide +kernel
theorem dX10_byteAt_19 : decode cX10_byteAt 19 = .ok (.iadd, 1) := by decide +kernel
theorem dX10_byteAt_20 : decode cX10_byteAt 20 = .ok (.iaload, 1) := by decide +kernel
theorem dX10_byteAt_21 : decode cX10_byteAt 21 = .ok (.goto 4, 3) := by decide +kernel
theorem dX10_byteAt_24 : decode cX10_byteAt 24 = .ok (.iconst (-1), 1) := by decide +kernel
theorem dX10_byteAt_25 : decode cX10_byteAt 25 = .ok (.ireturn, 1) := by decide +kernel
theorem dX10_isTaken_0 : decode cX10_isTaken 0 = .ok (.iconst 0, 1) := by decide +kernel
theorem dX10_isTaken_1 : decode cX10_isTaken 1 = .ok (.istore 4, 2) := by decide +kernel
theorem dX10_isTaken_3 : decode cX10_isTaken 3 = .ok (.iconst 0, 1) := by decide +kernel
theorem dX10_isTaken_4 : decode cX10_isTaken 4 = .ok (.istore 5, 2) := by decide +kernel
theorem dX10_isTaken_6 : decode cX10_isTaken 6 = .ok (.iload 5, 2) := by decide +kernel
theorem dX10_isTaken_8 : decode cX10_isTaken 8 = .ok (.iload_n 1, 1) := by decide +kernel
theorem dX10_isTaken_9 : decode cX10_isTaken 9 = .ok (.if_icmp .ge 43, 3) := by decide +kernel
theorem dX10_isTaken_12 : decode cX10_isTaken 12 = .ok (.iload 4, 2) := by decide +kernel
theorem dX10_isTaken_14 : decode cX10_isTaken 14 = .ok (.ifCond .ne 25, 3) := by decide +kernel
theorem dX10_isTaken_17 : decode cX10_isTaken 17 = .ok (.aload_n 0, 1) := by decide +kernel
theorem dX10_isTaken_18 : decode cX10_isTaken 18 = .ok (.getfield 19, 3) := by decide +kernel
theorem dX10_isTaken_21 : decode cX10_isTaken 21 = .ok (.iload 5, 2) := by decide +kernel
theorem dX10_isTaken_23 : decode cX10_isTaken 23 = .ok (.iaload, 1) := by decide +kernel
theorem dX10_isTaken_24 : decode cX10_isTaken 24 = .ok (.iload_n 2, 1) := by decide +kernel
theorem dX10_isTaken_25 : decode cX10_isTaken 25 = .ok (.if_icmp .ne 18, 3) := by decide +kernel
theorem dX10_isTaken_28 : decode cX10_isTaken 28 = .ok (.aload_n 0, 1) := by decide +kernel
theorem dX10_isTaken_29 : decode cX10_isTaken 29 = .ok (.getfield 22, 3) := by decide +kernel
theorem dX10_isTaken_32 : decode cX10_isTaken 32 = .ok (.iload 5, 2) := by decide +kernel
theorem dX10_isTaken_34 : decode cX10_isTaken 34 = .ok (.iaload, 1) := by decide +kernel
theorem dX10_isTaken_35 : decode cX10_isTaken 35 = .ok (.iload_n 3, 1) := by decide +kernel
theorem dX10_isTaken_36 : decode cX10_isTaken 36 = .ok (.if_icmp .ne 7, 3) := by decide +kernel
theorem dX10_isTaken_39 : decode cX10_isTaken 39 = .ok (.iconst 1, 1) := by decide +kernel
theorem dX10_isTaken_40 : decode cX10_isTaken 40 = .ok (.goto 4, 3) := by decide +kernel
theorem dX10_isTaken_43 : decode cX10_isTaken 43 = .ok (.iconst 0, 1) := by decide +kernel
theorem dX10_isTaken_44 : decode cX10_isTaken 44 = .ok (.istore 4, 2) := by decide +kernel
theorem dX10_isTaken_46 : decode cX10_isTaken 46 = .ok (.iinc 5 1, 3) := by decide +kernel
theorem dX10_isTaken_49 : decode cX10_isTaken 49 = .ok (.goto (-43), 3) := by decide +kernel
theorem dX10_isTaken_52 : decode cX10_isTaken 52 = .ok (.iload 4, 2) := by decide +kernel
theorem dX10_isTaken_54 : decode cX10_isTaken 54 = .ok (.ireturn, 1) := by decide +kernel
theorem dX10_readsGone_0 : decode cX10_readsGone 0 = .ok (.aload_n 0, 1) := by decide +kernel
theorem dX10_readsGone_1 : decode cX10_readsGone 1 = .ok (.iconst 0, 1) := by decide +kernel
theorem dX10_readsGone_2 : decode cX10_readsGone 2 = .ok (.iload_n 2, 1) := by decide +kernel
theorem dX10_readsGone_3 : decode cX10_readsGone 3 = .ok (.invokevirtual 114, 3) := by decide +kernel
theorem dX10_readsGone_6 : decode cX10_readsGone 6 = .ok (.istore_n 3, 1) := by decide +kernel
theorem dX10_readsGone_7 : decode cX10_readsGone 7 = .ok (.iload_n 3, 1) := by decide +kernel
theorem dX10_readsGone_8 : decode cX10_readsGone 8 = .ok (.bipush 100, 2) := by decide +kernel
theorem dX10_readsGone_10 : decode cX10_readsGone 10 = .ok (.if_icmp .ne 7, 3) := by decide +kernel
theorem dX10_readsGone_13 : decode cX10_readsGone 13 = .ok (.iconst 0, 1) := by decide +kernel
theorem dX10_readsGone_14 : decode cX10_readsGone 14 = .ok (.goto 24, 3) := by decide +kernel
theorem dX10_readsGone_17 : decode cX10_readsGone 17 = .ok (.iload_n 3, 1) := by decide +kernel
theorem dX10_readsGone_18 : decode cX10_readsGone 18 = .ok (.bipush 99, 2) := by decide +kernel
theorem dX10_readsGone_20 : decode cX10_readsGone 20 = .ok (.if_icmp .ne 7, 3) := by decide +kernel
theorem dX10_readsGone_23 : decode cX10_readsGone 23 = .ok (.iconst 1, 1) := by decide +kernel
theorem dX10_readsGone_24 : decode cX10_readsGone 24 = .ok (.goto 14, 3) := by decide +kernel
theorem dX10_readsGone_27 : decode cX10_readsGone 27 = .ok (.iload_n 3, 1) := by decide +kernel
theorem dX10_readsGone_28 : decode cX10_readsGone 28 = .ok (.bipush 114, 2) := by decide +kernel
theorem dX10_readsGone_30 : decode cX10_readsGone 30 = .ok (.if_icmp .ne 7, 3) := by decide +kernel
theorem dX10_readsGone_33 : decode cX10_readsGone 33 = .ok (.iconst 2, 1) := by decide +kernel
theorem dX10_readsGone_34 : decode cX10_readsGone 34 = .ok (.goto 4, 3) := by decide +kernel
theorem dX10_readsGone_37 : decode cX10_readsGone 37 = .ok (.iconst (-1), 1) := by decide +kernel
theorem dX10_readsGone_38 : decode cX10_readsGone 38 = .ok (.istore 4, 2) := by decide +kernel
theorem dX10_readsGone_40 : decode cX10_readsGone 40 = .ok (.aload_n 0, 1) := by decide +kernel
theorem dX10_readsGone_41 : decode cX10_readsGone 41 = .ok (.iconst 0, 1) := by decide +kernel
theorem dX10_readsGone_42 : decode cX10_readsGone 42 = .ok (.iload_n 2, 1) := by decide +kernel
theorem dX10_readsGone_43 : decode cX10_readsGone 43 = .ok (.iconst 1, 1) := by decide +kernel
theorem dX10_readsGone_44 : decode cX10_readsGone 44 = .ok (.iadd, 1) := by decide +kernel
theorem dX10_readsGone_45 : decode cX10_readsGone 45 = .ok (.invokevirtual 114, 3) := by decide +kernel
theorem dX10_readsGone_48 : decode cX10_readsGone 48 = .ok (.bipush 48, 2) := by decide +kernel
theorem dX10_readsGone_50 : decode cX10_readsGone 50 = .ok (.isub, 1) := by decide +kernel
theorem dX10_readsGone_51 : decode cX10_readsGone 51 = .ok (.istore 5, 2) := by decide +kernel
theorem dX10_readsGone_53 : decode cX10_readsGone 53 = .ok (.aload_n 0, 1) := by decide +kernel
theorem dX10_readsGone_54 : decode cX10_readsGone 54 = .ok (.iconst 0, 1) := by decide +kernel
theorem dX10_readsGone_55 : decode cX10_readsGone 55 = .ok (.iload_n 2, 1) := by decide +kernel
theorem dX10_readsGone_56 : decode cX10_readsGone 56 = .ok (.iconst 2, 1) := by decide +kernel
theorem dX10_readsGone_57 : decode cX10_readsGone 57 = .ok (.iadd, 1) := by decide +kernel
theorem dX10_readsGone_58 : decode cX10_readsGone 58 = .ok (.invokevirtual 114, 3) := by decide +kernel
theorem dX10_readsGone_61 : decode cX10_readsGone 61 = .ok (.bipush 48, 2) := by decide +kernel
theorem dX10_readsGone_63 : decode cX10_readsGone 63 = .ok (.isub, 1) := by decide +kernel
theorem dX10_readsGone_64 : decode cX10_readsGone 64 = .ok (.istore 6, 2) := by decide +kernel
theorem dX10_readsGone_66 : decode cX10_readsGone 66 = .ok (.aload_n 0, 1) := by decide +kernel
theorem dX10_readsGone_67 : decode cX10_readsGone 67 = .ok (.iconst 0, 1) := by decide +kernel
theorem dX10_readsGone_68 : decode cX10_readsGone 68 = .ok (.iload_n 2, 1) := by decide +kernel
theorem dX10_readsGone_69 : decode cX10_readsGone 69 = .ok (.iconst 3, 1) := by decide +kernel
theorem dX10_readsGone_70 : decode cX10_readsGone 70 = .ok (.iadd, 1) := by decide +kernel
theorem dX10_readsGone_71 : decode cX10_readsGone 71 = .ok (.invokevirtual 114, 3) := by decide +kernel
theorem dX10_readsGone_74 : decode cX10_readsGone 74 = .ok (.bipush 48, 2) := by decide +kernel
theorem dX10_readsGone_76 : decode cX10_readsGone 76 = .ok (.isub, 1) := by decide +kernel
theorem dX10_readsGone_77 : decode cX10_readsGone 77 = .ok (.istore 7, 2) := by decide +kernel
theorem dX10_readsGone_79 : decode cX10_readsGone 79 = .ok (.iload_n 1, 1) := by decide +kernel
theorem dX10_readsGone_80 : decode cX10_readsGone 80 = .ok (.bipush 8, 2) := by decide +kernel
theorem dX10_readsGone_82 : decode cX10_readsGone 82 = .ok (.if_icmp .eq 9, 3) := by decide +kernel
theorem dX10_readsGone_85 : decode cX10_readsGone 85 = .ok (.iload 4, 2) := by decide +kernel
theorem dX10_readsGone_87 : decode cX10_readsGone 87 = .ok (.iconst (-1), 1) := by decide +kernel
theorem dX10_readsGone_88 : decode cX10_readsGone 88 = .ok (.if_icmp .ne 5, 3) := by decide +kernel
theorem dX10_readsGone_91 : decode cX10_readsGone 91 = .ok (.iconst 0, 1) := by decide +kernel
theorem dX10_readsGone_92 : decode cX10_readsGone 92 = .ok (.ireturn, 1) := by decide +kernel
theorem dX10_readsGone_93 : decode cX10_readsGone 93 = .ok (.iload 5, 2) := by decide +kernel
theorem dX10_readsGone_95 : decode cX10_readsGone 95 = .ok (.invokestatic 118, 3) := by decide +kernel
theorem dX10_readsGone_98 : decode cX10_readsGone 98 = .ok (.ifCond .ne 5, 3) := by decide +kernel
theorem dX10_readsGone_101 : decode cX10_readsGone 101 = .ok (.iconst 1, 1) := by decide +kernel
theorem dX10_readsGone_102 : decode cX10_readsGone 102 = .ok (.ireturn, 1) := by decide +kernel
theorem dX10_readsGone_103 : decode cX10_readsGone 103 = .ok (.iload 6, 2) := by decide +kernel
theorem dX10_readsGone_105 : decode cX10_readsGone 105 = .ok (.invokestatic 118, 3) := by decide +kernel
theorem dX10_readsGone_108 : decode cX10_readsGone 108 = .ok (.ifCond .eq 15, 3) := by decide +kernel
theorem dX10_readsGone_111 : decode cX10_readsGone 111 = .ok (.aload_n 0, 1) := by decide +kernel
theorem dX10_readsGone_112 : decode cX10_readsGone 112 = .ok (.iload_n 1, 1) := by decide +kernel
theorem dX10_readsGone_113 : decode cX10_readsGone 113 = .ok (.iload 5, 2) := by decide +kernel
theorem dX10_readsGone_115 : decode cX10_readsGone 115 = .ok (.iload 6, 2) := by decide +kernel
theorem dX10_readsGone_117 : decode cX10_readsGone 117 = .ok (.invokevirtual 121, 3) := by decide +kernel
theorem dX10_readsGone_120 : decode cX10_readsGone 120 = .ok (.ifCond .eq 5, 3) := by decide +kernel
theorem dX10_readsGone_123 : decode cX10_readsGone 123 = .ok (.iconst 2, 1) := by decide +kernel
theorem dX10_readsGone_124 : decode cX10_readsGone 124 = .ok (.ireturn, 1) := by decide +kernel
theorem dX10_readsGone_125 : decode cX10_readsGone 125 = .ok (.iload 7, 2) := by decide +kernel
theorem dX10_readsGone_127 : decode cX10_readsGone 127 = .ok (.iconst 1, 1) := by decide +kernel
theorem dX10_readsGone_128 : decode cX10_readsGone 128 = .ok (.bipush 9, 2) := by decide +kernel
theorem dX10_readsGone_130 : decode cX10_readsGone 130 = .ok (.invokestatic 106, 3) := by decide +kernel
theorem dX10_readsGone_133 : decode cX10_readsGone 133 = .ok (.ifCond .ne 5, 3) := by decide +kernel
theorem dX10_readsGone_136 : decode cX10_readsGone 136 = .ok (.iconst 3, 1) := by decide +kernel
theorem dX10_readsGone_137 : decode cX10_readsGone 137 = .ok (.ireturn, 1) := by decide +kernel
theorem dX10_readsGone_138 : decode cX10_readsGone 138 = .ok (.aload_n 0, 1) := by decide +kernel
theorem dX10_readsGone_139 : decode cX10_readsGone 139 = .ok (.getfield 16, 3) := by decide +kernel
theorem dX10_readsGone_142 : decode cX10_readsGone 142 = .ok (.iload_n 1, 1) := by decide +kernel
theorem dX10_readsGone_143 : decode cX10_readsGone 143 = .ok (.iload 4, 2) := by decide +kernel
theorem dX10_readsGone_145 : decode cX10_readsGone 145 = .ok (.iastore, 1) := by decide +kernel
theorem dX10_readsGone_146 : decode cX10_readsGone 146 = .ok (.aload_n 0, 1) := by decide +kernel
theorem dX10_readsGone_147 : decode cX10_readsGone 147 = .ok (.getfield 19, 3) := by decide +kernel
theorem dX10_readsGone_150 : decode cX10_readsGone 150 = .ok (.iload_n 1, 1) := by decide +kernel
theorem dX10_readsGone_151 : decode cX10_readsGone 151 = .ok (.iload 5, 2) := by decide +kernel
theorem dX10_readsGone_153 : decode cX10_readsGone 153 = .ok (.iastore, 1) := by decide +kernel
theorem dX10_readsGone_154 : decode cX10_readsGone 154 = .ok (.aload_n 0, 1) := by decide +kernel
theorem dX10_readsGone_155 : decode cX10_readsGone 155 = .ok (.getfield 22, 3) := by decide +kernel
theorem dX10_readsGone_158 : decode cX10_readsGone 158 = .ok (.iload_n 1, 1) := by decide +kernel
theorem dX10_readsGone_159 : decode cX10_readsGone 159 = .ok (.iload 6, 2) := by decide +kernel
theorem dX10_readsGone_161 : decode cX10_readsGone 161 = .ok (.iastore, 1) := by decide +kernel
theorem dX10_readsGone_162 : decode cX10_readsGone 162 = .ok (.aload_n 0, 1) := by decide +kernel
theorem dX10_readsGone_163 : decode cX10_readsGone 163 = .ok (.getfield 25, 3) := by decide +kernel
theorem dX10_readsGone_166 : decode cX10_readsGone 166 = .ok (.iload_n 1, 1) := by decide +kernel
theorem dX10_readsGone_167 : decode cX10_readsGone 167 = .ok (.iload 7, 2) := by decide +kernel
theorem dX10_readsGone_169 : decode cX10_readsGone 169 = .ok (.iastore, 1) := by decide +kernel
theorem dX10_readsGone_170 : decode cX10_readsGone 170 = .ok (.iconst 4, 1) := by decide +kernel
theorem dX10_readsGone_171 : decode cX10_readsGone 171 = .ok (.ireturn, 1) := by decide +kernel
theorem dX10_readsNeed_0 : decode cX10_readsNeed 0 = .ok (.aload_n 0, 1) := by decide +kernel
theorem dX10_readsNeed_1 : decode cX10_readsNeed 1 = .ok (.iconst 1, 1) := by decide +kernel
theorem dX10_readsNeed_2 : decode cX10_readsNeed 2 = .ok (.iload_n 2, 1) := by decide +kernel
theorem dX10_readsNeed_3 : decode cX10_readsNeed 3 = .ok (.invokevirtual 114, 3) := by decide +kernel
theorem dX10_readsNeed_6 : decode cX10_readsNeed 6 = .ok (.bipush 48, 2) := by decide +kernel
theorem dX10_readsNeed_8 : decode cX10_readsNeed 8 = .ok (.isub, 1) := by decide +kernel
theorem dX10_readsNeed_9 : decode cX10_readsNeed 9 = .ok (.istore_n 3, 1) := by decide +kernel
theorem dX10_readsNeed_10 : decode cX10_readsNeed 10 = .ok (.aload_n 0, 1) := by decide +kernel
theorem dX10_readsNeed_11 : decode cX10_readsNeed 11 = .ok (.iconst 1, 1) := by decide +kernel
theorem dX10_readsNeed_12 : decode cX10_readsNeed 12 = .ok (.iload_n 2, 1) := by decide +kernel
theorem dX10_readsNeed_13 : decode cX10_readsNeed 13 = .ok (.iconst 1, 1) := by decide +kernel
theorem dX10_readsNeed_14 : decode cX10_readsNeed 14 = .ok (.iadd, 1) := by decide +kernel
theorem dX10_readsNeed_15 : decode cX10_readsNeed 15 = .ok (.invokevirtual 114, 3) := by decide +kernel
theorem dX10_readsNeed_18 : decode cX10_readsNeed 18 = .ok (.bipush 97, 2) := by decide +kernel
theorem dX10_readsNeed_20 : decode cX10_readsNeed 20 = .ok (.isub, 1) := by decide +kernel
theorem dX10_readsNeed_21 : decode cX10_readsNeed 21 = .ok (.istore 4, 2) := by decide +kernel
theorem dX10_readsNeed_23 : decode cX10_readsNeed 23 = .ok (.aload_n 0, 1) := by decide +kernel
theorem dX10_readsNeed_24 : decode cX10_readsNeed 24 = .ok (.iconst 1, 1) := by decide +kernel
theorem dX10_readsNeed_25 : decode cX10_readsNeed 25 = .ok (.iload_n 2, 1) := by decide +kernel
theorem dX10_readsNeed_26 : decode cX10_readsNeed 26 = .ok (.iconst 2, 1) := by decide +kernel
theorem dX10_readsNeed_27 : decode cX10_readsNeed 27 = .ok (.iadd, 1) := by decide +kernel
theorem dX10_readsNeed_28 : decode cX10_readsNeed 28 = .ok (.invokevirtual 114, 3) := by decide +kernel
theorem dX10_readsNeed_31 : decode cX10_readsNeed 31 = .ok (.bipush 48, 2) := by decide +kernel
theorem dX10_readsNeed_33 : decode cX10_readsNeed 33 = .ok (.isub, 1) := by decide +kernel
theorem dX10_readsNeed_34 : decode cX10_readsNeed 34 = .ok (.istore 5, 2) := by decide +kernel
theorem dX10_readsNeed_36 : decode cX10_readsNeed 36 = .ok (.iload_n 1, 1) := by decide +kernel
theorem dX10_readsNeed_37 : decode cX10_readsNeed 37 = .ok (.bipush 8, 2) := by decide +kernel
theorem dX10_readsNeed_39 : decode cX10_readsNeed 39 = .ok (.if_icmp .eq 10, 3) := by decide +kernel
theorem dX10_readsNeed_42 : decode cX10_readsNeed 42 = .ok (.iload_n 3, 1) := by decide +kernel
theorem dX10_readsNeed_43 : decode cX10_readsNeed 43 = .ok (.invokestatic 124, 3) := by decide +kernel
theorem dX10_readsNeed_46 : decode cX10_readsNeed 46 = .ok (.ifCond .ne 5, 3) := by decide +kernel
theorem dX10_readsNeed_49 : decode cX10_readsNeed 49 = .ok (.iconst 0, 1) := by decide +kernel
theorem dX10_readsNeed_50 : decode cX10_readsNeed 50 = .ok (.ireturn, 1) := by decide +kernel
theorem dX10_readsNeed_51 : decode cX10_readsNeed 51 = .ok (.iload 4, 2) := by decide +kernel
theorem dX10_readsNeed_53 : decode cX10_readsNeed 53 = .ok (.invokestatic 127, 3) := by decide +kernel
theorem dX10_readsNeed_56 : decode cX10_readsNeed 56 = .ok (.ifCond .ne 5, 3) := by decide +kernel
theorem dX10_readsNeed_59 : decode cX10_readsNeed 59 = .ok (.iconst 1, 1) := by decide +kernel
theorem dX10_readsNeed_60 : decode cX10_readsNeed 60 = .ok (.ireturn, 1) := by decide +kernel
theorem dX10_readsNeed_61 : decode cX10_readsNeed 61 = .ok (.iload 5, 2) := by decide +kernel
theorem dX10_readsNeed_63 : decode cX10_readsNeed 63 = .ok (.iconst 1, 1) := by decide +kernel
theorem dX10_readsNeed_64 : decode cX10_readsNeed 64 = .ok (.bipush 9, 2) := by decide +kernel
theorem dX10_readsNeed_66 : decode cX10_readsNeed 66 = .ok (.invokestatic 106, 3) := by decide +kernel
theorem dX10_readsNeed_69 : decode cX10_readsNeed 69 = .ok (.ifCond .ne 5, 3) := by decide +kernel
theorem dX10_readsNeed_72 : decode cX10_readsNeed 72 = .ok (.iconst 2, 1) := by decide +kernel
theorem dX10_readsNeed_73 : decode cX10_readsNeed 73 = .ok (.ireturn, 1) := by decide +kernel
theorem dX10_readsNeed_74 : decode cX10_readsNeed 74 = .ok (.aload_n 0, 1) := by decide +kernel
theorem dX10_readsNeed_75 : decode cX10_readsNeed 75 = .ok (.getfield 28, 3) := by decide +kernel
theorem dX10_readsNeed_78 : decode cX10_readsNeed 78 = .ok (.iload_n 1, 1) := by decide +kernel
theorem dX10_readsNeed_79 : decode cX10_readsNeed 79 = .ok (.iload_n 3, 1) := by decide +kernel
theorem dX10_readsNeed_80 : decode cX10_readsNeed 80 = .ok (.iastore, 1) := by decide +kernel
theorem dX10_readsNeed_81 : decode cX10_readsNeed 81 = .ok (.aload_n 0, 1) := by decide +kernel
theorem dX10_readsNeed_82 : decode cX10_readsNeed 82 = .ok (.getfield 31, 3) := by decide +kernel
theorem dX10_readsNeed_85 : decode cX10_readsNeed 85 = .ok (.iload_n 1, 1) := by decide +kernel
theorem dX10_readsNeed_86 : decode cX10_readsNeed 86 = .ok (.iload 4, 2) := by decide +kernel
theorem dX10_readsNeed_88 : decode cX10_readsNeed 88 = .ok (.iastore, 1) := by decide +kernel
theorem dX10_readsNeed_89 : decode cX10_readsNeed 89 = .ok (.aload_n 0, 1) := by decide +kernel
theorem dX10_readsNeed_90 : decode cX10_readsNeed 90 = .ok (.getfield 34, 3) := by decide +kernel
theorem dX10_readsNeed_93 : decode cX10_readsNeed 93 = .ok (.iload_n 1, 1) := by decide +kernel
theorem dX10_readsNeed_94 : decode cX10_readsNeed 94 = .ok (.iload 5, 2) := by decide +kernel
theorem dX10_readsNeed_96 : decode cX10_readsNeed 96 = .ok (.iastore, 1) := by decide +kernel
theorem dX10_readsNeed_97 : decode cX10_readsNeed 97 = .ok (.iconst 3, 1) := by decide +kernel
theorem dX10_readsNeed_98 : decode cX10_readsNeed 98 = .ok (.ireturn, 1) := by decide +kernel
theorem dX10_readsParts_0 : decode cX10_readsParts 0 = .ok (.iload_n 1, 1) := by decide +kernel
theorem dX10_readsParts_1 : decode cX10_readsParts 1 = .ok (.ifCond .ne 7, 3) := by decide +kernel
theorem dX10_readsParts_4 : decode cX10_readsParts 4 = .ok (.iconst 4, 1) := by decide +kernel
theorem dX10_readsParts_5 : decode cX10_readsParts 5 = .ok (.goto 4, 3) := by decide +kernel
theorem dX10_readsParts_8 : decode cX10_readsParts 8 = .ok (.iconst 3, 1) := by decide +kernel
theorem dX10_readsParts_9 : decode cX10_readsParts 9 = .ok (.istore_n 2, 1) := by decide +kernel
theorem dX10_readsParts_10 : decode cX10_readsParts 10 = .ok (.iconst 0, 1) := by decide +kernel
theorem dX10_readsParts_11 : decode cX10_readsParts 11 = .ok (.istore_n 3, 1) := by decide +kernel
theorem dX10_readsParts_12 : decode cX10_readsParts 12 = .ok (.iconst 0, 1) := by decide +kernel
theorem dX10_readsParts_13 : decode cX10_readsParts 13 = .ok (.istore 4, 2) := by decide +kernel
theorem dX10_readsParts_15 : decode cX10_readsParts 15 = .ok (.aload_n 0, 1) := by decide +kernel
theorem dX10_readsParts_16 : decode cX10_readsParts 16 = .ok (.iload_n 1, 1) := by decide +kernel
theorem dX10_readsParts_17 : decode cX10_readsParts 17 = .ok (.ifCond .ne 7, 3) := by decide +kernel
theorem dX10_readsParts_20 : decode cX10_readsParts 20 = .ok (.iconst 0, 1) := by decide +kernel
theorem dX10_readsParts_21 : decode cX10_readsParts 21 = .ok (.goto 7, 3) := by decide +kernel
theorem dX10_readsParts_24 : decode cX10_readsParts 24 = .ok (.aload_n 0, 1) := by decide +kernel
theorem dX10_readsParts_25 : decode cX10_readsParts 25 = .ok (.getfield 130, 3) := by decide +kernel
theorem dX10_readsParts_28 : decode cX10_readsParts 28 = .ok (.putfield 130, 3) := by decide +kernel
theorem dX10_readsParts_31 : decode cX10_readsParts 31 = .ok (.aload_n 0, 1) := by decide +kernel
theorem dX10_readsParts_32 : decode cX10_readsParts 32 = .ok (.iload_n 1, 1) := by decide +kernel
theorem dX10_readsParts_33 : decode cX10_readsParts 33 = .ok (.iconst 1, 1) := by decide +kernel
theorem dX10_readsParts_34 : decode cX10_readsParts 34 = .ok (.if_icmp .ne 7, 3) := by decide +kernel
theorem dX10_readsParts_37 : decode cX10_readsParts 37 = .ok (.iconst 0, 1) := by decide +kernel
theorem dX10_readsParts_38 : decode cX10_readsParts 38 = .ok (.goto 7, 3) := by decide +kernel
theorem dX10_readsParts_41 : decode cX10_readsParts 41 = .ok (.aload_n 0, 1) := by decide +kernel
theorem dX10_readsParts_42 : decode cX10_readsParts 42 = .ok (.getfield 134, 3) := by decide +kernel
theorem dX10_readsParts_45 : decode cX10_readsParts 45 = .ok (.putfield 134, 3) := by decide +kernel
theorem dX10_readsParts_48 : decode cX10_readsParts 48 = .ok (.iload 4, 2) := by decide +kernel
theorem dX10_readsParts_50 : decode cX10_readsParts 50 = .ok (.aload_n 0, 1) := by decide +kernel
theorem dX10_readsParts_51 : decode cX10_readsParts 51 = .ok (.getfield 7, 3) := by decide +kernel
theorem dX10_readsParts_54 : decode cX10_readsParts 54 = .ok (.iload_n 1, 1) := by decide +kernel
theorem dX10_readsParts_55 : decode cX10_readsParts 55 = .ok (.iaload, 1) := by decide +kernel
theorem dX10_readsParts_56 : decode cX10_readsParts 56 = .ok (.if_icmp .lt 8, 3) := by decide +kernel
theorem dX10_readsParts_59 : decode cX10_readsParts 59 = .ok (.iload 4, 2) := by decide +kernel
theorem dX10_readsParts_61 : decode cX10_readsParts 61 = .ok (.ifCond .le 114, 3) := by decide +kernel
theorem dX10_readsParts_64 : decode cX10_readsParts 64 = .ok (.iload_n 1, 1) := by decide +kernel
theorem dX10_readsParts_65 : decode cX10_readsParts 65 = .ok (.ifCond .ne 13, 3) := by decide +kernel
theorem dX10_readsParts_68 : decode cX10_readsParts 68 = .ok (.aload_n 0, 1) := by decide +kernel
theorem dX10_readsParts_69 : decode cX10_readsParts 69 = .ok (.iload_n 3, 1) := by decide +kernel
theorem dX10_readsParts_70 : decode cX10_readsParts 70 = .ok (.iload 4, 2) := by decide +kernel
theorem dX10_readsParts_72 : decode cX10_readsParts 72 = .ok (.invokevirtual 137, 3) := by decide +kernel
theorem dX10_readsParts_75 : decode cX10_readsParts 75 = .ok (.goto 10, 3) := by decide +kernel
theorem dX10_readsParts_78 : decode cX10_readsParts 78 = .ok (.aload_n 0, 1) := by decide +kernel
theorem dX10_readsParts_79 : decode cX10_readsParts 79 = .ok (.iload_n 3, 1) := by decide +kernel
theorem dX10_readsParts_80 : decode cX10_readsParts 80 = .ok (.iload 4, 2) := by decide +kernel
theorem dX10_readsParts_82 : decode cX10_readsParts 82 = .ok (.invokevirtual 140, 3) := by decide +kernel
theorem dX10_readsParts_85 : decode cX10_readsParts 85 = .ok (.istore 5, 2) := by decide +kernel
theorem dX10_readsParts_87 : decode cX10_readsParts 87 = .ok (.iload 5, 2) := by decide +kernel
theorem dX10_readsParts_89 : decode cX10_readsParts 89 = .ok (.iload_n 2, 1) := by decide +kernel
theorem dX10_readsParts_90 : decode cX10_readsParts 90 = .ok (.if_icmp .ge 9, 3) := by decide +kernel
theorem dX10_readsParts_93 : decode cX10_readsParts 93 = .ok (.iload 4, 2) := by decide +kernel
theorem dX10_readsParts_95 : decode cX10_readsParts 95 = .ok (.iload 5, 2) := by decide +kernel
theorem dX10_readsParts_97 : decode cX10_readsParts 97 = .ok (.iadd, 1) := by decide +kernel
theorem dX10_readsParts_98 : decode cX10_readsParts 98 = .ok (.ireturn, 1) := by decide +kernel
theorem dX10_readsParts_99 : decode cX10_readsParts 99 = .ok (.iinc 3 1, 3) := by decide +kernel
theorem dX10_readsParts_102 : decode cX10_readsParts 102 = .ok (.iload 4, 2) := by decide +kernel
theorem dX10_readsParts_104 : decode cX10_readsParts 104 = .ok (.iload_n 2, 1) := by decide +kernel
theorem dX10_readsParts_105 : decode cX10_readsParts 105 = .ok (.iadd, 1) := by decide +kernel
theorem dX10_readsParts_106 : decode cX10_readsParts 106 = .ok (.istore 4, 2) := by decide +kernel
theorem dX10_readsParts_108 : decode cX10_readsParts 108 = .ok (.iload 4, 2) := by decide +kernel
theorem dX10_readsParts_110 : decode cX10_readsParts 110 = .ok (.aload_n 0, 1) := by decide +kernel
theorem dX10_readsParts_111 : decode cX10_readsParts 111 = .ok (.getfield 7, 3) := by decide +kernel
theorem dX10_readsParts_114 : decode cX10_readsParts 114 = .ok (.iload_n 1, 1) := by decide +kernel
theorem dX10_readsParts_115 : decode cX10_readsParts 115 = .ok (.iaload, 1) := by decide +kernel
theorem dX10_readsParts_116 : decode cX10_readsParts 116 = .ok (.if_icmp .ne 38, 3) := by decide +kernel
theorem dX10_readsParts_119 : decode cX10_readsParts 119 = .ok (.aload_n 0, 1) := by decide +kernel
theorem dX10_readsParts_120 : decode cX10_readsParts 120 = .ok (.iload_n 1, 1) := by decide +kernel
theorem dX10_readsParts_121 : decode cX10_readsParts 121 = .ok (.ifCond .ne 7, 3) := by decide +kernel
theorem dX10_readsParts_124 : decode cX10_readsParts 124 = .ok (.iload_n 3, 1) := by decide +kernel
theorem dX10_readsParts_125 : decode cX10_readsParts 125 = .ok (.goto 7, 3) := by decide +kernel
theorem dX10_readsParts_128 : decode cX10_readsParts 128 = .ok (.aload_n 0, 1) := by decide +kernel
theorem dX10_readsParts_129 : decode cX10_readsParts 129 = .ok (.getfield 130, 3) := by decide +kernel
theorem dX10_readsParts_132 : decode cX10_readsParts 132 = .ok (.putfield 130, 3) := by decide +kernel
theorem dX10_readsParts_135 : decode cX10_readsParts 135 = .ok (.aload_n 0, 1) := by decide +kernel
theorem dX10_readsParts_136 : decode cX10_readsParts 136 = .ok (.iload_n 1, 1) := by decide +kernel
theorem dX10_readsParts_137 : decode cX10_readsParts 137 = .ok (.iconst 1, 1) := by decide +kernel
theorem dX10_readsParts_138 : decode cX10_readsParts 138 = .ok (.if_icmp .ne 7, 3) := by decide +kernel
theorem dX10_readsParts_141 : decode cX10_readsParts 141 = .ok (.iload_n 3, 1) := by decide +kernel
theorem dX10_readsParts_142 : decode cX10_readsParts 142 = .ok (.goto 7, 3) := by decide +kernel
theorem dX10_readsParts_145 : decode cX10_readsParts 145 = .ok (.aload_n 0, 1) := by decide +kernel
theorem dX10_readsParts_146 : decode cX10_readsParts 146 = .ok (.getfield 134, 3) := by decide +kernel
theorem dX10_readsParts_149 : decode cX10_readsParts 149 = .ok (.putfield 134, 3) := by decide +kernel
theorem dX10_readsParts_152 : decode cX10_readsParts 152 = .ok (.iconst (-1), 1) := by decide +kernel
theorem dX10_readsParts_153 : decode cX10_readsParts 153 = .ok (.ireturn, 1) := by decide +kernel
theorem dX10_readsParts_154 : decode cX10_readsParts 154 = .ok (.aload_n 0, 1) := by decide +kernel
theorem dX10_readsParts_155 : decode cX10_readsParts 155 = .ok (.iload_n 1, 1) := by decide +kernel
theorem dX10_readsParts_156 : decode cX10_readsParts 156 = .ok (.iload 4, 2) := by decide +kernel
theorem dX10_readsParts_158 : decode cX10_readsParts 158 = .ok (.invokevirtual 114, 3) := by decide +kernel
theorem dX10_readsParts_161 : decode cX10_readsParts 161 = .ok (.bipush 59, 2) := by decide +kernel
theorem dX10_readsParts_163 : decode cX10_readsParts 163 = .ok (.if_icmp .eq 6, 3) := by decide +kernel
theorem dX10_readsParts_166 : decode cX10_readsParts 166 = .ok (.iload 4, 2) := by decide +kernel
theorem dX10_readsParts_168 : decode cX10_readsParts 168 = .ok (.ireturn, 1) := by decide +kernel
theorem dX10_readsParts_169 : decode cX10_readsParts 169 = .ok (.iinc 4 1, 3) := by decide +kernel
theorem dX10_readsParts_172 : decode cX10_readsParts 172 = .ok (.goto (-124), 3) := by decide +kernel
theorem dX10_readsParts_175 : decode cX10_readsParts 175 = .ok (.iconst (-1), 1) := by decide +kernel
theorem dX10_readsParts_176 : decode cX10_readsParts 176 = .ok (.ireturn, 1) := by decide +kernel
theorem dX10_faultOf_0 : decode cX10_faultOf 0 = .ok (.aload_n 0, 1) := by decide +kernel
theorem dX10_faultOf_1 : decode cX10_faultOf 1 = .ok (.iconst 0, 1) := by decide +kernel
theorem dX10_faultOf_2 : decode cX10_faultOf 2 = .ok (.invokevirtual 143, 3) := by decide +kernel
theorem dX10_faultOf_5 : decode cX10_faultOf 5 = .ok (.istore_n 2, 1) := by decide +kernel
theorem dX10_faultOf_6 : decode cX10_faultOf 6 = .ok (.aload_n 0, 1) := by decide +kernel
theorem dX10_faultOf_7 : decode cX10_faultOf 7 = .ok (.iconst 1, 1) := by decide +kernel
theorem dX10_faultOf_8 : decode cX10_faultOf 8 = .ok (.invokevirtual 143, 3) := by decide +kernel
theorem dX10_faultOf_11 : decode cX10_faultOf 11 = .ok (.istore_n 3, 1) := by decide +kernel
theorem dX10_faultOf_12 : decode cX10_faultOf 12 = .ok (.iload_n 1, 1) := by decide +kernel
theorem dX10_faultOf_13 : decode cX10_faultOf 13 = .ok (.ifCond .ne 7, 3) := by decide +kernel
theorem dX10_faultOf_16 : decode cX10_faultOf 16 = .ok (.iload_n 2, 1) := by decide +kernel
theorem dX10_faultOf_17 : decode cX10_faultOf 17 = .ok (.goto 4, 3) := by decide +kernel
theorem dX10_faultOf_20 : decode cX10_faultOf 20 = .ok (.iload_n 3, 1) := by decide +kernel
theorem dX10_faultOf_21 : decode cX10_faultOf 21 = .ok (.ireturn, 1) := by decide +kernel
theorem dX10_reads_0 : decode cX10_reads 0 = .ok (.aload_n 0, 1) := by decide +kernel
theorem dX10_reads_1 : decode cX10_reads 1 = .ok (.iconst 0, 1) := by decide +kernel
theorem dX10_reads_2 : decode cX10_reads 2 = .ok (.invokevirtual 147, 3) := by decide +kernel
theorem dX10_reads_5 : decode cX10_reads 5 = .ok (.istore_n 1, 1) := by decide +kernel
theorem dX10_reads_6 : decode cX10_reads 6 = .ok (.return_, 1) := by decide +kernel
theorem dX10_fault_0 : decode cX10_fault 0 = .ok (.iload_n 1, 1) := by decide +kernel
theorem dX10_fault_1 : decode cX10_fault 1 = .ok (.invokestatic 110, 3) := by decide +kernel
theorem dX10_fault_4 : decode cX10_fault 4 = .ok (.ifCond .eq 11, 3) := by decide +kernel
theorem dX10_fault_7 : decode cX10_fault 7 = .ok (.aload_n 0, 1) := by decide +kernel
theorem dX10_fault_8 : decode cX10_fault 8 = .ok (.iload_n 1, 1) := by decide +kernel
theorem dX10_fault_9 : decode cX10_fault 9 = .ok (.invokevirtual 147, 3) := by decide +kernel
theorem dX10_fault_12 : decode cX10_fault 12 = .ok (.goto 5, 3) := by decide +kernel
theorem dX10_fault_15 : decode cX10_fault 15 = .ok (.bipush (-2), 2) := by decide +kernel
theorem dX10_fault_17 : decode cX10_fault 17 = .ok (.ireturn, 1) := by decide +kernel
theorem dX10_isOne_0 : decode cX10_isOne 0 = .ok (.aload_n 0, 1) := by decide +kernel
theorem dX10_isOne_1 : decode cX10_isOne 1 = .ok (.invokevirtual 150, 3) := by decide +kernel
theorem dX10_isOne_4 : decode cX10_isOne 4 = .ok (.iload_n 1, 1) := by decide +kernel
theorem dX10_isOne_5 : decode cX10_isOne 5 = .ok (.iconst 0, 1) := by decide +kernel
theorem dX10_isOne_6 : decode cX10_isOne 6 = .ok (.aload_n 0, 1) := by decide +kernel
theorem dX10_isOne_7 : decode cX10_isOne 7 = .ok (.getfield 130, 3) := by decide +kernel
theorem dX10_isOne_10 : decode cX10_isOne 10 = .ok (.iconst 1, 1) := by decide +kernel
theorem dX10_isOne_11 : decode cX10_isOne 11 = .ok (.isub, 1) := by decide +kernel
theorem dX10_isOne_12 : decode cX10_isOne 12 = .ok (.invokestatic 106, 3) := by decide +kernel
theorem dX10_isOne_15 : decode cX10_isOne 15 = .ok (.ireturn, 1) := by decide +kernel
theorem dX10_isNeed_0 : decode cX10_isNeed 0 = .ok (.aload_n 0, 1) := by decide +kernel
theorem dX10_isNeed_1 : decode cX10_isNeed 1 = .ok (.invokevirtual 150, 3) := by decide +kernel
theorem dX10_isNeed_4 : decode cX10_isNeed 4 = .ok (.iload_n 1, 1) := by decide +kernel
theorem dX10_isNeed_5 : decode cX10_isNeed 5 = .ok (.iconst 0, 1) := by decide +kernel
theorem dX10_isNeed_6 : decode cX10_isNeed 6 = .ok (.aload_n 0, 1) := by decide +kernel
theorem dX10_isNeed_7 : decode cX10_isNeed 7 = .ok (.getfield 134, 3) := by decide +kernel
theorem dX10_isNeed_10 : decode cX10_isNeed 10 = .ok (.iconst 1, 1) := by decide +kernel
theorem dX10_isNeed_11 : decode cX10_isNeed 11 = .ok (.isub, 1) := by decide +kernel
theorem dX10_isNeed_12 : decode cX10_isNeed 12 = .ok (.invokestatic 106, 3) := by decide +kernel
theorem dX10_isNeed_15 : decode cX10_isNeed 15 = .ok (.ireturn, 1) := by decide +kernel
theorem dX10_goneOf_0 : decode cX10_goneOf 0 = .ok (.iload_n 2, 1) := by decide +kernel
theorem dX10_goneOf_1 : decode cX10_goneOf 1 = .ok (.ifCond .ne 12, 3) := by decide +kernel
theorem dX10_goneOf_4 : decode cX10_goneOf 4 = .ok (.aload_n 0, 1) := by decide +kernel
theorem dX10_goneOf_5 : decode cX10_goneOf 5 = .ok (.getfield 16, 3) := by decide +kernel
theorem dX10_goneOf_8 : decode cX10_goneOf 8 = .ok (.iload_n 1, 1) := by decide +kernel
theorem dX10_goneOf_9 : decode cX10_goneOf 9 = .ok (.iaload, 1) := by decide +kernel
theorem dX10_goneOf_10 : decode cX10_goneOf 10 = .ok (.goto 37, 3) := by decide +kernel
theorem dX10_goneOf_13 : decode cX10_goneOf 13 = .ok (.iload_n 2, 1) := by decide +kernel
theorem dX10_goneOf_14 : decode cX10_goneOf 14 = .ok (.iconst 1, 1) := by decide +kernel
theorem dX10_goneOf_15 : decode cX10_goneOf 15 = .ok (.if_icmp .ne 12, 3) := by decide +kernel
theorem dX10_goneOf_18 : decode cX10_goneOf 18 = .ok (.aload_n 0, 1) := by decide +kernel
theorem dX10_goneOf_19 : decode cX10_goneOf 19 = .ok (.getfield 19, 3) := by decide +kernel
theorem dX10_goneOf_22 : decode cX10_goneOf 22 = .ok (.iload_n 1, 1) := by decide +kernel
theorem dX10_goneOf_23 : decode cX10_goneOf 23 = .ok (.iaload, 1) := by decide +kernel
theorem dX10_goneOf_24 : decode cX10_goneOf 24 = .ok (.goto 23, 3) := by decide +kernel
theorem dX10_goneOf_27 : decode cX10_goneOf 27 = .ok (.iload_n 2, 1) := by decide +kernel
theorem dX10_goneOf_28 : decode cX10_goneOf 28 = .ok (.iconst 2, 1) := by decide +kernel
theorem dX10_goneOf_29 : decode cX10_goneOf 29 = .ok (.if_icmp .ne 12, 3) := by decide +kernel
theorem dX10_goneOf_32 : decode cX10_goneOf 32 = .ok (.aload_n 0, 1) := by decide +kernel
theorem dX10_goneOf_33 : decode cX10_goneOf 33 = .ok (.getfield 22, 3) := by decide +kernel
theorem dX10_goneOf_36 : decode cX10_goneOf 36 = .ok (.iload_n 1, 1) := by decide +kernel
theorem dX10_goneOf_37 : decode cX10_goneOf 37 = .ok (.iaload, 1) := by decide +kernel
theorem dX10_goneOf_38 : decode cX10_goneOf 38 = .ok (.goto 9, 3) := by decide +kernel
theorem dX10_goneOf_41 : decode cX10_goneOf 41 = .ok (.aload_n 0, 1) := by decide +kernel
theorem dX10_goneOf_42 : decode cX10_goneOf 42 = .ok (.getfield 25, 3) := by decide +kernel
theorem dX10_goneOf_45 : decode cX10_goneOf 45 = .ok (.iload_n 1, 1) := by decide +kernel
theorem dX10_goneOf_46 : decode cX10_goneOf 46 = .ok (.iaload, 1) := by decide +kernel
theorem dX10_goneOf_47 : decode cX10_goneOf 47 = .ok (.ireturn, 1) := by decide +kernel
theorem dX10_gone_0 : decode cX10_gone 0 = .ok (.aload_n 0, 1) := by decide +kernel
theorem dX10_gone_1 : decode cX10_gone 1 = .ok (.iload_n 1, 1) := by decide +kernel
theorem dX10_gone_2 : decode cX10_gone 2 = .ok (.invokevirtual 153, 3) := by decide +kernel
theorem dX10_gone_5 : decode cX10_gone 5 = .ok (.ifCond .eq 21, 3) := by decide +kernel
theorem dX10_gone_8 : decode cX10_gone 8 = .ok (.iload_n 2, 1) := by decide +kernel
theorem dX10_gone_9 : decode cX10_gone 9 = .ok (.iconst 0, 1) := by decide +kernel
theorem dX10_gone_10 : decode cX10_gone 10 = .ok (.iconst 3, 1) := by decide +kernel
theorem dX10_gone_11 : decode cX10_gone 11 = .ok (.invokestatic 106, 3) := by decide +kernel
theorem dX10_gone_14 : decode cX10_gone 14 = .ok (.ifCond .eq 12, 3) := by decide +kernel
theorem dX10_gone_17 : decode cX10_gone 17 = .ok (.aload_n 0, 1) := by decide +kernel
theorem dX10_gone_18 : decode cX10_gone 18 = .ok (.iload_n 1, 1) := by decide +kernel
theorem dX10_gone_19 : decode cX10_gone 19 = .ok (.iload_n 2, 1) := by decide +kernel
theorem dX10_gone_20 : decode cX10_gone 20 = .ok (.invokevirtual 156, 3) := by decide +kernel
theorem dX10_gone_23 : decode cX10_gone 23 = .ok (.goto 5, 3) := by decide +kernel
theorem dX10_gone_26 : decode cX10_gone 26 = .ok (.bipush (-2), 2) := by decide +kernel
theorem dX10_gone_28 : decode cX10_gone 28 = .ok (.ireturn, 1) := by decide +kernel
theorem dX10_needOf_0 : decode cX10_needOf 0 = .ok (.iload_n 2, 1) := by decide +kernel
theorem dX10_needOf_1 : decode cX10_needOf 1 = .ok (.ifCond .ne 12, 3) := by decide +kernel
theorem dX10_needOf_4 : decode cX10_needOf 4 = .ok (.aload_n 0, 1) := by decide +kernel
theorem dX10_needOf_5 : decode cX10_needOf 5 = .ok (.getfield 28, 3) := by decide +kernel
theorem dX10_needOf_8 : decode cX10_needOf 8 = .ok (.iload_n 1, 1) := by decide +kernel
theorem dX10_needOf_9 : decode cX10_needOf 9 = .ok (.iaload, 1) := by decide +kernel
theorem dX10_needOf_10 : decode cX10_needOf 10 = .ok (.goto 23, 3) := by decide +kernel
theorem dX10_needOf_13 : decode cX10_needOf 13 = .ok (.iload_n 2, 1) := by decide +kernel
theorem dX10_needOf_14 : decode cX10_needOf 14 = .ok (.iconst 1, 1) := by decide +kernel
theorem dX10_needOf_15 : decode cX10_needOf 15 = .ok (.if_icmp .ne 12, 3) := by decide +kernel
theorem dX10_needOf_18 : decode cX10_needOf 18 = .ok (.aload_n 0, 1) := by decide +kernel
theorem dX10_needOf_19 : decode cX10_needOf 19 = .ok (.getfield 31, 3) := by decide +kernel
theorem dX10_needOf_22 : decode cX10_needOf 22 = .ok (.iload_n 1, 1) := by decide +kernel
theorem dX10_needOf_23 : decode cX10_needOf 23 = .ok (.iaload, 1) := by decide +kernel
theorem dX10_needOf_24 : decode cX10_needOf 24 = .ok (.goto 9, 3) := by decide +kernel
theorem dX10_needOf_27 : decode cX10_needOf 27 = .ok (.aload_n 0, 1) := by decide +kernel
theorem dX10_needOf_28 : decode cX10_needOf 28 = .ok (.getfield 34, 3) := by decide +kernel
theorem dX10_needOf_31 : decode cX10_needOf 31 = .ok (.iload_n 1, 1) := by decide +kernel
theorem dX10_needOf_32 : decode cX10_needOf 32 = .ok (.iaload, 1) := by decide +kernel
theorem dX10_needOf_33 : decode cX10_needOf 33 = .ok (.ireturn, 1) := by decide +kernel
theorem dX10_need_0 : decode cX10_need 0 = .ok (.aload_n 0, 1) := by decide +kernel
theorem dX10_need_1 : decode cX10_need 1 = .ok (.iload_n 1, 1) := by decide +kernel
theorem dX10_need_2 : decode cX10_need 2 = .ok (.invokevirtual 159, 3) := by decide +kernel
theorem dX10_need_5 : decode cX10_need 5 = .ok (.ifCond .eq 19, 3) := by decide +kernel
theorem dX10_need_8 : decode cX10_need 8 = .ok (.iload_n 2, 1) := by decide +kernel
theorem dX10_need_9 : decode cX10_need 9 = .ok (.invokestatic 162, 3) := by decide +kernel
theorem dX10_need_12 : decode cX10_need 12 = .ok (.ifCond .eq 12, 3) := by decide +kernel
theorem dX10_need_15 : decode cX10_need 15 = .ok (.aload_n 0, 1) := by decide +kernel
theorem dX10_need_16 : decode cX10_need 16 = .ok (.iload_n 1, 1) := by decide +kernel
theorem dX10_need_17 : decode cX10_need 17 = .ok (.iload_n 2, 1) := by decide +kernel
theorem dX10_need_18 : decode cX10_need 18 = .ok (.invokevirtual 165, 3) := by decide +kernel
theorem dX10_need_21 : decode cX10_need 21 = .ok (.goto 5, 3) := by decide +kernel
theorem dX10_need_24 : decode cX10_need 24 = .ok (.bipush (-2), 2) := by decide +kernel
theorem dX10_need_26 : decode cX10_need 26 = .ok (.ireturn, 1) := by decide +kernel
theorem dX10_event_0 : decode cX10_event 0 = .ok (.iload_n 1, 1) := by decide +kernel
theorem dX10_event_1 : decode cX10_event 1 = .ok (.invokestatic 168, 3) := by decide +kernel
theorem dX10_event_4 : decode cX10_event 4 = .ok (.ifCond .eq 17, 3) := by decide +kernel
theorem dX10_event_7 : decode cX10_event 7 = .ok (.iload_n 2, 1) := by decide +kernel
theorem dX10_event_8 : decode cX10_event 8 = .ok (.invokestatic 127, 3) := by decide +kernel
theorem dX10_event_11 : decode cX10_event 11 = .ok (.ifCond .eq 10, 3) := by decide +kernel
theorem dX10_event_14 : decode cX10_event 14 = .ok (.iload_n 3, 1) := by decide +kernel
theorem dX10_event_15 : decode cX10_event 15 = .ok (.invokestatic 118, 3) := by decide +kernel
theorem dX10_event_18 : decode cX10_event 18 = .ok (.ifCond .ne 6, 3) := by decide +kernel
theorem dX10_event_21 : decode cX10_event 21 = .ok (.bipush (-2), 2) := by decide +kernel
theorem dX10_event_23 : decode cX10_event 23 = .ok (.ireturn, 1) := by decide +kernel
theorem dX10_event_24 : decode cX10_event 24 = .ok (.aload_n 0, 1) := by decide +kernel
theorem dX10_event_25 : decode cX10_event 25 = .ok (.getfield 171, 3) := by decide +kernel
theorem dX10_event_28 : decode cX10_event 28 = .ok (.bipush 8, 2) := by decide +kernel
theorem dX10_event_30 : decode cX10_event 30 = .ok (.if_icmp .ne 6, 3) := by decide +kernel
theorem dX10_event_33 : decode cX10_event 33 = .ok (.bipush (-4), 2) := by decide +kernel
theorem dX10_event_35 : decode cX10_event 35 = .ok (.ireturn, 1) := by decide +kernel
theorem dX10_event_36 : decode cX10_event 36 = .ok (.aload_n 0, 1) := by decide +kernel
theorem dX10_event_37 : decode cX10_event 37 = .ok (.getfield 37, 3) := by decide +kernel
theorem dX10_event_40 : decode cX10_event 40 = .ok (.aload_n 0, 1) := by decide +kernel
theorem dX10_event_41 : decode cX10_event 41 = .ok (.getfield 171, 3) := by decide +kernel
theorem dX10_event_44 : decode cX10_event 44 = .ok (.iload_n 1, 1) := by decide +kernel
theorem dX10_event_45 : decode cX10_event 45 = .ok (.iastore, 1) := by decide +kernel
theorem dX10_event_46 : decode cX10_event 46 = .ok (.aload_n 0, 1) := by decide +kernel
theorem dX10_event_47 : decode cX10_event 47 = .ok (.getfield 40, 3) := by decide +kernel
theorem dX10_event_50 : decode cX10_event 50 = .ok (.aload_n 0, 1) := by decide +kernel
theorem dX10_event_51 : decode cX10_event 51 = .ok (.getfield 171, 3) := by decide +kernel
theorem dX10_event_54 : decode cX10_event 54 = .ok (.iload_n 2, 1) := by decide +kernel
theorem dX10_event_55 : decode cX10_event 55 = .ok (.iastore, 1) := by decide +kernel
theorem dX10_event_56 : decode cX10_event 56 = .ok (.aload_n 0, 1) := by decide +kernel
theorem dX10_event_57 : decode cX10_event 57 = .ok (.getfield 43, 3) := by decide +kernel
theorem dX10_event_60 : decode cX10_event 60 = .ok (.aload_n 0, 1) := by decide +kernel
theorem dX10_event_61 : decode cX10_event 61 = .ok (.getfield 171, 3) := by decide +kernel
theorem dX10_event_64 : decode cX10_event 64 = .ok (.iload_n 3, 1) := by decide +kernel
theorem dX10_event_65 : decode cX10_event 65 = .ok (.iastore, 1) := by decide +kernel
theorem dX10_event_66 : decode cX10_event 66 = .ok (.aload_n 0, 1) := by decide +kernel
theorem dX10_event_67 : decode cX10_event 67 = .ok (.dup, 1) := by decide +kernel
theorem dX10_event_68 : decode cX10_event 68 = .ok (.getfield 171, 3) := by decide +kernel
theorem dX10_event_71 : decode cX10_event 71 = .ok (.iconst 1, 1) := by decide +kernel
theorem dX10_event_72 : decode cX10_event 72 = .ok (.iadd, 1) := by decide +kernel
theorem dX10_event_73 : decode cX10_event 73 = .ok (.putfield 171, 3) := by decide +kernel
theorem dX10_event_76 : decode cX10_event 76 = .ok (.aload_n 0, 1) := by decide +kernel
theorem dX10_event_77 : decode cX10_event 77 = .ok (.getfield 171, 3) := by decide +kernel
theorem dX10_event_80 : decode cX10_event 80 = .ok (.ireturn, 1) := by decide +kernel
theorem dX10_back_0 : decode cX10_back 0 = .ok (.aload_n 0, 1) := by decide +kernel
theorem dX10_back_1 : decode cX10_back 1 = .ok (.getfield 171, 3) := by decide +kernel
theorem dX10_back_4 : decode cX10_back 4 = .ok (.ifCond .ne 6, 3) := by decide +kernel
theorem dX10_back_7 : decode cX10_back 7 = .ok (.bipush (-3), 2) := by decide +kernel
theorem dX10_back_9 : decode cX10_back 9 = .ok (.ireturn, 1) := by decide +kernel
theorem dX10_back_10 : decode cX10_back 10 = .ok (.aload_n 0, 1) := by decide +kernel
theorem dX10_back_11 : decode cX10_back 11 = .ok (.dup, 1) := by decide +kernel
theorem dX10_back_12 : decode cX10_back 12 = .ok (.getfield 171, 3) := by decide +kernel
theorem dX10_back_15 : decode cX10_back 15 = .ok (.iconst 1, 1) := by decide +kernel
theorem dX10_back_16 : decode cX10_back 16 = .ok (.isub, 1) := by decide +kernel
theorem dX10_back_17 : decode cX10_back 17 = .ok (.putfield 171, 3) := by decide +kernel
theorem dX10_back_20 : decode cX10_back 20 = .ok (.aload_n 0, 1) := by decide +kernel
theorem dX10_back_21 : decode cX10_back 21 = .ok (.getfield 171, 3) := by decide +kernel
theorem dX10_back_24 : decode cX10_back 24 = .ok (.ireturn, 1) := by decide +kernel
theorem dX10_read_0 : decode cX10_read 0 = .ok (.iload_n 1, 1) := by decide +kernel
theorem dX10_read_1 : decode cX10_read 1 = .ok (.invokestatic 174, 3) := by decide +kernel
theorem dX10_read_4 : decode cX10_read 4 = .ok (.ifCond .ne 6, 3) := by decide +kernel
theorem dX10_read_7 : decode cX10_read 7 = .ok (.bipush (-2), 2) := by decide +kernel
theorem dX10_read_9 : decode cX10_read 9 = .ok (.ireturn, 1) := by decide +kernel
theorem dX10_read_10 : decode cX10_read 10 = .ok (.aload_n 0, 1) := by decide +kernel
theorem dX10_read_11 : decode cX10_read 11 = .ok (.getfield 88, 3) := by decide +kernel
theorem dX10_read_14 : decode cX10_read 14 = .ok (.iload_n 1, 1) := by decide +kernel
theorem dX10_read_15 : decode cX10_read 15 = .ok (.baload, 1) := by decide +kernel
theorem dX10_read_16 : decode cX10_read 16 = .ok (.ifCond .ne 9, 3) := by decide +kernel
theorem dX10_read_19 : decode cX10_read 19 = .ok (.aload_n 0, 1) := by decide +kernel
theorem dX10_read_20 : decode cX10_read 20 = .ok (.iconst 1, 1) := by decide +kernel
theorem dX10_read_21 : decode cX10_read 21 = .ok (.invokevirtual 177, 3) := by decide +kernel
theorem dX10_read_24 : decode cX10_read 24 = .ok (.ireturn, 1) := by decide +kernel
theorem dX10_read_25 : decode cX10_read 25 = .ok (.iconst 0, 1) := by decide +kernel
theorem dX10_read_26 : decode cX10_read 26 = .ok (.istore_n 2, 1) := by decide +kernel
theorem dX10_read_27 : decode cX10_read 27 = .ok (.bipush 60, 2) := by decide +kernel
theorem dX10_read_29 : decode cX10_read 29 = .ok (.iload_n 1, 1) := by decide +kernel
theorem dX10_read_30 : decode cX10_read 30 = .ok (.imul, 1) := by decide +kernel
theorem dX10_read_31 : decode cX10_read 31 = .ok (.istore_n 3, 1) := by decide +kernel
theorem dX10_read_32 : decode cX10_read 32 = .ok (.iconst 3, 1) := by decide +kernel
theorem dX10_read_33 : decode cX10_read 33 = .ok (.iload_n 2, 1) := by decide +kernel
theorem dX10_read_34 : decode cX10_read 34 = .ok (.imul, 1) := by decide +kernel
theorem dX10_read_35 : decode cX10_read 35 = .ok (.iconst 2, 1) := by decide +kernel
theorem dX10_read_36 : decode cX10_read 36 = .ok (.iadd, 1) := by decide +kernel
theorem dX10_read_37 : decode cX10_read 37 = .ok (.aload_n 0, 1) := by decide +kernel
theorem dX10_read_38 : decode cX10_read 38 = .ok (.getfield 95, 3) := by decide +kernel
theorem dX10_read_41 : decode cX10_read 41 = .ok (.iload_n 1, 1) := by decide +kernel
theorem dX10_read_42 : decode cX10_read 42 = .ok (.iaload, 1) := by decide +kernel
theorem dX10_read_43 : decode cX10_read 43 = .ok (.if_icmp .ge 50, 3) := by decide +kernel
theorem dX10_read_46 : decode cX10_read 46 = .ok (.aload_n 0, 1) := by decide +kernel
theorem dX10_read_47 : decode cX10_read 47 = .ok (.aload_n 0, 1) := by decide +kernel
theorem dX10_read_48 : decode cX10_read 48 = .ok (.getfield 98, 3) := by decide +kernel
theorem dX10_read_51 : decode cX10_read 51 = .ok (.iload_n 3, 1) := by decide +kernel
theorem dX10_read_52 : decode cX10_read 52 = .ok (.iconst 3, 1) := by decide +kernel
theorem dX10_read_53 : decode cX10_read 53 = .ok (.iload_n 2, 1) := by decide +kernel
theorem dX10_read_54 : decode cX10_read 54 = .ok (.imul, 1) := by decide +kernel
theorem dX10_read_55 : decode cX10_read 55 = .ok (.iadd, 1) := by decide +kernel
theorem dX10_read_56 : decode cX10_read 56 = .ok (.iaload, 1) := by decide +kernel
theorem dX10_read_57 : decode cX10_read 57 = .ok (.aload_n 0, 1) := by decide +kernel
theorem dX10_read_58 : decode cX10_read 58 = .ok (.getfield 98, 3) := by decide +kernel
theorem dX10_read_61 : decode cX10_read 61 = .ok (.iload_n 3, 1) := by decide +kernel
theorem dX10_read_62 : decode cX10_read 62 = .ok (.iconst 3, 1) := by decide +kernel
theorem dX10_read_63 : decode cX10_read 63 = .ok (.iload_n 2, 1) := by decide +kernel
theorem dX10_read_64 : decode cX10_read 64 = .ok (.imul, 1) := by decide +kernel
theorem dX10_read_65 : decode cX10_read 65 = .ok (.iadd, 1) := by decide +kernel
theorem dX10_read_66 : decode cX10_read 66 = .ok (.iconst 1, 1) := by decide +kernel
theorem dX10_read_67 : decode cX10_read 67 = .ok (.iadd, 1) := by decide +kernel
theorem dX10_read_68 : decode cX10_read 68 = .ok (.iaload, 1) := by decide +kernel
theorem dX10_read_69 : decode cX10_read 69 = .ok (.aload_n 0, 1) := by decide +kernel
theorem dX10_read_70 : decode cX10_read 70 = .ok (.getfield 98, 3) := by decide +kernel
theorem dX10_read_73 : decode cX10_read 73 = .ok (.iload_n 3, 1) := by decide +kernel
theorem dX10_read_74 : decode cX10_read 74 = .ok (.iconst 3, 1) := by decide +kernel
theorem dX10_read_75 : decode cX10_read 75 = .ok (.iload_n 2, 1) := by decide +kernel
theorem dX10_read_76 : decode cX10_read 76 = .ok (.imul, 1) := by decide +kernel
theorem dX10_read_77 : decode cX10_read 77 = .ok (.iadd, 1) := by decide +kernel
theorem dX10_read_78 : decode cX10_read 78 = .ok (.iconst 2, 1) := by decide +kernel
theorem dX10_read_79 : decode cX10_read 79 = .ok (.iadd, 1) := by decide +kernel
theorem dX10_read_80 : decode cX10_read 80 = .ok (.iaload, 1) := by decide +kernel
theorem dX10_read_81 : decode cX10_read 81 = .ok (.invokevirtual 180, 3) := by decide +kernel
theorem dX10_read_84 : decode cX10_read 84 = .ok (.ifCond .le 9, 3) := by decide +kernel
theorem dX10_read_87 : decode cX10_read 87 = .ok (.iinc 2 1, 3) := by decide +kernel
theorem dX10_read_90 : decode cX10_read 90 = .ok (.goto (-58), 3) := by decide +kernel
theorem dX10_read_93 : decode cX10_read 93 = .ok (.iload_n 2, 1) := by decide +kernel
theorem dX10_read_94 : decode cX10_read 94 = .ok (.ireturn, 1) := by decide +kernel
theorem dX10_asTold_0 : decode cX10_asTold 0 = .ok (.aload_n 0, 1) := by decide +kernel
theorem dX10_asTold_1 : decode cX10_asTold 1 = .ok (.invokevirtual 150, 3) := by decide +kernel
theorem dX10_asTold_4 : decode cX10_asTold 4 = .ok (.aload_n 0, 1) := by decide +kernel
theorem dX10_asTold_5 : decode cX10_asTold 5 = .ok (.aload_n 0, 1) := by decide +kernel
theorem dX10_asTold_6 : decode cX10_asTold 6 = .ok (.getfield 171, 3) := by decide +kernel
theorem dX10_asTold_9 : decode cX10_asTold 9 = .ok (.putfield 184, 3) := by decide +kernel
theorem dX10_asTold_12 : decode cX10_asTold 12 = .ok (.iconst 0, 1) := by decide +kernel
theorem dX10_asTold_13 : decode cX10_asTold 13 = .ok (.istore_n 1, 1) := by decide +kernel
theorem dX10_asTold_14 : decode cX10_asTold 14 = .ok (.iload_n 1, 1) := by decide +kernel
theorem dX10_asTold_15 : decode cX10_asTold 15 = .ok (.aload_n 0, 1) := by decide +kernel
theorem dX10_asTold_16 : decode cX10_asTold 16 = .ok (.getfield 171, 3) := by decide +kernel
theorem dX10_asTold_19 : decode cX10_asTold 19 = .ok (.if_icmp .ge 45, 3) := by decide +kernel
theorem dX10_asTold_22 : decode cX10_asTold 22 = .ok (.aload_n 0, 1) := by decide +kernel
theorem dX10_asTold_23 : decode cX10_asTold 23 = .ok (.getfield 46, 3) := by decide +kernel
theorem dX10_asTold_26 : decode cX10_asTold 26 = .ok (.iload_n 1, 1) := by decide +kernel
theorem dX10_asTold_27 : decode cX10_asTold 27 = .ok (.aload_n 0, 1) := by decide +kernel
theorem dX10_asTold_28 : decode cX10_asTold 28 = .ok (.getfield 37, 3) := by decide +kernel
theorem dX10_asTold_31 : decode cX10_asTold 31 = .ok (.iload_n 1, 1) := by decide +kernel
theorem dX10_asTold_32 : decode cX10_asTold 32 = .ok (.iaload, 1) := by decide +kernel
theorem dX10_asTold_33 : decode cX10_asTold 33 = .ok (.iastore, 1) := by decide +kernel
theorem dX10_asTold_34 : decode cX10_asTold 34 = .ok (.aload_n 0, 1) := by decide +kernel
theorem dX10_asTold_35 : decode cX10_asTold 35 = .ok (.getfield 49, 3) := by decide +kernel
theorem dX10_asTold_38 : decode cX10_asTold 38 = .ok (.iload_n 1, 1) := by decide +kernel
theorem dX10_asTold_39 : decode cX10_asTold 39 = .ok (.aload_n 0, 1) := by decide +kernel
theorem dX10_asTold_40 : decode cX10_asTold 40 = .ok (.getfield 40, 3) := by decide +kernel
theorem dX10_asTold_43 : decode cX10_asTold 43 = .ok (.iload_n 1, 1) := by decide +kernel
theorem dX10_asTold_44 : decode cX10_asTold 44 = .ok (.iaload, 1) := by decide +kernel
theorem dX10_asTold_45 : decode cX10_asTold 45 = .ok (.iastore, 1) := by decide +kernel
theorem dX10_asTold_46 : decode cX10_asTold 46 = .ok (.aload_n 0, 1) := by decide +kernel
theorem dX10_asTold_47 : decode cX10_asTold 47 = .ok (.getfield 52, 3) := by decide +kernel
theorem dX10_asTold_50 : decode cX10_asTold 50 = .ok (.iload_n 1, 1) := by decide +kernel
theorem dX10_asTold_51 : decode cX10_asTold 51 = .ok (.aload_n 0, 1) := by decide +kernel
theorem dX10_asTold_52 : decode cX10_asTold 52 = .ok (.getfield 43, 3) := by decide +kernel
theorem dX10_asTold_55 : decode cX10_asTold 55 = .ok (.iload_n 1, 1) := by decide +kernel
theorem dX10_asTold_56 : decode cX10_asTold 56 = .ok (.iaload, 1) := by decide +kernel
theorem dX10_asTold_57 : decode cX10_asTold 57 = .ok (.iastore, 1) := by decide +kernel
theorem dX10_asTold_58 : decode cX10_asTold 58 = .ok (.iinc 1 1, 3) := by decide +kernel
theorem dX10_asTold_61 : decode cX10_asTold 61 = .ok (.goto (-47), 3) := by decide +kernel
theorem dX10_asTold_64 : decode cX10_asTold 64 = .ok (.aload_n 0, 1) := by decide +kernel
theorem dX10_asTold_65 : decode cX10_asTold 65 = .ok (.iconst 0, 1) := by decide +kernel
theorem dX10_asTold_66 : decode cX10_asTold 66 = .ok (.putfield 187, 3) := by decide +kernel
theorem dX10_asTold_69 : decode cX10_asTold 69 = .ok (.return_, 1) := by decide +kernel
theorem dX10_isOpen_0 : decode cX10_isOpen 0 = .ok (.aload_n 0, 1) := by decide +kernel
theorem dX10_isOpen_1 : decode cX10_isOpen 1 = .ok (.getfield 31, 3) := by decide +kernel
theorem dX10_isOpen_4 : decode cX10_isOpen 4 = .ok (.iload_n 1, 1) := by decide +kernel
theorem dX10_isOpen_5 : decode cX10_isOpen 5 = .ok (.iaload, 1) := by decide +kernel
theorem dX10_isOpen_6 : decode cX10_isOpen 6 = .ok (.iload_n 2, 1) := by decide +kernel
theorem dX10_isOpen_7 : decode cX10_isOpen 7 = .ok (.if_icmp .gt 17, 3) := by decide +kernel
theorem dX10_isOpen_10 : decode cX10_isOpen 10 = .ok (.aload_n 0, 1) := by decide +kernel
theorem dX10_isOpen_11 : decode cX10_isOpen 11 = .ok (.getfield 58, 3) := by decide +kernel
theorem dX10_isOpen_14 : decode cX10_isOpen 14 = .ok (.iload_n 1, 1) := by decide +kernel
theorem dX10_isOpen_15 : decode cX10_isOpen 15 = .ok (.iaload, 1) := by decide +kernel
theorem dX10_isOpen_16 : decode cX10_isOpen 16 = .ok (.iconst (-1), 1) := by decide +kernel
theorem dX10_isOpen_17 : decode cX10_isOpen 17 = .ok (.if_icmp .ne 7, 3) := by decide +kernel
theorem dX10_isOpen_20 : decode cX10_isOpen 20 = .ok (.iconst 1, 1) := by decide +kernel
theorem dX10_isOpen_21 : decode cX10_isOpen 21 = .ok (.goto 4, 3) := by decide +kernel
theorem dX10_isOpen_24 : decode cX10_isOpen 24 = .ok (.iconst 0, 1) := by decide +kernel
theorem dX10_isOpen_25 : decode cX10_isOpen 25 = .ok (.ireturn, 1) := by decide +kernel
theorem dX10_wanted_0 : decode cX10_wanted 0 = .ok (.iconst 0, 1) := by decide +kernel
theorem dX10_wanted_1 : decode cX10_wanted 1 = .ok (.istore_n 3, 1) := by decide +kernel
theorem dX10_wanted_2 : decode cX10_wanted 2 = .ok (.iconst 0, 1) := by decide +kernel
theorem dX10_wanted_3 : decode cX10_wanted 3 = .ok (.istore 4, 2) := by decide +kernel
theorem dX10_wanted_5 : decode cX10_wanted 5 = .ok (.iload 4, 2) := by decide +kernel
theorem dX10_wanted_7 : decode cX10_wanted 7 = .ok (.aload_n 0, 1) := by decide +kernel
theorem dX10_wanted_8 : decode cX10_wanted 8 = .ok (.getfield 134, 3) := by decide +kernel
theorem dX10_wanted_11 : decode cX10_wanted 11 = .ok (.if_icmp .ge 70, 3) := by decide +kernel
theorem dX10_wanted_14 : decode cX10_wanted 14 = .ok (.aload_n 0, 1) := by decide +kernel
theorem dX10_wanted_15 : decode cX10_wanted 15 = .ok (.getfield 34, 3) := by decide +kernel
theorem dX10_wanted_18 : decode cX10_wanted 18 = .ok (.iload 4, 2) := by decide +kernel
theorem dX10_wanted_20 : decode cX10_wanted 20 = .ok (.iaload, 1) := by decide +kernel
theorem dX10_wanted_21 : decode cX10_wanted 21 = .ok (.iload_n 2, 1) := by decide +kernel
theorem dX10_wanted_22 : decode cX10_wanted 22 = .ok (.iadd, 1) := by decide +kernel
theorem dX10_wanted_23 : decode cX10_wanted 23 = .ok (.aload_n 0, 1) := by decide +kernel
theorem dX10_wanted_24 : decode cX10_wanted 24 = .ok (.getfield 31, 3) := by decide +kernel
theorem dX10_wanted_27 : decode cX10_wanted 27 = .ok (.iload 4, 2) := by decide +kernel
theorem dX10_wanted_29 : decode cX10_wanted 29 = .ok (.iaload, 1) := by decide +kernel
theorem dX10_wanted_30 : decode cX10_wanted 30 = .ok (.isub, 1) := by decide +kernel
theorem dX10_wanted_31 : decode cX10_wanted 31 = .ok (.istore 5, 2) := by decide +kernel
theorem dX10_wanted_33 : decode cX10_wanted 33 = .ok (.iload_n 3, 1) := by decide +kernel
theorem dX10_wanted_34 : decode cX10_wanted 34 = .ok (.aload_n 0, 1) := by decide +kernel
theorem dX10_wanted_35 : decode cX10_wanted 35 = .ok (.getfield 28, 3) := by decide +kernel
theorem dX10_wanted_38 : decode cX10_wanted 38 = .ok (.iload 4, 2) := by decide +kernel
theorem dX10_wanted_40 : decode cX10_wanted 40 = .ok (.iaload, 1) := by decide +kernel
theorem dX10_wanted_41 : decode cX10_wanted 41 = .ok (.iload_n 1, 1) := by decide +kernel
theorem dX10_wanted_42 : decode cX10_wanted 42 = .ok (.if_icmp .ne 30, 3) := by decide +kernel
theorem dX10_wanted_45 : decode cX10_wanted 45 = .ok (.aload_n 0, 1) := by decide +kernel
theorem dX10_wanted_46 : decode cX10_wanted 46 = .ok (.iload 4, 2) := by decide +kernel
theorem dX10_wanted_48 : decode cX10_wanted 48 = .ok (.iload_n 2, 1) := by decide +kernel
theorem dX10_wanted_49 : decode cX10_wanted 49 = .ok (.invokevirtual 190, 3) := by decide +kernel
theorem dX10_wanted_52 : decode cX10_wanted 52 = .ok (.ifCond .eq 20, 3) := by decide +kernel
theorem dX10_wanted_55 : decode cX10_wanted 55 = .ok (.iload 5, 2) := by decide +kernel
theorem dX10_wanted_57 : decode cX10_wanted 57 = .ok (.bipush 9, 2) := by decide +kernel
theorem dX10_wanted_59 : decode cX10_wanted 59 = .ok (.if_icmp .ge 8, 3) := by decide +kernel
theorem dX10_wanted_62 : decode cX10_wanted 62 = .ok (.iload 5, 2) := by decide +kernel
theorem dX10_wanted_64 : decode cX10_wanted 64 = .ok (.goto 9, 3) := by decide +kernel
theorem dX10_wanted_67 : decode cX10_wanted 67 = .ok (.bipush 9, 2) := by decide +kernel
theorem dX10_wanted_69 : decode cX10_wanted 69 = .ok (.goto 4, 3) := by decide +kernel
theorem dX10_wanted_72 : decode cX10_wanted 72 = .ok (.iconst 0, 1) := by decide +kernel
theorem dX10_wanted_73 : decode cX10_wanted 73 = .ok (.iadd, 1) := by decide +kernel
theorem dX10_wanted_74 : decode cX10_wanted 74 = .ok (.istore_n 3, 1) := by decide +kernel
theorem dX10_wanted_75 : decode cX10_wanted 75 = .ok (.iinc 4 1, 3) := by decide +kernel
theorem dX10_wanted_78 : decode cX10_wanted 78 = .ok (.goto (-73), 3) := by decide +kernel
theorem dX10_wanted_81 : decode cX10_wanted 81 = .ok (.iload_n 3, 1) := by decide +kernel
theorem dX10_wanted_82 : decode cX10_wanted 82 = .ok (.ireturn, 1) := by decide +kernel
theorem dX10_pull_0 : decode cX10_pull 0 = .ok (.aload_n 0, 1) := by decide +kernel
theorem dX10_pull_1 : decode cX10_pull 1 = .ok (.iload_n 1, 1) := by decide +kernel
theorem dX10_pull_2 : decode cX10_pull 2 = .ok (.iload_n 2, 1) := by decide +kernel
theorem dX10_pull_3 : decode cX10_pull 3 = .ok (.invokevirtual 194, 3) := by decide +kernel
theorem dX10_pull_6 : decode cX10_pull 6 = .ok (.istore_n 3, 1) := by decide +kernel
theorem dX10_pull_7 : decode cX10_pull 7 = .ok (.aload_n 0, 1) := by decide +kernel
theorem dX10_pull_8 : decode cX10_pull 8 = .ok (.getfield 16, 3) := by decide +kernel
theorem dX10_pull_11 : decode cX10_pull 11 = .ok (.iload_n 1, 1) := by decide +kernel
theorem dX10_pull_12 : decode cX10_pull 12 = .ok (.iaload, 1) := by decide +kernel
theorem dX10_pull_13 : decode cX10_pull 13 = .ok (.ifCond .ne 16, 3) := by decide +kernel
theorem dX10_pull_16 : decode cX10_pull 16 = .ok (.iload_n 3, 1) := by decide +kernel
theorem dX10_pull_17 : decode cX10_pull 17 = .ok (.aload_n 0, 1) := by decide +kernel
theorem dX10_pull_18 : decode cX10_pull 18 = .ok (.getfield 25, 3) := by decide +kernel
theorem dX10_pull_21 : decode cX10_pull 21 = .ok (.iload_n 1, 1) := by decide +kernel
theorem dX10_pull_22 : decode cX10_pull 22 = .ok (.iaload, 1) := by decide +kernel
theorem dX10_pull_23 : decode cX10_pull 23 = .ok (.iconst 2, 1) := by decide +kernel
theorem dX10_pull_24 : decode cX10_pull 24 = .ok (.idiv, 1) := by decide +kernel
theorem dX10_pull_25 : decode cX10_pull 25 = .ok (.isub, 1) := by decide +kernel
theorem dX10_pull_26 : decode cX10_pull 26 = .ok (.goto 30, 3) := by decide +kernel
theorem dX10_pull_29 : decode cX10_pull 29 = .ok (.aload_n 0, 1) := by decide +kernel
theorem dX10_pull_30 : decode cX10_pull 30 = .ok (.getfield 16, 3) := by decide +kernel
theorem dX10_pull_33 : decode cX10_pull 33 = .ok (.iload_n 1, 1) := by decide +kernel
theorem dX10_pull_34 : decode cX10_pull 34 = .ok (.iaload, 1) := by decide +kernel
theorem dX10_pull_35 : decode cX10_pull 35 = .ok (.iconst 1, 1) := by decide +kernel
theorem dX10_pull_36 : decode cX10_pull 36 = .ok (.if_icmp .ne 14, 3) := by decide +kernel
theorem dX10_pull_39 : decode cX10_pull 39 = .ok (.iload_n 3, 1) := by decide +kernel
theorem dX10_pull_40 : decode cX10_pull 40 = .ok (.aload_n 0, 1) := by decide +kernel
theorem dX10_pull_41 : decode cX10_pull 41 = .ok (.getfield 25, 3) := by decide +kernel
theorem dX10_pull_44 : decode cX10_pull 44 = .ok (.iload_n 1, 1) := by decide +kernel
theorem dX10_pull_45 : decode cX10_pull 45 = .ok (.iaload, 1) := by decide +kernel
theorem dX10_pull_46 : decode cX10_pull 46 = .ok (.isub, 1) := by decide +kernel
theorem dX10_pull_47 : decode cX10_pull 47 = .ok (.goto 9, 3) := by decide +kernel
theorem dX10_pull_50 : decode cX10_pull 50 = .ok (.aload_n 0, 1) := by decide +kernel
theorem dX10_pull_51 : decode cX10_pull 51 = .ok (.getfield 55, 3) := by decide +kernel
theorem dX10_pull_54 : decode cX10_pull 54 = .ok (.iload_n 1, 1) := by decide +kernel
theorem dX10_pull_55 : decode cX10_pull 55 = .ok (.iaload, 1) := by decide +kernel
theorem dX10_pull_56 : decode cX10_pull 56 = .ok (.ireturn, 1) := by decide +kernel
theorem dX10_comesUp_0 : decode cX10_comesUp 0 = .ok (.aload_n 0, 1) := by decide +kernel
theorem dX10_comesUp_1 : decode cX10_comesUp 1 = .ok (.dup, 1) := by decide +kernel
theorem dX10_comesUp_2 : decode cX10_comesUp 2 = .ok (.getfield 197, 3) := by decide +kernel
theorem dX10_comesUp_5 : decode cX10_comesUp 5 = .ok (.aload_n 0, 1) := by decide +kernel
theorem dX10_comesUp_6 : decode cX10_comesUp 6 = .ok (.iload_n 1, 1) := by decide +kernel
theorem dX10_comesUp_7 : decode cX10_comesUp 7 = .ok (.iload_n 2, 1) := by decide +kernel
theorem dX10_comesUp_8 : decode cX10_comesUp 8 = .ok (.invokevirtual 194, 3) := by decide +kernel
theorem dX10_comesUp_11 : decode cX10_comesUp 11 = .ok (.ifCond .ne 7, 3) := by decide +kernel
theorem dX10_comesUp_14 : decode cX10_comesUp 14 = .ok (.iconst 1, 1) := by decide +kernel
theorem dX10_comesUp_15 : decode cX10_comesUp 15 = .ok (.goto 4, 3) := by decide +kernel
theorem dX10_comesUp_18 : decode cX10_comesUp 18 = .ok (.iconst 0, 1) := by decide +kernel
theorem dX10_comesUp_19 : decode cX10_comesUp 19 = .ok (.iadd, 1) := by decide +kernel
theorem dX10_comesUp_20 : decode cX10_comesUp 20 = .ok (.putfield 197, 3) := by decide +kernel
theorem dX10_comesUp_23 : decode cX10_comesUp 23 = .ok (.iconst 0, 1) := by decide +kernel
theorem dX10_comesUp_24 : decode cX10_comesUp 24 = .ok (.istore_n 3, 1) := by decide +kernel
theorem dX10_comesUp_25 : decode cX10_comesUp 25 = .ok (.iload_n 3, 1) := by decide +kernel
theorem dX10_comesUp_26 : decode cX10_comesUp 26 = .ok (.aload_n 0, 1) := by decide +kernel
theorem dX10_comesUp_27 : decode cX10_comesUp 27 = .ok (.getfield 134, 3) := by decide +kernel
theorem dX10_comesUp_30 : decode cX10_comesUp 30 = .ok (.if_icmp .ge 44, 3) := by decide +kernel
theorem dX10_comesUp_33 : decode cX10_comesUp 33 = .ok (.aload_n 0, 1) := by decide +kernel
theorem dX10_comesUp_34 : decode cX10_comesUp 34 = .ok (.getfield 58, 3) := by decide +kernel
theorem dX10_comesUp_37 : decode cX10_comesUp 37 = .ok (.iload_n 3, 1) := by decide +kernel
theorem dX10_comesUp_38 : decode cX10_comesUp 38 = .ok (.aload_n 0, 1) := by decide +kernel
theorem dX10_comesUp_39 : decode cX10_comesUp 39 = .ok (.getfield 28, 3) := by decide +kernel
theorem dX10_comesUp_42 : decode cX10_comesUp 42 = .ok (.iload_n 3, 1) := by decide +kernel
theorem dX10_comesUp_43 : decode cX10_comesUp 43 = .ok (.iaload, 1) := by decide +kernel
theorem dX10_comesUp_44 : decode cX10_comesUp 44 = .ok (.iload_n 1, 1) := by decide +kernel
theorem dX10_comesUp_45 : decode cX10_comesUp 45 = .ok (.if_icmp .ne 16, 3) := by decide +kernel
theorem dX10_comesUp_48 : decode cX10_comesUp 48 = .ok (.aload_n 0, 1) := by decide +kernel
theorem dX10_comesUp_49 : decode cX10_comesUp 49 = .ok (.iload_n 3, 1) := by decide +kernel
theorem dX10_comesUp_50 : decode cX10_comesUp 50 = .ok (.iload_n 2, 1) := by decide +kernel
theorem dX10_comesUp_51 : decode cX10_comesUp 51 = .ok (.invokevirtual 190, 3) := by decide +kernel
theorem dX10_comesUp_54 : decode cX10_comesUp 54 = .ok (.ifCond .eq 7, 3) := by decide +kernel
theorem dX10_comesUp_57 : decode cX10_comesUp 57 = .ok (.iload_n 2, 1) := by decide +kernel
theorem dX10_comesUp_58 : decode cX10_comesUp 58 = .ok (.goto 9, 3) := by decide +kernel
theorem dX10_comesUp_61 : decode cX10_comesUp 61 = .ok (.aload_n 0, 1) := by decide +kernel
theorem dX10_comesUp_62 : decode cX10_comesUp 62 = .ok (.getfield 58, 3) := by decide +kernel
theorem dX10_comesUp_65 : decode cX10_comesUp 65 = .ok (.iload_n 3, 1) := by decide +kernel
theorem dX10_comesUp_66 : decode cX10_comesUp 66 = .ok (.iaload, 1) := by decide +kernel
theorem dX10_comesUp_67 : decode cX10_comesUp 67 = .ok (.iastore, 1) := by decide +kernel
theorem dX10_comesUp_68 : decode cX10_comesUp 68 = .ok (.iinc 3 1, 3) := by decide +kernel
theorem dX10_comesUp_71 : decode cX10_comesUp 71 = .ok (.goto (-46), 3) := by decide +kernel
theorem dX10_comesUp_74 : decode cX10_comesUp 74 = .ok (.aload_n 0, 1) := by decide +kernel
theorem dX10_comesUp_75 : decode cX10_comesUp 75 = .ok (.dup, 1) := by decide +kernel
theorem dX10_comesUp_76 : decode cX10_comesUp 76 = .ok (.getfield 200, 3) := by decide +kernel
theorem dX10_comesUp_79 : decode cX10_comesUp 79 = .ok (.iconst 1, 1) := by decide +kernel
theorem dX10_comesUp_80 : decode cX10_comesUp 80 = .ok (.iload_n 1, 1) := by decide +kernel
theorem dX10_comesUp_81 : decode cX10_comesUp 81 = .ok (.ishl, 1) := by decide +kernel
theorem dX10_comesUp_82 : decode cX10_comesUp 82 = .ok (.ior, 1) := by decide +kernel
theorem dX10_comesUp_83 : decode cX10_comesUp 83 = .ok (.putfield 200, 3) := by decide +kernel
theorem dX10_comesUp_86 : decode cX10_comesUp 86 = .ok (.aload_n 0, 1) := by decide +kernel
theorem dX10_comesUp_87 : decode cX10_comesUp 87 = .ok (.getfield 55, 3) := by decide +kernel
theorem dX10_comesUp_90 : decode cX10_comesUp 90 = .ok (.iload_n 1, 1) := by decide +kernel
theorem dX10_comesUp_91 : decode cX10_comesUp 91 = .ok (.dup2, 1) := by decide +kernel
theorem dX10_comesUp_92 : decode cX10_comesUp 92 = .ok (.iaload, 1) := by decide +kernel
theorem dX10_comesUp_93 : decode cX10_comesUp 93 = .ok (.iconst 1, 1) := by decide +kernel
theorem dX10_comesUp_94 : decode cX10_comesUp 94 = .ok (.iadd, 1) := by decide +kernel
theorem dX10_comesUp_95 : decode cX10_comesUp 95 = .ok (.iastore, 1) := by decide +kernel
theorem dX10_comesUp_96 : decode cX10_comesUp 96 = .ok (.aload_n 0, 1) := by decide +kernel
theorem dX10_comesUp_97 : decode cX10_comesUp 97 = .ok (.aload_n 0, 1) := by decide +kernel
theorem dX10_comesUp_98 : decode cX10_comesUp 98 = .ok (.getfield 203, 3) := by decide +kernel
theorem dX10_comesUp_101 : decode cX10_comesUp 101 = .ok (.iconst (-1), 1) := by decide +kernel
theorem dX10_comesUp_102 : decode cX10_comesUp 102 = .ok (.if_icmp .ne 7, 3) := by decide +kernel
theorem dX10_comesUp_105 : decode cX10_comesUp 105 = .ok (.iload_n 1, 1) := by decide +kernel
theorem dX10_comesUp_106 : decode cX10_comesUp 106 = .ok (.goto 7, 3) := by decide +kernel
theorem dX10_comesUp_109 : decode cX10_comesUp 109 = .ok (.aload_n 0, 1) := by decide +kernel
theorem dX10_comesUp_110 : decode cX10_comesUp 110 = .ok (.getfield 206, 3) := by decide +kernel
theorem dX10_comesUp_113 : decode cX10_comesUp 113 = .ok (.putfield 206, 3) := by decide +kernel
theorem dX10_comesUp_116 : decode cX10_comesUp 116 = .ok (.aload_n 0, 1) := by decide +kernel
theorem dX10_comesUp_117 : decode cX10_comesUp 117 = .ok (.aload_n 0, 1) := by decide +kernel
theorem dX10_comesUp_118 : decode cX10_comesUp 118 = .ok (.getfield 203, 3) := by decide +kernel
theorem dX10_comesUp_121 : decode cX10_comesUp 121 = .ok (.iconst (-1), 1) := by decide +kernel
theorem dX10_comesUp_122 : decode cX10_comesUp 122 = .ok (.if_icmp .ne 7, 3) := by decide +kernel
theorem dX10_comesUp_125 : decode cX10_comesUp 125 = .ok (.iload_n 2, 1) := by decide +kernel
theorem dX10_comesUp_126 : decode cX10_comesUp 126 = .ok (.goto 7, 3) := by decide +kernel
theorem dX10_comesUp_129 : decode cX10_comesUp 129 = .ok (.aload_n 0, 1) := by decide +kernel
theorem dX10_comesUp_130 : decode cX10_comesUp 130 = .ok (.getfield 203, 3) := by decide +kernel
theorem dX10_comesUp_133 : decode cX10_comesUp 133 = .ok (.putfield 203, 3) := by decide +kernel
theorem dX10_comesUp_136 : decode cX10_comesUp 136 = .ok (.return_, 1) := by decide +kernel
theorem dX10_ploughs_0 : decode cX10_ploughs 0 = .ok (.iconst (-1), 1) := by decide +kernel
theorem dX10_ploughs_1 : decode cX10_ploughs 1 = .ok (.istore_n 3, 1) := by decide +kernel
theorem dX10_ploughs_2 : decode cX10_ploughs 2 = .ok (.iconst 0, 1) := by decide +kernel
theorem dX10_ploughs_3 : decode cX10_ploughs 3 = .ok (.istore 4, 2) := by decide +kernel
theorem dX10_ploughs_5 : decode cX10_ploughs 5 = .ok (.iconst 0, 1) := by decide +kernel
theorem dX10_ploughs_6 : decode cX10_ploughs 6 = .ok (.istore 5, 2) := by decide +kernel
theorem dX10_ploughs_8 : decode cX10_ploughs 8 = .ok (.iload 5, 2) := by decide +kernel
theorem dX10_ploughs_10 : decode cX10_ploughs 10 = .ok (.bipush 6, 2) := by decide +kernel
theorem dX10_ploughs_12 : decode cX10_ploughs 12 = .ok (.if_icmp .ge 121, 3) := by decide +kernel
theorem dX10_ploughs_15 : decode cX10_ploughs 15 = .ok (.iconst 0, 1) := by decide +kernel
theorem dX10_ploughs_16 : decode cX10_ploughs 16 = .ok (.istore 6, 2) := by decide +kernel
theorem dX10_ploughs_18 : decode cX10_ploughs 18 = .ok (.iload 6, 2) := by decide +kernel
theorem dX10_ploughs_20 : decode cX10_ploughs 20 = .ok (.aload_n 0, 1) := by decide +kernel
theorem dX10_ploughs_21 : decode cX10_ploughs 21 = .ok (.getfield 130, 3) := by decide +kernel
theorem dX10_ploughs_24 : decode cX10_ploughs 24 = .ok (.if_icmp .ge 103, 3) := by decide +kernel
theorem dX10_ploughs_27 : decode cX10_ploughs 27 = .ok (.aload_n 0, 1) := by decide +kernel
theorem dX10_ploughs_28 : decode cX10_ploughs 28 = .ok (.getfield 19, 3) := by decide +kernel
theorem dX10_ploughs_31 : decode cX10_ploughs 31 = .ok (.iload 6, 2) := by decide +kernel
theorem dX10_ploughs_33 : decode cX10_ploughs 33 = .ok (.iaload, 1) := by decide +kernel
theorem dX10_ploughs_34 : decode cX10_ploughs 34 = .ok (.iload 5, 2) := by decide +kernel
theorem dX10_ploughs_36 : decode cX10_ploughs 36 = .ok (.if_icmp .ne 85, 3) := by decide +kernel
theorem dX10_ploughs_39 : decode cX10_ploughs 39 = .ok (.aload_n 0, 1) := by decide +kernel
theorem dX10_ploughs_40 : decode cX10_ploughs 40 = .ok (.getfield 22, 3) := by decide +kernel
theorem dX10_ploughs_43 : decode cX10_ploughs 43 = .ok (.iload 6, 2) := by decide +kernel
theorem dX10_ploughs_45 : decode cX10_ploughs 45 = .ok (.iaload, 1) := by decide +kernel
theorem dX10_ploughs_46 : decode cX10_ploughs 46 = .ok (.iload_n 1, 1) := by decide +kernel
theorem dX10_ploughs_47 : decode cX10_ploughs 47 = .ok (.if_icmp .ne 74, 3) := by decide +kernel
theorem dX10_ploughs_50 : decode cX10_ploughs 50 = .ok (.aload_n 0, 1) := by decide +kernel
theorem dX10_ploughs_51 : decode cX10_ploughs 51 = .ok (.getfield 200, 3) := by decide +kernel
theorem dX10_ploughs_54 : decode cX10_ploughs 54 = .ok (.iload 6, 2) := by decide +kernel
theorem dX10_ploughs_56 : decode cX10_ploughs 56 = .ok (.invokestatic 209, 3) := by decide +kernel
theorem dX10_ploughs_59 : decode cX10_ploughs 59 = .ok (.ifCond .ne 62, 3) := by decide +kernel
theorem dX10_ploughs_62 : decode cX10_ploughs 62 = .ok (.aload_n 0, 1) := by decide +kernel
theorem dX10_ploughs_63 : decode cX10_ploughs 63 = .ok (.iload 6, 2) := by decide +kernel
theorem dX10_ploughs_65 : decode cX10_ploughs 65 = .ok (.iload_n 2, 1) := by decide +kernel
theorem dX10_ploughs_66 : decode cX10_ploughs 66 = .ok (.invokevirtual 212, 3) := by decide +kernel
theorem dX10_ploughs_69 : decode cX10_ploughs 69 = .ok (.istore 7, 2) := by decide +kernel
theorem dX10_ploughs_71 : decode cX10_ploughs 71 = .ok (.iload 7, 2) := by decide +kernel
theorem dX10_ploughs_73 : decode cX10_ploughs 73 = .ok (.ifCond .lt 19, 3) := by decide +kernel
theorem dX10_ploughs_76 : decode cX10_ploughs 76 = .ok (.iload_n 3, 1) := by decide +kernel
theorem dX10_ploughs_77 : decode cX10_ploughs 77 = .ok (.iconst (-1), 1) := by decide +kernel
theorem dX10_ploughs_78 : decode cX10_ploughs 78 = .ok (.if_icmp .eq 10, 3) := by decide +kernel
theorem dX10_ploughs_81 : decode cX10_ploughs 81 = .ok (.iload 7, 2) := by decide +kernel
theorem dX10_ploughs_83 : decode cX10_ploughs 83 = .ok (.iload 4, 2) := by decide +kernel
theorem dX10_ploughs_85 : decode cX10_ploughs 85 = .ok (.if_icmp .le 7, 3) := by decide +kernel
theorem dX10_ploughs_88 : decode cX10_ploughs 88 = .ok (.iconst 1, 1) := by decide +kernel
theorem dX10_ploughs_89 : decode cX10_ploughs 89 = .ok (.goto 4, 3) := by decide +kernel
theorem dX10_ploughs_92 : decode cX10_ploughs 92 = .ok (.iconst 0, 1) := by decide +kernel
theorem dX10_ploughs_93 : decode cX10_ploughs 93 = .ok (.istore 8, 2) := by decide +kernel
theorem dX10_ploughs_95 : decode cX10_ploughs 95 = .ok (.iload 8, 2) := by decide +kernel
theorem dX10_ploughs_97 : decode cX10_ploughs 97 = .ok (.ifCond .eq 8, 3) := by decide +kernel
theorem dX10_ploughs_100 : decode cX10_ploughs 100 = .ok (.iload 6, 2) := by decide +kernel
theorem dX10_ploughs_102 : decode cX10_ploughs 102 = .ok (.goto 4, 3) := by decide +kernel
theorem dX10_ploughs_105 : decode cX10_ploughs 105 = .ok (.iload_n 3, 1) := by decide +kernel
theorem dX10_ploughs_106 : decode cX10_ploughs 106 = .ok (.istore_n 3, 1) := by decide +kernel
theorem dX10_ploughs_107 : decode cX10_ploughs 107 = .ok (.iload 8, 2) := by decide +kernel
theorem dX10_ploughs_109 : decode cX10_ploughs 109 = .ok (.ifCond .eq 8, 3) := by decide +kernel
theorem dX10_ploughs_112 : decode cX10_ploughs 112 = .ok (.iload 7, 2) := by decide +kernel
theorem dX10_ploughs_114 : decode cX10_ploughs 114 = .ok (.goto 5, 3) := by decide +kernel
theorem dX10_ploughs_117 : decode cX10_ploughs 117 = .ok (.iload 4, 2) := by decide +kernel
theorem dX10_ploughs_119 : decode cX10_ploughs 119 = .ok (.istore 4, 2) := by decide +kernel
theorem dX10_ploughs_121 : decode cX10_ploughs 121 = .ok (.iinc 6 1, 3) := by decide +kernel
theorem dX10_ploughs_124 : decode cX10_ploughs 124 = .ok (.goto (-106), 3) := by decide +kernel
theorem dX10_ploughs_127 : decode cX10_ploughs 127 = .ok (.iinc 5 1, 3) := by decide +kernel
theorem dX10_ploughs_130 : decode cX10_ploughs 130 = .ok (.goto (-122), 3) := by decide +kernel
theorem dX10_ploughs_133 : decode cX10_ploughs 133 = .ok (.iload_n 3, 1) := by decide +kernel
theorem dX10_ploughs_134 : decode cX10_ploughs 134 = .ok (.iconst (-1), 1) := by decide +kernel
theorem dX10_ploughs_135 : decode cX10_ploughs 135 = .ok (.if_icmp .eq 9, 3) := by decide +kernel
theorem dX10_ploughs_138 : decode cX10_ploughs 138 = .ok (.aload_n 0, 1) := by decide +kernel
theorem dX10_ploughs_139 : decode cX10_ploughs 139 = .ok (.iload_n 3, 1) := by decide +kernel
theorem dX10_ploughs_140 : decode cX10_ploughs 140 = .ok (.iload_n 2, 1) := by decide +kernel
theorem dX10_ploughs_141 : decode cX10_ploughs 141 = .ok (.invokevirtual 215, 3) := by decide +kernel
theorem dX10_ploughs_144 : decode cX10_ploughs 144 = .ok (.return_, 1) := by decide +kernel
theorem dX10_harrows_0 : decode cX10_harrows 0 = .ok (.iconst 0, 1) := by decide +kernel
theorem dX10_harrows_1 : decode cX10_harrows 1 = .ok (.istore_n 2, 1) := by decide +kernel
theorem dX10_harrows_2 : decode cX10_harrows 2 = .ok (.iload_n 2, 1) := by decide +kernel
theorem dX10_harrows_3 : decode cX10_harrows 3 = .ok (.aload_n 0, 1) := by decide +kernel
theorem dX10_harrows_4 : decode cX10_harrows 4 = .ok (.getfield 130, 3) := by decide +kernel
theorem dX10_harrows_7 : decode cX10_harrows 7 = .ok (.if_icmp .ge 37, 3) := by decide +kernel
theorem dX10_harrows_10 : decode cX10_harrows 10 = .ok (.aload_n 0, 1) := by decide +kernel
theorem dX10_harrows_11 : decode cX10_harrows 11 = .ok (.dup, 1) := by decide +kernel
theorem dX10_harrows_12 : decode cX10_harrows 12 = .ok (.getfield 200, 3) := by decide +kernel
theorem dX10_harrows_15 : decode cX10_harrows 15 = .ok (.aload_n 0, 1) := by decide +kernel
theorem dX10_harrows_16 : decode cX10_harrows 16 = .ok (.getfield 22, 3) := by decide +kernel
theorem dX10_harrows_19 : decode cX10_harrows 19 = .ok (.iload_n 2, 1) := by decide +kernel
theorem dX10_harrows_20 : decode cX10_harrows 20 = .ok (.iaload, 1) := by decide +kernel
theorem dX10_harrows_21 : decode cX10_harrows 21 = .ok (.iload_n 1, 1) := by decide +kernel
theorem dX10_harrows_22 : decode cX10_harrows 22 = .ok (.if_icmp .ne 11, 3) := by decide +kernel
theorem dX10_harrows_25 : decode cX10_harrows 25 = .ok (.iconst 1, 1) := by decide +kernel
theorem dX10_harrows_26 : decode cX10_harrows 26 = .ok (.iload_n 2, 1) := by decide +kernel
theorem dX10_harrows_27 : decode cX10_harrows 27 = .ok (.ishl, 1) := by decide +kernel
theorem dX10_harrows_28 : decode cX10_harrows 28 = .ok (.iconst (-1), 1) := by decide +kernel
theorem dX10_harrows_29 : decode cX10_harrows 29 = .ok (.ixor, 1) := by decide +kernel
theorem dX10_harrows_30 : decode cX10_harrows 30 = .ok (.goto 4, 3) := by decide +kernel
theorem dX10_harrows_33 : decode cX10_harrows 33 = .ok (.iconst (-1), 1) := by decide +kernel
theorem dX10_harrows_34 : decode cX10_harrows 34 = .ok (.iand, 1) := by decide +kernel
theorem dX10_harrows_35 : decode cX10_harrows 35 = .ok (.putfield 200, 3) := by decide +kernel
theorem dX10_harrows_38 : decode cX10_harrows 38 = .ok (.iinc 2 1, 3) := by decide +kernel
theorem dX10_harrows_41 : decode cX10_harrows 41 = .ok (.goto (-39), 3) := by decide +kernel
theorem dX10_harrows_44 : decode cX10_harrows 44 = .ok (.return_, 1) := by decide +kernel
theorem dX10_goesBy_0 : decode cX10_goesBy 0 = .ok (.iconst 0, 1) := by decide +kernel
theorem dX10_goesBy_1 : decode cX10_goesBy 1 = .ok (.istore_n 2, 1) := by decide +kernel
theorem dX10_goesBy_2 : decode cX10_goesBy 2 = .ok (.iload_n 2, 1) := by decide +kernel
theorem dX10_goesBy_3 : decode cX10_goesBy 3 = .ok (.aload_n 0, 1) := by decide +kernel
theorem dX10_goesBy_4 : decode cX10_goesBy 4 = .ok (.getfield 184, 3) := by decide +kernel
theorem dX10_goesBy_7 : decode cX10_goesBy 7 = .ok (.if_icmp .ge 63, 3) := by decide +kernel
theorem dX10_goesBy_10 : decode cX10_goesBy 10 = .ok (.aload_n 0, 1) := by decide +kernel
theorem dX10_goesBy_11 : decode cX10_goesBy 11 = .ok (.getfield 49, 3) := by decide +kernel
theorem dX10_goesBy_14 : decode cX10_goesBy 14 = .ok (.iload_n 2, 1) := by decide +kernel
theorem dX10_goesBy_15 : decode cX10_goesBy 15 = .ok (.iaload, 1) := by decide +kernel
theorem dX10_goesBy_16 : decode cX10_goesBy 16 = .ok (.iload_n 1, 1) := by decide +kernel
theorem dX10_goesBy_17 : decode cX10_goesBy 17 = .ok (.if_icmp .ne 47, 3) := by decide +kernel
theorem dX10_goesBy_20 : decode cX10_goesBy 20 = .ok (.aload_n 0, 1) := by decide +kernel
theorem dX10_goesBy_21 : decode cX10_goesBy 21 = .ok (.getfield 187, 3) := by decide +kernel
theorem dX10_goesBy_24 : decode cX10_goesBy 24 = .ok (.iload_n 2, 1) := by decide +kernel
theorem dX10_goesBy_25 : decode cX10_goesBy 25 = .ok (.invokestatic 209, 3) := by decide +kernel
theorem dX10_goesBy_28 : decode cX10_goesBy 28 = .ok (.ifCond .ne 36, 3) := by decide +kernel
theorem dX10_goesBy_31 : decode cX10_goesBy 31 = .ok (.aload_n 0, 1) := by decide +kernel
theorem dX10_goesBy_32 : decode cX10_goesBy 32 = .ok (.getfield 46, 3) := by decide +kernel
theorem dX10_goesBy_35 : decode cX10_goesBy 35 = .ok (.iload_n 2, 1) := by decide +kernel
theorem dX10_goesBy_36 : decode cX10_goesBy 36 = .ok (.iaload, 1) := by decide +kernel
theorem dX10_goesBy_37 : decode cX10_goesBy 37 = .ok (.ifCond .ne 17, 3) := by decide +kernel
theorem dX10_goesBy_40 : decode cX10_goesBy 40 = .ok (.aload_n 0, 1) := by decide +kernel
theorem dX10_goesBy_41 : decode cX10_goesBy 41 = .ok (.aload_n 0, 1) := by decide +kernel
theorem dX10_goesBy_42 : decode cX10_goesBy 42 = .ok (.getfield 52, 3) := by decide +kernel
theorem dX10_goesBy_45 : decode cX10_goesBy 45 = .ok (.iload_n 2, 1) := by decide +kernel
theorem dX10_goesBy_46 : decode cX10_goesBy 46 = .ok (.iaload, 1) := by decide +kernel
theorem dX10_goesBy_47 : decode cX10_goesBy 47 = .ok (.iload_n 1, 1) := by decide +kernel
theorem dX10_goesBy_48 : decode cX10_goesBy 48 = .ok (.invokevirtual 219, 3) := by decide +kernel
theorem dX10_goesBy_51 : decode cX10_goesBy 51 = .ok (.goto 13, 3) := by decide +kernel
theorem dX10_goesBy_54 : decode cX10_goesBy 54 = .ok (.aload_n 0, 1) := by decide +kernel
theorem dX10_goesBy_55 : decode cX10_goesBy 55 = .ok (.aload_n 0, 1) := by decide +kernel
theorem dX10_goesBy_56 : decode cX10_goesBy 56 = .ok (.getfield 52, 3) := by decide +kernel
theorem dX10_goesBy_59 : decode cX10_goesBy 59 = .ok (.iload_n 2, 1) := by decide +kernel
theorem dX10_goesBy_60 : decode cX10_goesBy 60 = .ok (.iaload, 1) := by decide +kernel
theorem dX10_goesBy_61 : decode cX10_goesBy 61 = .ok (.invokevirtual 222, 3) := by decide +kernel
theorem dX10_goesBy_64 : decode cX10_goesBy 64 = .ok (.iinc 2 1, 3) := by decide +kernel
theorem dX10_goesBy_67 : decode cX10_goesBy 67 = .ok (.goto (-65), 3) := by decide +kernel
theorem dX10_goesBy_70 : decode cX10_goesBy 70 = .ok (.aload_n 0, 1) := by decide +kernel
theorem dX10_goesBy_71 : decode cX10_goesBy 71 = .ok (.getfield 67, 3) := by decide +kernel
theorem dX10_goesBy_74 : decode cX10_goesBy 74 = .ok (.iload_n 1, 1) := by decide +kernel
theorem dX10_goesBy_75 : decode cX10_goesBy 75 = .ok (.aload_n 0, 1) := by decide +kernel
theorem dX10_goesBy_76 : decode cX10_goesBy 76 = .ok (.getfield 200, 3) := by decide +kernel
theorem dX10_goesBy_79 : decode cX10_goesBy 79 = .ok (.iastore, 1) := by decide +kernel
theorem dX10_goesBy_80 : decode cX10_goesBy 80 = .ok (.aload_n 0, 1) := by decide +kernel
theorem dX10_goesBy_81 : decode cX10_goesBy 81 = .ok (.getfield 70, 3) := by decide +kernel
theorem dX10_goesBy_84 : decode cX10_goesBy 84 = .ok (.iload_n 1, 1) := by decide +kernel
theorem dX10_goesBy_85 : decode cX10_goesBy 85 = .ok (.iconst 0, 1) := by decide +kernel
theorem dX10_goesBy_86 : decode cX10_goesBy 86 = .ok (.iastore, 1) := by decide +kernel
theorem dX10_goesBy_87 : decode cX10_goesBy 87 = .ok (.iconst 0, 1) := by decide +kernel
theorem dX10_goesBy_88 : decode cX10_goesBy 88 = .ok (.istore_n 2, 1) := by decide +kernel
theorem dX10_goesBy_89 : decode cX10_goesBy 89 = .ok (.iload_n 2, 1) := by decide +kernel
theorem dX10_goesBy_90 : decode cX10_goesBy 90 = .ok (.aload_n 0, 1) := by decide +kernel
theorem dX10_goesBy_91 : decode cX10_goesBy 91 = .ok (.getfield 134, 3) := by decide +kernel
theorem dX10_goesBy_94 : decode cX10_goesBy 94 = .ok (.if_icmp .ge 32, 3) := by decide +kernel
theorem dX10_goesBy_97 : decode cX10_goesBy 97 = .ok (.aload_n 0, 1) := by decide +kernel
theorem dX10_goesBy_98 : decode cX10_goesBy 98 = .ok (.getfield 70, 3) := by decide +kernel
theorem dX10_goesBy_101 : decode cX10_goesBy 101 = .ok (.iload_n 1, 1) := by decide +kernel
theorem dX10_goesBy_102 : decode cX10_goesBy 102 = .ok (.dup2, 1) := by decide +kernel
theorem dX10_goesBy_103 : decode cX10_goesBy 103 = .ok (.iaload, 1) := by decide +kernel
theorem dX10_goesBy_104 : decode cX10_goesBy 104 = .ok (.aload_n 0, 1) := by decide +kernel
theorem dX10_goesBy_105 : decode cX10_goesBy 105 = .ok (.iload_n 2, 1) := by decide +kernel
theorem dX10_goesBy_106 : decode cX10_goesBy 106 = .ok (.iload_n 1, 1) := by decide +kernel
theorem dX10_goesBy_107 : decode cX10_goesBy 107 = .ok (.invokevirtual 190, 3) := by decide +kernel
theorem dX10_goesBy_110 : decode cX10_goesBy 110 = .ok (.ifCond .eq 7, 3) := by decide +kernel
theorem dX10_goesBy_113 : decode cX10_goesBy 113 = .ok (.iconst 1, 1) := by decide +kernel
theorem dX10_goesBy_114 : decode cX10_goesBy 114 = .ok (.goto 4, 3) := by decide +kernel
theorem dX10_goesBy_117 : decode cX10_goesBy 117 = .ok (.iconst 0, 1) := by decide +kernel
theorem dX10_goesBy_118 : decode cX10_goesBy 118 = .ok (.iadd, 1) := by decide +kernel
theorem dX10_goesBy_119 : decode cX10_goesBy 119 = .ok (.iastore, 1) := by decide +kernel
theorem dX10_goesBy_120 : decode cX10_goesBy 120 = .ok (.iinc 2 1, 3) := by decide +kernel
theorem dX10_goesBy_123 : decode cX10_goesBy 123 = .ok (.goto (-34), 3) := by decide +kernel
theorem dX10_goesBy_126 : decode cX10_goesBy 126 = .ok (.iconst 0, 1) := by decide +kernel
theorem dX10_goesBy_127 : decode cX10_goesBy 127 = .ok (.istore_n 2, 1) := by decide +kernel
theorem dX10_goesBy_128 : decode cX10_goesBy 128 = .ok (.iload_n 2, 1) := by decide +kernel
theorem dX10_goesBy_129 : decode cX10_goesBy 129 = .ok (.aload_n 0, 1) := by decide +kernel
theorem dX10_goesBy_130 : decode cX10_goesBy 130 = .ok (.getfield 130, 3) := by decide +kernel
theorem dX10_goesBy_133 : decode cX10_goesBy 133 = .ok (.if_icmp .ge 43, 3) := by decide +kernel
theorem dX10_goesBy_136 : decode cX10_goesBy 136 = .ok (.aload_n 0, 1) := by decide +kernel
theorem dX10_goesBy_137 : decode cX10_goesBy 137 = .ok (.getfield 61, 3) := by decide +kernel
theorem dX10_goesBy_140 : decode cX10_goesBy 140 = .ok (.bipush 8, 2) := by decide +kernel
theorem dX10_goesBy_142 : decode cX10_goesBy 142 = .ok (.iload_n 1, 1) := by decide +kernel
theorem dX10_goesBy_143 : decode cX10_goesBy 143 = .ok (.imul, 1) := by decide +kernel
theorem dX10_goesBy_144 : decode cX10_goesBy 144 = .ok (.iload_n 2, 1) := by decide +kernel
theorem dX10_goesBy_145 : decode cX10_goesBy 145 = .ok (.iadd, 1) := by decide +kernel
theorem dX10_goesBy_146 : decode cX10_goesBy 146 = .ok (.aload_n 0, 1) := by decide +kernel
theorem dX10_goesBy_147 : decode cX10_goesBy 147 = .ok (.iload_n 2, 1) := by decide +kernel
theorem dX10_goesBy_148 : decode cX10_goesBy 148 = .ok (.iload_n 1, 1) := by decide +kernel
theorem dX10_goesBy_149 : decode cX10_goesBy 149 = .ok (.invokevirtual 194, 3) := by decide +kernel
theorem dX10_goesBy_152 : decode cX10_goesBy 152 = .ok (.iastore, 1) := by decide +kernel
theorem dX10_goesBy_153 : decode cX10_goesBy 153 = .ok (.aload_n 0, 1) := by decide +kernel
theorem dX10_goesBy_154 : decode cX10_goesBy 154 = .ok (.getfield 64, 3) := by decide +kernel
theorem dX10_goesBy_157 : decode cX10_goesBy 157 = .ok (.bipush 8, 2) := by decide +kernel
theorem dX10_goesBy_159 : decode cX10_goesBy 159 = .ok (.iload_n 1, 1) := by decide +kernel
theorem dX10_goesBy_160 : decode cX10_goesBy 160 = .ok (.imul, 1) := by decide +kernel
theorem dX10_goesBy_161 : decode cX10_goesBy 161 = .ok (.iload_n 2, 1) := by decide +kernel
theorem dX10_goesBy_162 : decode cX10_goesBy 162 = .ok (.iadd, 1) := by decide +kernel
theorem dX10_goesBy_163 : decode cX10_goesBy 163 = .ok (.aload_n 0, 1) := by decide +kernel
theorem dX10_goesBy_164 : decode cX10_goesBy 164 = .ok (.getfield 55, 3) := by decide +kernel
theorem dX10_goesBy_167 : decode cX10_goesBy 167 = .ok (.iload_n 2, 1) := by decide +kernel
theorem dX10_goesBy_168 : decode cX10_goesBy 168 = .ok (.iaload, 1) := by decide +kernel
theorem dX10_goesBy_169 : decode cX10_goesBy 169 = .ok (.iastore, 1) := by decide +kernel
theorem dX10_goesBy_170 : decode cX10_goesBy 170 = .ok (.iinc 2 1, 3) := by decide +kernel
theorem dX10_goesBy_173 : decode cX10_goesBy 173 = .ok (.goto (-45), 3) := by decide +kernel
theorem dX10_goesBy_176 : decode cX10_goesBy 176 = .ok (.return_, 1) := by decide +kernel
theorem dX10_runs_0 : decode cX10_runs 0 = .ok (.iconst 0, 1) := by decide +kernel
theorem dX10_runs_1 : decode cX10_runs 1 = .ok (.istore_n 1, 1) := by decide +kernel
theorem dX10_runs_2 : decode cX10_runs 2 = .ok (.iload_n 1, 1) := by decide +kernel
theorem dX10_runs_3 : decode cX10_runs 3 = .ok (.bipush 8, 2) := by decide +kernel
theorem dX10_runs_5 : decode cX10_runs 5 = .ok (.if_icmp .ge 23, 3) := by decide +kernel
theorem dX10_runs_8 : decode cX10_runs 8 = .ok (.aload_n 0, 1) := by decide +kernel
theorem dX10_runs_9 : decode cX10_runs 9 = .ok (.getfield 55, 3) := by decide +kernel
theorem dX10_runs_12 : decode cX10_runs 12 = .ok (.iload_n 1, 1) := by decide +kernel
theorem dX10_runs_13 : decode cX10_runs 13 = .ok (.iconst 0, 1) := by decide +kernel
theorem dX10_runs_14 : decode cX10_runs 14 = .ok (.iastore, 1) := by decide +kernel
theorem dX10_runs_15 : decode cX10_runs 15 = .ok (.aload_n 0, 1) := by decide +kernel
theorem dX10_runs_16 : decode cX10_runs 16 = .ok (.getfield 58, 3) := by decide +kernel
theorem dX10_runs_19 : decode cX10_runs 19 = .ok (.iload_n 1, 1) := by decide +kernel
theorem dX10_runs_20 : decode cX10_runs 20 = .ok (.iconst (-1), 1) := by decide +kernel
theorem dX10_runs_21 : decode cX10_runs 21 = .ok (.iastore, 1) := by decide +kernel
theorem dX10_runs_22 : decode cX10_runs 22 = .ok (.iinc 1 1, 3) := by decide +kernel
theorem dX10_runs_25 : decode cX10_runs 25 = .ok (.goto (-23), 3) := by decide +kernel
theorem dX10_runs_28 : decode cX10_runs 28 = .ok (.aload_n 0, 1) := by decide +kernel
theorem dX10_runs_29 : decode cX10_runs 29 = .ok (.iconst 0, 1) := by decide +kernel
theorem dX10_runs_30 : decode cX10_runs 30 = .ok (.putfield 200, 3) := by decide +kernel
theorem dX10_runs_33 : decode cX10_runs 33 = .ok (.aload_n 0, 1) := by decide +kernel
theorem dX10_runs_34 : decode cX10_runs 34 = .ok (.iconst 0, 1) := by decide +kernel
theorem dX10_runs_35 : decode cX10_runs 35 = .ok (.putfield 197, 3) := by decide +kernel
theorem dX10_runs_38 : decode cX10_runs 38 = .ok (.aload_n 0, 1) := by decide +kernel
theorem dX10_runs_39 : decode cX10_runs 39 = .ok (.iconst (-1), 1) := by decide +kernel
theorem dX10_runs_40 : decode cX10_runs 40 = .ok (.putfield 203, 3) := by decide +kernel
theorem dX10_runs_43 : decode cX10_runs 43 = .ok (.aload_n 0, 1) := by decide +kernel
theorem dX10_runs_44 : decode cX10_runs 44 = .ok (.iconst (-1), 1) := by decide +kernel
theorem dX10_runs_45 : decode cX10_runs 45 = .ok (.putfield 206, 3) := by decide +kernel
theorem dX10_runs_48 : decode cX10_runs 48 = .ok (.iconst 0, 1) := by decide +kernel
theorem dX10_runs_49 : decode cX10_runs 49 = .ok (.istore_n 1, 1) := by decide +kernel
theorem dX10_runs_50 : decode cX10_runs 50 = .ok (.iload_n 1, 1) := by decide +kernel
theorem dX10_runs_51 : decode cX10_runs 51 = .ok (.bipush 24, 2) := by decide +kernel
theorem dX10_runs_53 : decode cX10_runs 53 = .ok (.if_icmp .ge 14, 3) := by decide +kernel
theorem dX10_runs_56 : decode cX10_runs 56 = .ok (.aload_n 0, 1) := by decide +kernel
theorem dX10_runs_57 : decode cX10_runs 57 = .ok (.iload_n 1, 1) := by decide +kernel
theorem dX10_runs_58 : decode cX10_runs 58 = .ok (.invokevirtual 226, 3) := by decide +kernel
theorem dX10_runs_61 : decode cX10_runs 61 = .ok (.iinc 1 1, 3) := by decide +kernel
theorem dX10_runs_64 : decode cX10_runs 64 = .ok (.goto (-14), 3) := by decide +kernel
theorem dX10_runs_67 : decode cX10_runs 67 = .ok (.return_, 1) := by decide +kernel
theorem dX10_runsTold_0 : decode cX10_runsTold 0 = .ok (.aload_n 0, 1) := by decide +kernel
theorem dX10_runsTold_1 : decode cX10_runsTold 1 = .ok (.invokevirtual 229, 3) := by decide +kernel
theorem dX10_runsTold_4 : decode cX10_runsTold 4 = .ok (.aload_n 0, 1) := by decide +kernel
theorem dX10_runsTold_5 : decode cX10_runsTold 5 = .ok (.invokevirtual 232, 3) := by decide +kernel
theorem dX10_runsTold_8 : decode cX10_runsTold 8 = .ok (.return_, 1) := by decide +kernel
theorem dX10_atOf_0 : decode cX10_atOf 0 = .ok (.aload_n 0, 1) := by decide +kernel
theorem dX10_atOf_1 : decode cX10_atOf 1 = .ok (.invokevirtual 235, 3) := by decide +kernel
theorem dX10_atOf_4 : decode cX10_atOf 4 = .ok (.iload_n 3, 1) := by decide +kernel
theorem dX10_atOf_5 : decode cX10_atOf 5 = .ok (.ifCond .ne 24, 3) := by decide +kernel
theorem dX10_atOf_8 : decode cX10_atOf 8 = .ok (.aload_n 0, 1) := by decide +kernel
theorem dX10_atOf_9 : decode cX10_atOf 9 = .ok (.getfield 67, 3) := by decide +kernel
theorem dX10_atOf_12 : decode cX10_atOf 12 = .ok (.iload_n 1, 1) := by decide +kernel
theorem dX10_atOf_13 : decode cX10_atOf 13 = .ok (.iaload, 1) := by decide +kernel
theorem dX10_atOf_14 : decode cX10_atOf 14 = .ok (.iload_n 2, 1) := by decide +kernel
theorem dX10_atOf_15 : decode cX10_atOf 15 = .ok (.invokestatic 209, 3) := by decide +kernel
theorem dX10_atOf_18 : decode cX10_atOf 18 = .ok (.ifCond .eq 7, 3) := by decide +kernel
theorem dX10_atOf_21 : decode cX10_atOf 21 = .ok (.iconst 1, 1) := by decide +kernel
theorem dX10_atOf_22 : decode cX10_atOf 22 = .ok (.goto 37, 3) := by decide +kernel
theorem dX10_atOf_25 : decode cX10_atOf 25 = .ok (.iconst 0, 1) := by decide +kernel
theorem dX10_atOf_26 : decode cX10_atOf 26 = .ok (.goto 33, 3) := by decide +kernel
theorem dX10_atOf_29 : decode cX10_atOf 29 = .ok (.iload_n 3, 1) := by decide +kernel
theorem dX10_atOf_30 : decode cX10_atOf 30 = .ok (.iconst 1, 1) := by decide +kernel
theorem dX10_atOf_31 : decode cX10_atOf 31 = .ok (.if_icmp .ne 17, 3) := by decide +kernel
theorem dX10_atOf_34 : decode cX10_atOf 34 = .ok (.aload_n 0, 1) := by decide +kernel
theorem dX10_atOf_35 : decode cX10_atOf 35 = .ok (.getfield 61, 3) := by decide +kernel
theorem dX10_atOf_38 : decode cX10_atOf 38 = .ok (.bipush 8, 2) := by decide +kernel
theorem dX10_atOf_40 : decode cX10_atOf 40 = .ok (.iload_n 1, 1) := by decide +kernel
theorem dX10_atOf_41 : decode cX10_atOf 41 = .ok (.imul, 1) := by decide +kernel
theorem dX10_atOf_42 : decode cX10_atOf 42 = .ok (.iload_n 2, 1) := by decide +kernel
theorem dX10_atOf_43 : decode cX10_atOf 43 = .ok (.iadd, 1) := by decide +kernel
theorem dX10_atOf_44 : decode cX10_atOf 44 = .ok (.iaload, 1) := by decide +kernel
theorem dX10_atOf_45 : decode cX10_atOf 45 = .ok (.goto 14, 3) := by decide +kernel
theorem dX10_atOf_48 : decode cX10_atOf 48 = .ok (.aload_n 0, 1) := by decide +kernel
theorem dX10_atOf_49 : decode cX10_atOf 49 = .ok (.getfield 64, 3) := by decide +kernel
theorem dX10_atOf_52 : decode cX10_atOf 52 = .ok (.bipush 8, 2) := by decide +kernel
theorem dX10_atOf_54 : decode cX10_atOf 54 = .ok (.iload_n 1, 1) := by decide +kernel
theorem dX10_atOf_55 : decode cX10_atOf 55 = .ok (.imul, 1) := by decide +kernel
theorem dX10_atOf_56 : decode cX10_atOf 56 = .ok (.iload_n 2, 1) := by decide +kernel
theorem dX10_atOf_57 : decode cX10_atOf 57 = .ok (.iadd, 1) := by decide +kernel
theorem dX10_atOf_58 : decode cX10_atOf 58 = .ok (.iaload, 1) := by decide +kernel
theorem dX10_atOf_59 : decode cX10_atOf 59 = .ok (.ireturn, 1) := by decide +kernel
theorem dX10_at_0 : decode cX10_at 0 = .ok (.iload_n 1, 1) := by decide +kernel
theorem dX10_at_1 : decode cX10_at 1 = .ok (.invokestatic 127, 3) := by decide +kernel
theorem dX10_at_4 : decode cX10_at 4 = .ok (.ifCond .eq 28, 3) := by decide +kernel
theorem dX10_at_7 : decode cX10_at 7 = .ok (.aload_n 0, 1) := by decide +kernel
theorem dX10_at_8 : decode cX10_at 8 = .ok (.iload_n 2, 1) := by decide +kernel
theorem dX10_at_9 : decode cX10_at 9 = .ok (.invokevirtual 153, 3) := by decide +kernel
theorem dX10_at_12 : decode cX10_at 12 = .ok (.ifCond .eq 20, 3) := by decide +kernel
theorem dX10_at_15 : decode cX10_at 15 = .ok (.iload_n 3, 1) := by decide +kernel
theorem dX10_at_16 : decode cX10_at 16 = .ok (.invokestatic 162, 3) := by decide +kernel
theorem dX10_at_19 : decode cX10_at 19 = .ok (.ifCond .eq 13, 3) := by decide +kernel
theorem dX10_at_22 : decode cX10_at 22 = .ok (.aload_n 0, 1) := by decide +kernel
theorem dX10_at_23 : decode cX10_at 23 = .ok (.iload_n 1, 1) := by decide +kernel
theorem dX10_at_24 : decode cX10_at 24 = .ok (.iload_n 2, 1) := by decide +kernel
theorem dX10_at_25 : decode cX10_at 25 = .ok (.iload_n 3, 1) := by decide +kernel
theorem dX10_at_26 : decode cX10_at 26 = .ok (.invokevirtual 238, 3) := by decide +kernel
theorem dX10_at_29 : decode cX10_at 29 = .ok (.goto 5, 3) := by decide +kernel
theorem dX10_at_32 : decode cX10_at 32 = .ok (.bipush (-2), 2) := by decide +kernel
theorem dX10_at_34 : decode cX10_at 34 = .ok (.ireturn, 1) := by decide +kernel
theorem dX10_fieldOf_0 : decode cX10_fieldOf 0 = .ok (.aload_n 0, 1) := by decide +kernel
theorem dX10_fieldOf_1 : decode cX10_fieldOf 1 = .ok (.invokevirtual 235, 3) := by decide +kernel
theorem dX10_fieldOf_4 : decode cX10_fieldOf 4 = .ok (.iconst (-1), 1) := by decide +kernel
theorem dX10_fieldOf_5 : decode cX10_fieldOf 5 = .ok (.istore 4, 2) := by decide +kernel
theorem dX10_fieldOf_7 : decode cX10_fieldOf 7 = .ok (.iconst 0, 1) := by decide +kernel
theorem dX10_fieldOf_8 : decode cX10_fieldOf 8 = .ok (.istore 5, 2) := by decide +kernel
theorem dX10_fieldOf_10 : decode cX10_fieldOf 10 = .ok (.iload 5, 2) := by decide +kernel
theorem dX10_fieldOf_12 : decode cX10_fieldOf 12 = .ok (.aload_n 0, 1) := by decide +kernel
theorem dX10_fieldOf_13 : decode cX10_fieldOf 13 = .ok (.getfield 130, 3) := by decide +kernel
theorem dX10_fieldOf_16 : decode cX10_fieldOf 16 = .ok (.if_icmp .ge 54, 3) := by decide +kernel
theorem dX10_fieldOf_19 : decode cX10_fieldOf 19 = .ok (.aload_n 0, 1) := by decide +kernel
theorem dX10_fieldOf_20 : decode cX10_fieldOf 20 = .ok (.getfield 67, 3) := by decide +kernel
theorem dX10_fieldOf_23 : decode cX10_fieldOf 23 = .ok (.iload_n 1, 1) := by decide +kernel
theorem dX10_fieldOf_24 : decode cX10_fieldOf 24 = .ok (.iaload, 1) := by decide +kernel
theorem dX10_fieldOf_25 : decode cX10_fieldOf 25 = .ok (.iload 5, 2) := by decide +kernel
theorem dX10_fieldOf_27 : decode cX10_fieldOf 27 = .ok (.invokestatic 209, 3) := by decide +kernel
theorem dX10_fieldOf_30 : decode cX10_fieldOf 30 = .ok (.ifCond .eq 30, 3) := by decide +kernel
theorem dX10_fieldOf_33 : decode cX10_fieldOf 33 = .ok (.aload_n 0, 1) := by decide +kernel
theorem dX10_fieldOf_34 : decode cX10_fieldOf 34 = .ok (.getfield 19, 3) := by decide +kernel
theorem dX10_fieldOf_37 : decode cX10_fieldOf 37 = .ok (.iload 5, 2) := by decide +kernel
theorem dX10_fieldOf_39 : decode cX10_fieldOf 39 = .ok (.iaload, 1) := by decide +kernel
theorem dX10_fieldOf_40 : decode cX10_fieldOf 40 = .ok (.iload_n 2, 1) := by decide +kernel
theorem dX10_fieldOf_41 : decode cX10_fieldOf 41 = .ok (.if_icmp .ne 19, 3) := by decide +kernel
theorem dX10_fieldOf_44 : decode cX10_fieldOf 44 = .ok (.aload_n 0, 1) := by decide +kernel
theorem dX10_fieldOf_45 : decode cX10_fieldOf 45 = .ok (.getfield 22, 3) := by decide +kernel
theorem dX10_fieldOf_48 : decode cX10_fieldOf 48 = .ok (.iload 5, 2) := by decide +kernel
theorem dX10_fieldOf_50 : decode cX10_fieldOf 50 = .ok (.iaload, 1) := by decide +kernel
theorem dX10_fieldOf_51 : decode cX10_fieldOf 51 = .ok (.iload_n 3, 1) := by decide +kernel
theorem dX10_fieldOf_52 : decode cX10_fieldOf 52 = .ok (.if_icmp .ne 8, 3) := by decide +kernel
theorem dX10_fieldOf_55 : decode cX10_fieldOf 55 = .ok (.iload 5, 2) := by decide +kernel
theorem dX10_fieldOf_57 : decode cX10_fieldOf 57 = .ok (.goto 5, 3) := by decide +kernel
theorem dX10_fieldOf_60 : decode cX10_fieldOf 60 = .ok (.iload 4, 2) := by decide +kernel
theorem dX10_fieldOf_62 : decode cX10_fieldOf 62 = .ok (.istore 4, 2) := by decide +kernel
theorem dX10_fieldOf_64 : decode cX10_fieldOf 64 = .ok (.iinc 5 1, 3) := by decide +kernel
theorem dX10_fieldOf_67 : decode cX10_fieldOf 67 = .ok (.goto (-57), 3) := by decide +kernel
theorem dX10_fieldOf_70 : decode cX10_fieldOf 70 = .ok (.iload 4, 2) := by decide +kernel
theorem dX10_fieldOf_72 : decode cX10_fieldOf 72 = .ok (.ireturn, 1) := by decide +kernel
theorem dX10_field_0 : decode cX10_field 0 = .ok (.iload_n 1, 1) := by decide +kernel
theorem dX10_field_1 : decode cX10_field 1 = .ok (.invokestatic 127, 3) := by decide +kernel
theorem dX10_field_4 : decode cX10_field 4 = .ok (.ifCond .eq 27, 3) := by decide +kernel
theorem dX10_field_7 : decode cX10_field 7 = .ok (.iload_n 2, 1) := by decide +kernel
theorem dX10_field_8 : decode cX10_field 8 = .ok (.invokestatic 118, 3) := by decide +kernel
theorem dX10_field_11 : decode cX10_field 11 = .ok (.ifCond .eq 20, 3) := by decide +kernel
theorem dX10_field_14 : decode cX10_field 14 = .ok (.iload_n 3, 1) := by decide +kernel
theorem dX10_field_15 : decode cX10_field 15 = .ok (.invokestatic 118, 3) := by decide +kernel
theorem dX10_field_18 : decode cX10_field 18 = .ok (.ifCond .eq 13, 3) := by decide +kernel
theorem dX10_field_21 : decode cX10_field 21 = .ok (.aload_n 0, 1) := by decide +kernel
theorem dX10_field_22 : decode cX10_field 22 = .ok (.iload_n 1, 1) := by decide +kernel
theorem dX10_field_23 : decode cX10_field 23 = .ok (.iload_n 2, 1) := by decide +kernel
theorem dX10_field_24 : decode cX10_field 24 = .ok (.iload_n 3, 1) := by decide +kernel
theorem dX10_field_25 : decode cX10_field 25 = .ok (.invokevirtual 241, 3) := by decide +kernel
theorem dX10_field_28 : decode cX10_field 28 = .ok (.goto 5, 3) := by decide +kernel
theorem dX10_field_31 : decode cX10_field 31 = .ok (.bipush (-2), 2) := by decide +kernel
theorem dX10_field_33 : decode cX10_field 33 = .ok (.ireturn, 1) := by decide +kernel
theorem dX10_many_0 : decode cX10_many 0 = .ok (.iconst 0, 1) := by decide +kernel
theorem dX10_many_1 : decode cX10_many 1 = .ok (.istore_n 2, 1) := by decide +kernel
theorem dX10_many_2 : decode cX10_many 2 = .ok (.iconst 0, 1) := by decide +kernel
theorem dX10_many_3 : decode cX10_many 3 = .ok (.istore_n 3, 1) := by decide +kernel
theorem dX10_many_4 : decode cX10_many 4 = .ok (.iload_n 3, 1) := by decide +kernel
theorem dX10_many_5 : decode cX10_many 5 = .ok (.bipush 8, 2) := by decide +kernel
theorem dX10_many_7 : decode cX10_many 7 = .ok (.if_icmp .ge 25, 3) := by decide +kernel
theorem dX10_many_10 : decode cX10_many 10 = .ok (.iload_n 2, 1) := by decide +kernel
theorem dX10_many_11 : decode cX10_many 11 = .ok (.iload_n 1, 1) := by decide +kernel
theorem dX10_many_12 : decode cX10_many 12 = .ok (.iload_n 3, 1) := by decide +kernel
theorem dX10_many_13 : decode cX10_many 13 = .ok (.invokestatic 209, 3) := by decide +kernel
theorem dX10_many_16 : decode cX10_many 16 = .ok (.ifCond .eq 7, 3) := by decide +kernel
theorem dX10_many_19 : decode cX10_many 19 = .ok (.iconst 1, 1) := by decide +kernel
theorem dX10_many_20 : decode cX10_many 20 = .ok (.goto 4, 3) := by decide +kernel
theorem dX10_many_23 : decode cX10_many 23 = .ok (.iconst 0, 1) := by decide +kernel
theorem dX10_many_24 : decode cX10_many 24 = .ok (.iadd, 1) := by decide +kernel
theorem dX10_many_25 : decode cX10_many 25 = .ok (.istore_n 2, 1) := by decide +kernel
theorem dX10_many_26 : decode cX10_many 26 = .ok (.iinc 3 1, 3) := by decide +kernel
theorem dX10_many_29 : decode cX10_many 29 = .ok (.goto (-25), 3) := by decide +kernel
theorem dX10_many_32 : decode cX10_many 32 = .ok (.iload_n 2, 1) := by decide +kernel
theorem dX10_many_33 : decode cX10_many 33 = .ok (.ireturn, 1) := by decide +kernel
theorem dX10_upOf_0 : decode cX10_upOf 0 = .ok (.aload_n 0, 1) := by decide +kernel
theorem dX10_upOf_1 : decode cX10_upOf 1 = .ok (.invokevirtual 235, 3) := by decide +kernel
theorem dX10_upOf_4 : decode cX10_upOf 4 = .ok (.iload_n 2, 1) := by decide +kernel
theorem dX10_upOf_5 : decode cX10_upOf 5 = .ok (.ifCond .ne 16, 3) := by decide +kernel
theorem dX10_upOf_8 : decode cX10_upOf 8 = .ok (.aload_n 0, 1) := by decide +kernel
theorem dX10_upOf_9 : decode cX10_upOf 9 = .ok (.aload_n 0, 1) := by decide +kernel
theorem dX10_upOf_10 : decode cX10_upOf 10 = .ok (.getfield 67, 3) := by decide +kernel
theorem dX10_upOf_13 : decode cX10_upOf 13 = .ok (.iload_n 1, 1) := by decide +kernel
theorem dX10_upOf_14 : decode cX10_upOf 14 = .ok (.iaload, 1) := by decide +kernel
theorem dX10_upOf_15 : decode cX10_upOf 15 = .ok (.invokevirtual 244, 3) := by decide +kernel
theorem dX10_upOf_18 : decode cX10_upOf 18 = .ok (.goto 9, 3) := by decide +kernel
theorem dX10_upOf_21 : decode cX10_upOf 21 = .ok (.aload_n 0, 1) := by decide +kernel
theorem dX10_upOf_22 : decode cX10_upOf 22 = .ok (.getfield 70, 3) := by decide +kernel
theorem dX10_upOf_25 : decode cX10_upOf 25 = .ok (.iload_n 1, 1) := by decide +kernel
theorem dX10_upOf_26 : decode cX10_upOf 26 = .ok (.iaload, 1) := by decide +kernel
theorem dX10_upOf_27 : decode cX10_upOf 27 = .ok (.ireturn, 1) := by decide +kernel
theorem dX10_up_0 : decode cX10_up 0 = .ok (.iload_n 1, 1) := by decide +kernel
theorem dX10_up_1 : decode cX10_up 1 = .ok (.invokestatic 127, 3) := by decide +kernel
theorem dX10_up_4 : decode cX10_up 4 = .ok (.ifCond .eq 19, 3) := by decide +kernel
theorem dX10_up_7 : decode cX10_up 7 = .ok (.iload_n 2, 1) := by decide +kernel
theorem dX10_up_8 : decode cX10_up 8 = .ok (.invokestatic 168, 3) := by decide +kernel
theorem dX10_up_11 : decode cX10_up 11 = .ok (.ifCond .eq 12, 3) := by decide +kernel
theorem dX10_up_14 : decode cX10_up 14 = .ok (.aload_n 0, 1) := by decide +kernel
theorem dX10_up_15 : decode cX10_up 15 = .ok (.iload_n 1, 1) := by decide +kernel
theorem dX10_up_16 : decode cX10_up 16 = .ok (.iload_n 2, 1) := by decide +kernel
theorem dX10_up_17 : decode cX10_up 17 = .ok (.invokevirtual 247, 3) := by decide +kernel
theorem dX10_up_20 : decode cX10_up 20 = .ok (.goto 5, 3) := by decide +kernel
theorem dX10_up_23 : decode cX10_up 23 = .ok (.bipush (-2), 2) := by decide +kernel
theorem dX10_up_25 : decode cX10_up 25 = .ok (.ireturn, 1) := by decide +kernel
theorem dX10_metOf_0 : decode cX10_metOf 0 = .ok (.aload_n 0, 1) := by decide +kernel
theorem dX10_metOf_1 : decode cX10_metOf 1 = .ok (.invokevirtual 235, 3) := by decide +kernel
theorem dX10_metOf_4 : decode cX10_metOf 4 = .ok (.aload_n 0, 1) := by decide +kernel
theorem dX10_metOf_5 : decode cX10_metOf 5 = .ok (.getfield 58, 3) := by decide +kernel
theorem dX10_metOf_8 : decode cX10_metOf 8 = .ok (.iload_n 1, 1) := by decide +kernel
theorem dX10_metOf_9 : decode cX10_metOf 9 = .ok (.iaload, 1) := by decide +kernel
theorem dX10_metOf_10 : decode cX10_metOf 10 = .ok (.ireturn, 1) := by decide +kernel
theorem dX10_met_0 : decode cX10_met 0 = .ok (.aload_n 0, 1) := by decide +kernel
theorem dX10_met_1 : decode cX10_met 1 = .ok (.iload_n 1, 1) := by decide +kernel
theorem dX10_met_2 : decode cX10_met 2 = .ok (.invokevirtual 159, 3) := by decide +kernel
theorem dX10_met_5 : decode cX10_met 5 = .ok (.ifCond .eq 11, 3) := by decide +kernel
theorem dX10_met_8 : decode cX10_met 8 = .ok (.aload_n 0, 1) := by decide +kernel
theorem dX10_met_9 : decode cX10_met 9 = .ok (.iload_n 1, 1) := by decide +kernel
theorem dX10_met_10 : decode cX10_met 10 = .ok (.invokevirtual 250, 3) := by decide +kernel
theorem dX10_met_13 : decode cX10_met 13 = .ok (.goto 5, 3) := by decide +kernel
theorem dX10_met_16 : decode cX10_met 16 = .ok (.bipush (-2), 2) := by decide +kernel
theorem dX10_met_18 : decode cX10_met 18 = .ok (.ireturn, 1) := by decide +kernel
theorem dX10_stoodNow_0 : decode cX10_stoodNow 0 = .ok (.iconst 0, 1) := by decide +kernel
theorem dX10_stoodNow_1 : decode cX10_stoodNow 1 = .ok (.istore_n 2, 1) := by decide +kernel
theorem dX10_stoodNow_2 : decode cX10_stoodNow 2 = .ok (.iconst 0, 1) := by decide +kernel
theorem dX10_stoodNow_3 : decode cX10_stoodNow 3 = .ok (.istore_n 3, 1) := by decide +kernel
theorem dX10_stoodNow_4 : decode cX10_stoodNow 4 = .ok (.iload_n 3, 1) := by decide +kernel
theorem dX10_stoodNow_5 : decode cX10_stoodNow 5 = .ok (.bipush 24, 2) := by decide +kernel
theorem dX10_stoodNow_7 : decode cX10_stoodNow 7 = .ok (.if_icmp .ge 30, 3) := by decide +kernel
theorem dX10_stoodNow_10 : decode cX10_stoodNow 10 = .ok (.iload_n 2, 1) := by decide +kernel
theorem dX10_stoodNow_11 : decode cX10_stoodNow 11 = .ok (.aload_n 0, 1) := by decide +kernel
theorem dX10_stoodNow_12 : decode cX10_stoodNow 12 = .ok (.getfield 67, 3) := by decide +kernel
theorem dX10_stoodNow_15 : decode cX10_stoodNow 15 = .ok (.iload_n 3, 1) := by decide +kernel
theorem dX10_stoodNow_16 : decode cX10_stoodNow 16 = .ok (.iaload, 1) := by decide +kernel
theorem dX10_stoodNow_17 : decode cX10_stoodNow 17 = .ok (.iload_n 1, 1) := by decide +kernel
theorem dX10_stoodNow_18 : decode cX10_stoodNow 18 = .ok (.invokestatic 209, 3) := by decide +kernel
theorem dX10_stoodNow_21 : decode cX10_stoodNow 21 = .ok (.ifCond .eq 7, 3) := by decide +kernel
theorem dX10_stoodNow_24 : decode cX10_stoodNow 24 = .ok (.iconst 1, 1) := by decide +kernel
theorem dX10_stoodNow_25 : decode cX10_stoodNow 25 = .ok (.goto 4, 3) := by decide +kernel
theorem dX10_stoodNow_28 : decode cX10_stoodNow 28 = .ok (.iconst 0, 1) := by decide +kernel
theorem dX10_stoodNow_29 : decode cX10_stoodNow 29 = .ok (.iadd, 1) := by decide +kernel
theorem dX10_stoodNow_30 : decode cX10_stoodNow 30 = .ok (.istore_n 2, 1) := by decide +kernel
theorem dX10_stoodNow_31 : decode cX10_stoodNow 31 = .ok (.iinc 3 1, 3) := by decide +kernel
theorem dX10_stoodNow_34 : decode cX10_stoodNow 34 = .ok (.goto (-30), 3) := by decide +kernel
theorem dX10_stoodNow_37 : decode cX10_stoodNow 37 = .ok (.iload_n 2, 1) := by decide +kernel
theorem dX10_stoodNow_38 : decode cX10_stoodNow 38 = .ok (.ireturn, 1) := by decide +kernel
theorem dX10_stoodOf_0 : decode cX10_stoodOf 0 = .ok (.aload_n 0, 1) := by decide +kernel
theorem dX10_stoodOf_1 : decode cX10_stoodOf 1 = .ok (.invokevirtual 235, 3) := by decide +kernel
theorem dX10_stoodOf_4 : decode cX10_stoodOf 4 = .ok (.aload_n 0, 1) := by decide +kernel
theorem dX10_stoodOf_5 : decode cX10_stoodOf 5 = .ok (.iload_n 1, 1) := by decide +kernel
theorem dX10_stoodOf_6 : decode cX10_stoodOf 6 = .ok (.invokevirtual 253, 3) := by decide +kernel
theorem dX10_stoodOf_9 : decode cX10_stoodOf 9 = .ok (.ireturn, 1) := by decide +kernel
theorem dX10_stood_0 : decode cX10_stood 0 = .ok (.aload_n 0, 1) := by decide +kernel
theorem dX10_stood_1 : decode cX10_stood 1 = .ok (.iload_n 1, 1) := by decide +kernel
theorem dX10_stood_2 : decode cX10_stood 2 = .ok (.invokevirtual 153, 3) := by decide +kernel
theorem dX10_stood_5 : decode cX10_stood 5 = .ok (.ifCond .eq 11, 3) := by decide +kernel
theorem dX10_stood_8 : decode cX10_stood 8 = .ok (.aload_n 0, 1) := by decide +kernel
theorem dX10_stood_9 : decode cX10_stood 9 = .ok (.iload_n 1, 1) := by decide +kernel
theorem dX10_stood_10 : decode cX10_stood 10 = .ok (.invokevirtual 256, 3) := by decide +kernel
theorem dX10_stood_13 : decode cX10_stood 13 = .ok (.goto 5, 3) := by decide +kernel
theorem dX10_stood_16 : decode cX10_stood 16 = .ok (.bipush (-2), 2) := by decide +kernel
theorem dX10_stood_18 : decode cX10_stood 18 = .ok (.ireturn, 1) := by decide +kernel
theorem dX10_wronglyOf_0 : decode cX10_wronglyOf 0 = .ok (.aload_n 0, 1) := by decide +kernel
theorem dX10_wronglyOf_1 : decode cX10_wronglyOf 1 = .ok (.invokevirtual 235, 3) := by decide +kernel
theorem dX10_wronglyOf_4 : decode cX10_wronglyOf 4 = .ok (.aload_n 0, 1) := by decide +kernel
theorem dX10_wronglyOf_5 : decode cX10_wronglyOf 5 = .ok (.getfield 197, 3) := by decide +kernel
theorem dX10_wronglyOf_8 : decode cX10_wronglyOf 8 = .ok (.ireturn, 1) := by decide +kernel
theorem dX10_wrongly_0 : decode cX10_wrongly 0 = .ok (.aload_n 0, 1) := by decide +kernel
theorem dX10_wrongly_1 : decode cX10_wrongly 1 = .ok (.invokevirtual 259, 3) := by decide +kernel
theorem dX10_wrongly_4 : decode cX10_wrongly 4 = .ok (.ireturn, 1) := by decide +kernel
theorem dX10_firstOf_0 : decode cX10_firstOf 0 = .ok (.aload_n 0, 1) := by decide +kernel
theorem dX10_firstOf_1 : decode cX10_firstOf 1 = .ok (.invokevirtual 235, 3) := by decide +kernel
theorem dX10_firstOf_4 : decode cX10_firstOf 4 = .ok (.iload_n 1, 1) := by decide +kernel
theorem dX10_firstOf_5 : decode cX10_firstOf 5 = .ok (.ifCond .ne 10, 3) := by decide +kernel
theorem dX10_firstOf_8 : decode cX10_firstOf 8 = .ok (.aload_n 0, 1) := by decide +kernel
theorem dX10_firstOf_9 : decode cX10_firstOf 9 = .ok (.getfield 203, 3) := by decide +kernel
theorem dX10_firstOf_12 : decode cX10_firstOf 12 = .ok (.goto 7, 3) := by decide +kernel
theorem dX10_firstOf_15 : decode cX10_firstOf 15 = .ok (.aload_n 0, 1) := by decide +kernel
theorem dX10_firstOf_16 : decode cX10_firstOf 16 = .ok (.getfield 206, 3) := by decide +kernel
theorem dX10_firstOf_19 : decode cX10_firstOf 19 = .ok (.ireturn, 1) := by decide +kernel
theorem dX10_first_0 : decode cX10_first 0 = .ok (.iload_n 1, 1) := by decide +kernel
theorem dX10_first_1 : decode cX10_first 1 = .ok (.invokestatic 168, 3) := by decide +kernel
theorem dX10_first_4 : decode cX10_first 4 = .ok (.ifCond .eq 11, 3) := by decide +kernel
theorem dX10_first_7 : decode cX10_first 7 = .ok (.aload_n 0, 1) := by decide +kernel
theorem dX10_first_8 : decode cX10_first 8 = .ok (.iload_n 1, 1) := by decide +kernel
theorem dX10_first_9 : decode cX10_first 9 = .ok (.invokevirtual 263, 3) := by decide +kernel
theorem dX10_first_12 : decode cX10_first 12 = .ok (.goto 5, 3) := by decide +kernel
theorem dX10_first_15 : decode cX10_first 15 = .ok (.bipush (-2), 2) := by decide +kernel
theorem dX10_first_17 : decode cX10_first 17 = .ok (.ireturn, 1) := by decide +kernel
theorem dX10_gateOf_0 : decode cX10_gateOf 0 = .ok (.aload_n 0, 1) := by decide +kernel
theorem dX10_gateOf_1 : decode cX10_gateOf 1 = .ok (.invokevirtual 235, 3) := by decide +kernel
theorem dX10_gateOf_4 : decode cX10_gateOf 4 = .ok (.iconst (-1), 1) := by decide +kernel
theorem dX10_gateOf_5 : decode cX10_gateOf 5 = .ok (.istore_n 1, 1) := by decide +kernel
theorem dX10_gateOf_6 : decode cX10_gateOf 6 = .ok (.iconst 0, 1) := by decide +kernel
theorem dX10_gateOf_7 : decode cX10_gateOf 7 = .ok (.istore_n 2, 1) := by decide +kernel
theorem dX10_gateOf_8 : decode cX10_gateOf 8 = .ok (.iconst 0, 1) := by decide +kernel
theorem dX10_gateOf_9 : decode cX10_gateOf 9 = .ok (.istore_n 3, 1) := by decide +kernel
theorem dX10_gateOf_10 : decode cX10_gateOf 10 = .ok (.iload_n 3, 1) := by decide +kernel
theorem dX10_gateOf_11 : decode cX10_gateOf 11 = .ok (.aload_n 0, 1) := by decide +kernel
theorem dX10_gateOf_12 : decode cX10_gateOf 12 = .ok (.getfield 130, 3) := by decide +kernel
theorem dX10_gateOf_15 : decode cX10_gateOf 15 = .ok (.if_icmp .ge 46, 3) := by decide +kernel
theorem dX10_gateOf_18 : decode cX10_gateOf 18 = .ok (.aload_n 0, 1) := by decide +kernel
theorem dX10_gateOf_19 : decode cX10_gateOf 19 = .ok (.getfield 55, 3) := by decide +kernel
theorem dX10_gateOf_22 : decode cX10_gateOf 22 = .ok (.iload_n 3, 1) := by decide +kernel
theorem dX10_gateOf_23 : decode cX10_gateOf 23 = .ok (.iaload, 1) := by decide +kernel
theorem dX10_gateOf_24 : decode cX10_gateOf 24 = .ok (.iload_n 2, 1) := by decide +kernel
theorem dX10_gateOf_25 : decode cX10_gateOf 25 = .ok (.if_icmp .le 7, 3) := by decide +kernel
theorem dX10_gateOf_28 : decode cX10_gateOf 28 = .ok (.iload_n 3, 1) := by decide +kernel
theorem dX10_gateOf_29 : decode cX10_gateOf 29 = .ok (.goto 4, 3) := by decide +kernel
theorem dX10_gateOf_32 : decode cX10_gateOf 32 = .ok (.iload_n 1, 1) := by decide +kernel
theorem dX10_gateOf_33 : decode cX10_gateOf 33 = .ok (.istore_n 1, 1) := by decide +kernel
theorem dX10_gateOf_34 : decode cX10_gateOf 34 = .ok (.aload_n 0, 1) := by decide +kernel
theorem dX10_gateOf_35 : decode cX10_gateOf 35 = .ok (.getfield 55, 3) := by decide +kernel
theorem dX10_gateOf_38 : decode cX10_gateOf 38 = .ok (.iload_n 3, 1) := by decide +kernel
theorem dX10_gateOf_39 : decode cX10_gateOf 39 = .ok (.iaload, 1) := by decide +kernel
theorem dX10_gateOf_40 : decode cX10_gateOf 40 = .ok (.iload_n 2, 1) := by decide +kernel
theorem dX10_gateOf_41 : decode cX10_gateOf 41 = .ok (.if_icmp .le 12, 3) := by decide +kernel
theorem dX10_gateOf_44 : decode cX10_gateOf 44 = .ok (.aload_n 0, 1) := by decide +kernel
theorem dX10_gateOf_45 : decode cX10_gateOf 45 = .ok (.getfield 55, 3) := by decide +kernel
theorem dX10_gateOf_48 : decode cX10_gateOf 48 = .ok (.iload_n 3, 1) := by decide +kernel
theorem dX10_gateOf_49 : decode cX10_gateOf 49 = .ok (.iaload, 1) := by decide +kernel
theorem dX10_gateOf_50 : decode cX10_gateOf 50 = .ok (.goto 4, 3) := by decide +kernel
theorem dX10_gateOf_53 : decode cX10_gateOf 53 = .ok (.iload_n 2, 1) := by decide +kernel
theorem dX10_gateOf_54 : decode cX10_gateOf 54 = .ok (.istore_n 2, 1) := by decide +kernel
theorem dX10_gateOf_55 : decode cX10_gateOf 55 = .ok (.iinc 3 1, 3) := by decide +kernel
theorem dX10_gateOf_58 : decode cX10_gateOf 58 = .ok (.goto (-48), 3) := by decide +kernel
theorem dX10_gateOf_61 : decode cX10_gateOf 61 = .ok (.iload_n 1, 1) := by decide +kernel
theorem dX10_gateOf_62 : decode cX10_gateOf 62 = .ok (.ireturn, 1) := by decide +kernel
theorem dX10_gate_0 : decode cX10_gate 0 = .ok (.aload_n 0, 1) := by decide +kernel
theorem dX10_gate_1 : decode cX10_gate 1 = .ok (.invokevirtual 266, 3) := by decide +kernel
theorem dX10_gate_4 : decode cX10_gate 4 = .ok (.ireturn, 1) := by decide +kernel
theorem dX10_restOf_0 : decode cX10_restOf 0 = .ok (.aload_n 0, 1) := by decide +kernel
theorem dX10_restOf_1 : decode cX10_restOf 1 = .ok (.invokevirtual 235, 3) := by decide +kernel
theorem dX10_restOf_4 : decode cX10_restOf 4 = .ok (.iconst 0, 1) := by decide +kernel
theorem dX10_restOf_5 : decode cX10_restOf 5 = .ok (.istore_n 1, 1) := by decide +kernel
theorem dX10_restOf_6 : decode cX10_restOf 6 = .ok (.iconst 0, 1) := by decide +kernel
theorem dX10_restOf_7 : decode cX10_restOf 7 = .ok (.istore_n 2, 1) := by decide +kernel
theorem dX10_restOf_8 : decode cX10_restOf 8 = .ok (.iload_n 2, 1) := by decide +kernel
theorem dX10_restOf_9 : decode cX10_restOf 9 = .ok (.aload_n 0, 1) := by decide +kernel
theorem dX10_restOf_10 : decode cX10_restOf 10 = .ok (.getfield 130, 3) := by decide +kernel
theorem dX10_restOf_13 : decode cX10_restOf 13 = .ok (.if_icmp .ge 28, 3) := by decide +kernel
theorem dX10_restOf_16 : decode cX10_restOf 16 = .ok (.iload_n 1, 1) := by decide +kernel
theorem dX10_restOf_17 : decode cX10_restOf 17 = .ok (.aload_n 0, 1) := by decide +kernel
theorem dX10_restOf_18 : decode cX10_restOf 18 = .ok (.getfield 55, 3) := by decide +kernel
theorem dX10_restOf_21 : decode cX10_restOf 21 = .ok (.iload_n 2, 1) := by decide +kernel
theorem dX10_restOf_22 : decode cX10_restOf 22 = .ok (.iaload, 1) := by decide +kernel
theorem dX10_restOf_23 : decode cX10_restOf 23 = .ok (.ifCond .ne 9, 3) := by decide +kernel
theorem dX10_restOf_26 : decode cX10_restOf 26 = .ok (.iconst 1, 1) := by decide +kernel
theorem dX10_restOf_27 : decode cX10_restOf 27 = .ok (.iload_n 2, 1) := by decide +kernel
theorem dX10_restOf_28 : decode cX10_restOf 28 = .ok (.ishl, 1) := by decide +kernel
theorem dX10_restOf_29 : decode cX10_restOf 29 = .ok (.goto 4, 3) := by decide +kernel
theorem dX10_restOf_32 : decode cX10_restOf 32 = .ok (.iconst 0, 1) := by decide +kernel
theorem dX10_restOf_33 : decode cX10_restOf 33 = .ok (.ior, 1) := by decide +kernel
theorem dX10_restOf_34 : decode cX10_restOf 34 = .ok (.istore_n 1, 1) := by decide +kernel
theorem dX10_restOf_35 : decode cX10_restOf 35 = .ok (.iinc 2 1, 3) := by decide +kernel
theorem dX10_restOf_38 : decode cX10_restOf 38 = .ok (.goto (-30), 3) := by decide +kernel
theorem dX10_restOf_41 : decode cX10_restOf 41 = .ok (.iload_n 1, 1) := by decide +kernel
theorem dX10_restOf_42 : decode cX10_restOf 42 = .ok (.ireturn, 1) := by decide +kernel
theorem dX10_rest_0 : decode cX10_rest 0 = .ok (.aload_n 0, 1) := by decide +kernel
theorem dX10_rest_1 : decode cX10_rest 1 = .ok (.invokevirtual 269, 3) := by decide +kernel
theorem dX10_rest_4 : decode cX10_rest 4 = .ok (.ireturn, 1) := by decide +kernel
theorem dX10_metNow_0 : decode cX10_metNow 0 = .ok (.iconst 0, 1) := by decide +kernel
theorem dX10_metNow_1 : decode cX10_metNow 1 = .ok (.istore_n 1, 1) := by decide +kernel
theorem dX10_metNow_2 : decode cX10_metNow 2 = .ok (.iconst 0, 1) := by decide +kernel
theorem dX10_metNow_3 : decode cX10_metNow 3 = .ok (.istore_n 2, 1) := by decide +kernel
theorem dX10_metNow_4 : decode cX10_metNow 4 = .ok (.iload_n 2, 1) := by decide +kernel
theorem dX10_metNow_5 : decode cX10_metNow 5 = .ok (.aload_n 0, 1) := by decide +kernel
theorem dX10_metNow_6 : decode cX10_metNow 6 = .ok (.getfield 134, 3) := by decide +kernel
theorem dX10_metNow_9 : decode cX10_metNow 9 = .ok (.if_icmp .ge 27, 3) := by decide +kernel
theorem dX10_metNow_12 : decode cX10_metNow 12 = .ok (.iload_n 1, 1) := by decide +kernel
theorem dX10_metNow_13 : decode cX10_metNow 13 = .ok (.aload_n 0, 1) := by decide +kernel
theorem dX10_metNow_14 : decode cX10_metNow 14 = .ok (.getfield 58, 3) := by decide +kernel
theorem dX10_metNow_17 : decode cX10_metNow 17 = .ok (.iload_n 2, 1) := by decide +kernel
theorem dX10_metNow_18 : decode cX10_metNow 18 = .ok (.iaload, 1) := by decide +kernel
theorem dX10_metNow_19 : decode cX10_metNow 19 = .ok (.iconst (-1), 1) := by decide +kernel
theorem dX10_metNow_20 : decode cX10_metNow 20 = .ok (.if_icmp .eq 7, 3) := by decide +kernel
theorem dX10_metNow_23 : decode cX10_metNow 23 = .ok (.iconst 1, 1) := by decide +kernel
theorem dX10_metNow_24 : decode cX10_metNow 24 = .ok (.goto 4, 3) := by decide +kernel
theorem dX10_metNow_27 : decode cX10_metNow 27 = .ok (.iconst 0, 1) := by decide +kernel
theorem dX10_metNow_28 : decode cX10_metNow 28 = .ok (.iadd, 1) := by decide +kernel
theorem dX10_metNow_29 : decode cX10_metNow 29 = .ok (.istore_n 1, 1) := by decide +kernel
theorem dX10_metNow_30 : decode cX10_metNow 30 = .ok (.iinc 2 1, 3) := by decide +kernel
theorem dX10_metNow_33 : decode cX10_metNow 33 = .ok (.goto (-29), 3) := by decide +kernel
theorem dX10_metNow_36 : decode cX10_metNow 36 = .ok (.iload_n 1, 1) := by decide +kernel
theorem dX10_metNow_37 : decode cX10_metNow 37 = .ok (.ireturn, 1) := by decide +kernel
theorem dX10_more_0 : decode cX10_more 0 = .ok (.aload_n 0, 1) := by decide +kernel
theorem dX10_more_1 : decode cX10_more 1 = .ok (.aload_n 0, 1) := by decide +kernel
theorem dX10_more_2 : decode cX10_more 2 = .ok (.getfield 171, 3) := by decide +kernel
theorem dX10_more_5 : decode cX10_more 5 = .ok (.iconst 1, 1) := by decide +kernel
theorem dX10_more_6 : decode cX10_more 6 = .ok (.iadd, 1) := by decide +kernel
theorem dX10_more_7 : decode cX10_more 7 = .ok (.putfield 184, 3) := by decide +kernel
theorem dX10_more_10 : decode cX10_more 10 = .ok (.aload_n 0, 1) := by decide +kernel
theorem dX10_more_11 : decode cX10_more 11 = .ok (.getfield 46, 3) := by decide +kernel
theorem dX10_more_14 : decode cX10_more 14 = .ok (.aload_n 0, 1) := by decide +kernel
theorem dX10_more_15 : decode cX10_more 15 = .ok (.getfield 171, 3) := by decide +kernel
theorem dX10_more_18 : decode cX10_more 18 = .ok (.iconst 0, 1) := by decide +kernel
theorem dX10_more_19 : decode cX10_more 19 = .ok (.iastore, 1) := by decide +kernel
theorem dX10_more_20 : decode cX10_more 20 = .ok (.aload_n 0, 1) := by decide +kernel
theorem dX10_more_21 : decode cX10_more 21 = .ok (.getfield 49, 3) := by decide +kernel
theorem dX10_more_24 : decode cX10_more 24 = .ok (.aload_n 0, 1) := by decide +kernel
theorem dX10_more_25 : decode cX10_more 25 = .ok (.getfield 171, 3) := by decide +kernel
theorem dX10_more_28 : decode cX10_more 28 = .ok (.iload_n 1, 1) := by decide +kernel
theorem dX10_more_29 : decode cX10_more 29 = .ok (.iastore, 1) := by decide +kernel
theorem dX10_more_30 : decode cX10_more 30 = .ok (.aload_n 0, 1) := by decide +kernel
theorem dX10_more_31 : decode cX10_more 31 = .ok (.getfield 52, 3) := by decide +kernel
theorem dX10_more_34 : decode cX10_more 34 = .ok (.aload_n 0, 1) := by decide +kernel
theorem dX10_more_35 : decode cX10_more 35 = .ok (.getfield 171, 3) := by decide +kernel
theorem dX10_more_38 : decode cX10_more 38 = .ok (.iload_n 2, 1) := by decide +kernel
theorem dX10_more_39 : decode cX10_more 39 = .ok (.iastore, 1) := by decide +kernel
theorem dX10_more_40 : decode cX10_more 40 = .ok (.aload_n 0, 1) := by decide +kernel
theorem dX10_more_41 : decode cX10_more 41 = .ok (.invokevirtual 232, 3) := by decide +kernel
theorem dX10_more_44 : decode cX10_more 44 = .ok (.return_, 1) := by decide +kernel
theorem dX10_ploughOf_0 : decode cX10_ploughOf 0 = .ok (.aload_n 0, 1) := by decide +kernel
theorem dX10_ploughOf_1 : decode cX10_ploughOf 1 = .ok (.invokevirtual 229, 3) := by decide +kernel
theorem dX10_ploughOf_4 : decode cX10_ploughOf 4 = .ok (.iconst (-1), 1) := by decide +kernel
theorem dX10_ploughOf_5 : decode cX10_ploughOf 5 = .ok (.istore_n 3, 1) := by decide +kernel
theorem dX10_ploughOf_6 : decode cX10_ploughOf 6 = .ok (.iconst (-1), 1) := by decide +kernel
theorem dX10_ploughOf_7 : decode cX10_ploughOf 7 = .ok (.istore 4, 2) := by decide +kernel
theorem dX10_ploughOf_9 : decode cX10_ploughOf 9 = .ok (.iconst 0, 1) := by decide +kernel
theorem dX10_ploughOf_10 : decode cX10_ploughOf 10 = .ok (.istore 5, 2) := by decide +kernel
theorem dX10_ploughOf_12 : decode cX10_ploughOf 12 = .ok (.iload 5, 2) := by decide +kernel
theorem dX10_ploughOf_14 : decode cX10_ploughOf 14 = .ok (.bipush 6, 2) := by decide +kernel
theorem dX10_ploughOf_16 : decode cX10_ploughOf 16 = .ok (.if_icmp .ge 52, 3) := by decide +kernel
theorem dX10_ploughOf_19 : decode cX10_ploughOf 19 = .ok (.aload_n 0, 1) := by decide +kernel
theorem dX10_ploughOf_20 : decode cX10_ploughOf 20 = .ok (.iload_n 1, 1) := by decide +kernel
theorem dX10_ploughOf_21 : decode cX10_ploughOf 21 = .ok (.iload 5, 2) := by decide +kernel
theorem dX10_ploughOf_23 : decode cX10_ploughOf 23 = .ok (.invokevirtual 272, 3) := by decide +kernel
theorem dX10_ploughOf_26 : decode cX10_ploughOf 26 = .ok (.aload_n 0, 1) := by decide +kernel
theorem dX10_ploughOf_27 : decode cX10_ploughOf 27 = .ok (.invokevirtual 275, 3) := by decide +kernel
theorem dX10_ploughOf_30 : decode cX10_ploughOf 30 = .ok (.istore 6, 2) := by decide +kernel
theorem dX10_ploughOf_32 : decode cX10_ploughOf 32 = .ok (.iload 6, 2) := by decide +kernel
theorem dX10_ploughOf_34 : decode cX10_ploughOf 34 = .ok (.iload 4, 2) := by decide +kernel
theorem dX10_ploughOf_36 : decode cX10_ploughOf 36 = .ok (.if_icmp .le 8, 3) := by decide +kernel
theorem dX10_ploughOf_39 : decode cX10_ploughOf 39 = .ok (.iload 5, 2) := by decide +kernel
theorem dX10_ploughOf_41 : decode cX10_ploughOf 41 = .ok (.goto 4, 3) := by decide +kernel
theorem dX10_ploughOf_44 : decode cX10_ploughOf 44 = .ok (.iload_n 3, 1) := by decide +kernel
theorem dX10_ploughOf_45 : decode cX10_ploughOf 45 = .ok (.istore_n 3, 1) := by decide +kernel
theorem dX10_ploughOf_46 : decode cX10_ploughOf 46 = .ok (.iload 6, 2) := by decide +kernel
theorem dX10_ploughOf_48 : decode cX10_ploughOf 48 = .ok (.iload 4, 2) := by decide +kernel
theorem dX10_ploughOf_50 : decode cX10_ploughOf 50 = .ok (.if_icmp .le 8, 3) := by decide +kernel
theorem dX10_ploughOf_53 : decode cX10_ploughOf 53 = .ok (.iload 6, 2) := by decide +kernel
theorem dX10_ploughOf_55 : decode cX10_ploughOf 55 = .ok (.goto 5, 3) := by decide +kernel
theorem dX10_ploughOf_58 : decode cX10_ploughOf 58 = .ok (.iload 4, 2) := by decide +kernel
theorem dX10_ploughOf_60 : decode cX10_ploughOf 60 = .ok (.istore 4, 2) := by decide +kernel
theorem dX10_ploughOf_62 : decode cX10_ploughOf 62 = .ok (.iinc 5 1, 3) := by decide +kernel
theorem dX10_ploughOf_65 : decode cX10_ploughOf 65 = .ok (.goto (-53), 3) := by decide +kernel
theorem dX10_ploughOf_68 : decode cX10_ploughOf 68 = .ok (.iload_n 2, 1) := by decide +kernel
theorem dX10_ploughOf_69 : decode cX10_ploughOf 69 = .ok (.ifCond .ne 7, 3) := by decide +kernel
theorem dX10_ploughOf_72 : decode cX10_ploughOf 72 = .ok (.iload_n 3, 1) := by decide +kernel
theorem dX10_ploughOf_73 : decode cX10_ploughOf 73 = .ok (.goto 5, 3) := by decide +kernel
theorem dX10_ploughOf_76 : decode cX10_ploughOf 76 = .ok (.iload 4, 2) := by decide +kernel
theorem dX10_ploughOf_78 : decode cX10_ploughOf 78 = .ok (.ireturn, 1) := by decide +kernel
theorem dX10_plough_0 : decode cX10_plough 0 = .ok (.iload_n 1, 1) := by decide +kernel
theorem dX10_plough_1 : decode cX10_plough 1 = .ok (.invokestatic 127, 3) := by decide +kernel
theorem dX10_plough_4 : decode cX10_plough 4 = .ok (.ifCond .eq 19, 3) := by decide +kernel
theorem dX10_plough_7 : decode cX10_plough 7 = .ok (.iload_n 2, 1) := by decide +kernel
theorem dX10_plough_8 : decode cX10_plough 8 = .ok (.invokestatic 168, 3) := by decide +kernel
theorem dX10_plough_11 : decode cX10_plough 11 = .ok (.ifCond .eq 12, 3) := by decide +kernel
theorem dX10_plough_14 : decode cX10_plough 14 = .ok (.aload_n 0, 1) := by decide +kernel
theorem dX10_plough_15 : decode cX10_plough 15 = .ok (.iload_n 1, 1) := by decide +kernel
theorem dX10_plough_16 : decode cX10_plough 16 = .ok (.iload_n 2, 1) := by decide +kernel
theorem dX10_plough_17 : decode cX10_plough 17 = .ok (.invokevirtual 278, 3) := by decide +kernel
theorem dX10_plough_20 : decode cX10_plough 20 = .ok (.goto 5, 3) := by decide +kernel
theorem dX10_plough_23 : decode cX10_plough 23 = .ok (.bipush (-2), 2) := by decide +kernel
theorem dX10_plough_25 : decode cX10_plough 25 = .ok (.ireturn, 1) := by decide +kernel
theorem dX10_isOther_0 : decode cX10_isOther 0 = .ok (.iconst 0, 1) := by decide +kernel
theorem dX10_isOther_1 : decode cX10_isOther 1 = .ok (.istore 4, 2) := by decide +kernel
theorem dX10_isOther_3 : decode cX10_isOther 3 = .ok (.iconst 0, 1) := by decide +kernel
theorem dX10_isOther_4 : decode cX10_isOther 4 = .ok (.istore 5, 2) := by decide +kernel
theorem dX10_isOther_6 : decode cX10_isOther 6 = .ok (.iload 5, 2) := by decide +kernel
theorem dX10_isOther_8 : decode cX10_isOther 8 = .ok (.aload_n 0, 1) := by decide +kernel
theorem dX10_isOther_9 : decode cX10_isOther 9 = .ok (.getfield 130, 3) := by decide +kernel
theorem dX10_isOther_12 : decode cX10_isOther 12 = .ok (.if_icmp .ge 49, 3) := by decide +kernel
theorem dX10_isOther_15 : decode cX10_isOther 15 = .ok (.iload 4, 2) := by decide +kernel
theorem dX10_isOther_17 : decode cX10_isOther 17 = .ok (.ifCond .ne 31, 3) := by decide +kernel
theorem dX10_isOther_20 : decode cX10_isOther 20 = .ok (.iload 5, 2) := by decide +kernel
theorem dX10_isOther_22 : decode cX10_isOther 22 = .ok (.iload_n 1, 1) := by decide +kernel
theorem dX10_isOther_23 : decode cX10_isOther 23 = .ok (.if_icmp .eq 29, 3) := by decide +kernel
theorem dX10_isOther_26 : decode cX10_isOther 26 = .ok (.aload_n 0, 1) := by decide +kernel
theorem dX10_isOther_27 : decode cX10_isOther 27 = .ok (.getfield 19, 3) := by decide +kernel
theorem dX10_isOther_30 : decode cX10_isOther 30 = .ok (.iload 5, 2) := by decide +kernel
theorem dX10_isOther_32 : decode cX10_isOther 32 = .ok (.iaload, 1) := by decide +kernel
theorem dX10_isOther_33 : decode cX10_isOther 33 = .ok (.iload_n 2, 1) := by decide +kernel
theorem dX10_isOther_34 : decode cX10_isOther 34 = .ok (.if_icmp .ne 18, 3) := by decide +kernel
theorem dX10_isOther_37 : decode cX10_isOther 37 = .ok (.aload_n 0, 1) := by decide +kernel
theorem dX10_isOther_38 : decode cX10_isOther 38 = .ok (.getfield 22, 3) := by decide +kernel
theorem dX10_isOther_41 : decode cX10_isOther 41 = .ok (.iload 5, 2) := by decide +kernel
theorem dX10_isOther_43 : decode cX10_isOther 43 = .ok (.iaload, 1) := by decide +kernel
theorem dX10_isOther_44 : decode cX10_isOther 44 = .ok (.iload_n 3, 1) := by decide +kernel
theorem dX10_isOther_45 : decode cX10_isOther 45 = .ok (.if_icmp .ne 7, 3) := by decide +kernel
theorem dX10_isOther_48 : decode cX10_isOther 48 = .ok (.iconst 1, 1) := by decide +kernel
theorem dX10_isOther_49 : decode cX10_isOther 49 = .ok (.goto 4, 3) := by decide +kernel
theorem dX10_isOther_52 : decode cX10_isOther 52 = .ok (.iconst 0, 1) := by decide +kernel
theorem dX10_isOther_53 : decode cX10_isOther 53 = .ok (.istore 4, 2) := by decide +kernel
theorem dX10_isOther_55 : decode cX10_isOther 55 = .ok (.iinc 5 1, 3) := by decide +kernel
theorem dX10_isOther_58 : decode cX10_isOther 58 = .ok (.goto (-52), 3) := by decide +kernel
theorem dX10_isOther_61 : decode cX10_isOther 61 = .ok (.iload 4, 2) := by decide +kernel
theorem dX10_isOther_63 : decode cX10_isOther 63 = .ok (.ireturn, 1) := by decide +kernel
theorem dX10_lieOf_0 : decode cX10_lieOf 0 = .ok (.aload_n 0, 1) := by decide +kernel
theorem dX10_lieOf_1 : decode cX10_lieOf 1 = .ok (.invokevirtual 229, 3) := by decide +kernel
theorem dX10_lieOf_4 : decode cX10_lieOf 4 = .ok (.aload_n 0, 1) := by decide +kernel
theorem dX10_lieOf_5 : decode cX10_lieOf 5 = .ok (.getfield 19, 3) := by decide +kernel
theorem dX10_lieOf_8 : decode cX10_lieOf 8 = .ok (.iload_n 1, 1) := by decide +kernel
theorem dX10_lieOf_9 : decode cX10_lieOf 9 = .ok (.iaload, 1) := by decide +kernel
theorem dX10_lieOf_10 : decode cX10_lieOf 10 = .ok (.istore_n 3, 1) := by decide +kernel
theorem dX10_lieOf_11 : decode cX10_lieOf 11 = .ok (.aload_n 0, 1) := by decide +kernel
theorem dX10_lieOf_12 : decode cX10_lieOf 12 = .ok (.getfield 22, 3) := by decide +kernel
theorem dX10_lieOf_15 : decode cX10_lieOf 15 = .ok (.iload_n 1, 1) := by decide +kernel
theorem dX10_lieOf_16 : decode cX10_lieOf 16 = .ok (.iaload, 1) := by decide +kernel
theorem dX10_lieOf_17 : decode cX10_lieOf 17 = .ok (.istore 4, 2) := by decide +kernel
theorem dX10_lieOf_19 : decode cX10_lieOf 19 = .ok (.iconst (-1), 1) := by decide +kernel
theorem dX10_lieOf_20 : decode cX10_lieOf 20 = .ok (.istore 5, 2) := by decide +kernel
theorem dX10_lieOf_22 : decode cX10_lieOf 22 = .ok (.iconst 0, 1) := by decide +kernel
theorem dX10_lieOf_23 : decode cX10_lieOf 23 = .ok (.istore 6, 2) := by decide +kernel
theorem dX10_lieOf_25 : decode cX10_lieOf 25 = .ok (.iconst 0, 1) := by decide +kernel
theorem dX10_lieOf_26 : decode cX10_lieOf 26 = .ok (.istore 7, 2) := by decide +kernel
theorem dX10_lieOf_28 : decode cX10_lieOf 28 = .ok (.iload 7, 2) := by decide +kernel
theorem dX10_lieOf_30 : decode cX10_lieOf 30 = .ok (.bipush 36, 2) := by decide +kernel
theorem dX10_lieOf_32 : decode cX10_lieOf 32 = .ok (.if_icmp .ge 117, 3) := by decide +kernel
theorem dX10_lieOf_35 : decode cX10_lieOf 35 = .ok (.aload_n 0, 1) := by decide +kernel
theorem dX10_lieOf_36 : decode cX10_lieOf 36 = .ok (.iload_n 1, 1) := by decide +kernel
theorem dX10_lieOf_37 : decode cX10_lieOf 37 = .ok (.iload 7, 2) := by decide +kernel
theorem dX10_lieOf_39 : decode cX10_lieOf 39 = .ok (.bipush 6, 2) := by decide +kernel
theorem dX10_lieOf_41 : decode cX10_lieOf 41 = .ok (.idiv, 1) := by decide +kernel
theorem dX10_lieOf_42 : decode cX10_lieOf 42 = .ok (.iload 7, 2) := by decide +kernel
theorem dX10_lieOf_44 : decode cX10_lieOf 44 = .ok (.bipush 6, 2) := by decide +kernel
theorem dX10_lieOf_46 : decode cX10_lieOf 46 = .ok (.irem, 1) := by decide +kernel
theorem dX10_lieOf_47 : decode cX10_lieOf 47 = .ok (.invokevirtual 281, 3) := by decide +kernel
theorem dX10_lieOf_50 : decode cX10_lieOf 50 = .ok (.ifCond .ne 93, 3) := by decide +kernel
theorem dX10_lieOf_53 : decode cX10_lieOf 53 = .ok (.aload_n 0, 1) := by decide +kernel
theorem dX10_lieOf_54 : decode cX10_lieOf 54 = .ok (.getfield 19, 3) := by decide +kernel
theorem dX10_lieOf_57 : decode cX10_lieOf 57 = .ok (.iload_n 1, 1) := by decide +kernel
theorem dX10_lieOf_58 : decode cX10_lieOf 58 = .ok (.iload 7, 2) := by decide +kernel
theorem dX10_lieOf_60 : decode cX10_lieOf 60 = .ok (.bipush 6, 2) := by decide +kernel
theorem dX10_lieOf_62 : decode cX10_lieOf 62 = .ok (.idiv, 1) := by decide +kernel
theorem dX10_lieOf_63 : decode cX10_lieOf 63 = .ok (.iastore, 1) := by decide +kernel
theorem dX10_lieOf_64 : decode cX10_lieOf 64 = .ok (.aload_n 0, 1) := by decide +kernel
theorem dX10_lieOf_65 : decode cX10_lieOf 65 = .ok (.getfield 22, 3) := by decide +kernel
theorem dX10_lieOf_68 : decode cX10_lieOf 68 = .ok (.iload_n 1, 1) := by decide +kernel
theorem dX10_lieOf_69 : decode cX10_lieOf 69 = .ok (.iload 7, 2) := by decide +kernel
theorem dX10_lieOf_71 : decode cX10_lieOf 71 = .ok (.bipush 6, 2) := by decide +kernel
theorem dX10_lieOf_73 : decode cX10_lieOf 73 = .ok (.irem, 1) := by decide +kernel
theorem dX10_lieOf_74 : decode cX10_lieOf 74 = .ok (.iastore, 1) := by decide +kernel
theorem dX10_lieOf_75 : decode cX10_lieOf 75 = .ok (.aload_n 0, 1) := by decide +kernel
theorem dX10_lieOf_76 : decode cX10_lieOf 76 = .ok (.invokevirtual 232, 3) := by decide +kernel
theorem dX10_lieOf_79 : decode cX10_lieOf 79 = .ok (.aload_n 0, 1) := by decide +kernel
theorem dX10_lieOf_80 : decode cX10_lieOf 80 = .ok (.iload_n 1, 1) := by decide +kernel
theorem dX10_lieOf_81 : decode cX10_lieOf 81 = .ok (.invokevirtual 253, 3) := by decide +kernel
theorem dX10_lieOf_84 : decode cX10_lieOf 84 = .ok (.istore 8, 2) := by decide +kernel
theorem dX10_lieOf_86 : decode cX10_lieOf 86 = .ok (.aload_n 0, 1) := by decide +kernel
theorem dX10_lieOf_87 : decode cX10_lieOf 87 = .ok (.getfield 55, 3) := by decide +kernel
theorem dX10_lieOf_90 : decode cX10_lieOf 90 = .ok (.iload_n 1, 1) := by decide +kernel
theorem dX10_lieOf_91 : decode cX10_lieOf 91 = .ok (.iaload, 1) := by decide +kernel
theorem dX10_lieOf_92 : decode cX10_lieOf 92 = .ok (.ifCond .le 20, 3) := by decide +kernel
theorem dX10_lieOf_95 : decode cX10_lieOf 95 = .ok (.iload 5, 2) := by decide +kernel
theorem dX10_lieOf_97 : decode cX10_lieOf 97 = .ok (.iconst (-1), 1) := by decide +kernel
theorem dX10_lieOf_98 : decode cX10_lieOf 98 = .ok (.if_icmp .eq 10, 3) := by decide +kernel
theorem dX10_lieOf_101 : decode cX10_lieOf 101 = .ok (.iload 8, 2) := by decide +kernel
theorem dX10_lieOf_103 : decode cX10_lieOf 103 = .ok (.iload 6, 2) := by decide +kernel
theorem dX10_lieOf_105 : decode cX10_lieOf 105 = .ok (.if_icmp .ge 7, 3) := by decide +kernel
theorem dX10_lieOf_108 : decode cX10_lieOf 108 = .ok (.iconst 1, 1) := by decide +kernel
theorem dX10_lieOf_109 : decode cX10_lieOf 109 = .ok (.goto 4, 3) := by decide +kernel
theorem dX10_lieOf_112 : decode cX10_lieOf 112 = .ok (.iconst 0, 1) := by decide +kernel
theorem dX10_lieOf_113 : decode cX10_lieOf 113 = .ok (.istore 9, 2) := by decide +kernel
theorem dX10_lieOf_115 : decode cX10_lieOf 115 = .ok (.iload 9, 2) := by decide +kernel
theorem dX10_lieOf_117 : decode cX10_lieOf 117 = .ok (.ifCond .eq 8, 3) := by decide +kernel
theorem dX10_lieOf_120 : decode cX10_lieOf 120 = .ok (.iload 7, 2) := by decide +kernel
theorem dX10_lieOf_122 : decode cX10_lieOf 122 = .ok (.goto 5, 3) := by decide +kernel
theorem dX10_lieOf_125 : decode cX10_lieOf 125 = .ok (.iload 5, 2) := by decide +kernel
theorem dX10_lieOf_127 : decode cX10_lieOf 127 = .ok (.istore 5, 2) := by decide +kernel
theorem dX10_lieOf_129 : decode cX10_lieOf 129 = .ok (.iload 9, 2) := by decide +kernel
theorem dX10_lieOf_131 : decode cX10_lieOf 131 = .ok (.ifCond .eq 8, 3) := by decide +kernel
theorem dX10_lieOf_134 : decode cX10_lieOf 134 = .ok (.iload 8, 2) := by decide +kernel
theorem dX10_lieOf_136 : decode cX10_lieOf 136 = .ok (.goto 5, 3) := by decide +kernel
theorem dX10_lieOf_139 : decode cX10_lieOf 139 = .ok (.iload 6, 2) := by decide +kernel
theorem dX10_lieOf_141 : decode cX10_lieOf 141 = .ok (.istore 6, 2) := by decide +kernel
theorem dX10_lieOf_143 : decode cX10_lieOf 143 = .ok (.iinc 7 1, 3) := by decide +kernel
theorem dX10_lieOf_146 : decode cX10_lieOf 146 = .ok (.goto (-118), 3) := by decide +kernel
theorem dX10_lieOf_149 : decode cX10_lieOf 149 = .ok (.aload_n 0, 1) := by decide +kernel
theorem dX10_lieOf_150 : decode cX10_lieOf 150 = .ok (.getfield 19, 3) := by decide +kernel
theorem dX10_lieOf_153 : decode cX10_lieOf 153 = .ok (.iload_n 1, 1) := by decide +kernel
theorem dX10_lieOf_154 : decode cX10_lieOf 154 = .ok (.iload_n 3, 1) := by decide +kernel
theorem dX10_lieOf_155 : decode cX10_lieOf 155 = .ok (.iastore, 1) := by decide +kernel
theorem dX10_lieOf_156 : decode cX10_lieOf 156 = .ok (.aload_n 0, 1) := by decide +kernel
theorem dX10_lieOf_157 : decode cX10_lieOf 157 = .ok (.getfield 22, 3) := by decide +kernel
theorem dX10_lieOf_160 : decode cX10_lieOf 160 = .ok (.iload_n 1, 1) := by decide +kernel
theorem dX10_lieOf_161 : decode cX10_lieOf 161 = .ok (.iload 4, 2) := by decide +kernel
theorem dX10_lieOf_163 : decode cX10_lieOf 163 = .ok (.iastore, 1) := by decide +kernel
theorem dX10_lieOf_164 : decode cX10_lieOf 164 = .ok (.iload 5, 2) := by decide +kernel
theorem dX10_lieOf_166 : decode cX10_lieOf 166 = .ok (.iconst (-1), 1) := by decide +kernel
theorem dX10_lieOf_167 : decode cX10_lieOf 167 = .ok (.if_icmp .ne 7, 3) := by decide +kernel
theorem dX10_lieOf_170 : decode cX10_lieOf 170 = .ok (.iconst (-1), 1) := by decide +kernel
theorem dX10_lieOf_171 : decode cX10_lieOf 171 = .ok (.goto 30, 3) := by decide +kernel
theorem dX10_lieOf_174 : decode cX10_lieOf 174 = .ok (.iload_n 2, 1) := by decide +kernel
theorem dX10_lieOf_175 : decode cX10_lieOf 175 = .ok (.ifCond .ne 11, 3) := by decide +kernel
theorem dX10_lieOf_178 : decode cX10_lieOf 178 = .ok (.iload 5, 2) := by decide +kernel
theorem dX10_lieOf_180 : decode cX10_lieOf 180 = .ok (.bipush 6, 2) := by decide +kernel
theorem dX10_lieOf_182 : decode cX10_lieOf 182 = .ok (.idiv, 1) := by decide +kernel
theorem dX10_lieOf_183 : decode cX10_lieOf 183 = .ok (.goto 18, 3) := by decide +kernel
theorem dX10_lieOf_186 : decode cX10_lieOf 186 = .ok (.iload_n 2, 1) := by decide +kernel
theorem dX10_lieOf_187 : decode cX10_lieOf 187 = .ok (.iconst 1, 1) := by decide +kernel
theorem dX10_lieOf_188 : decode cX10_lieOf 188 = .ok (.if_icmp .ne 11, 3) := by decide +kernel
theorem dX10_lieOf_191 : decode cX10_lieOf 191 = .ok (.iload 5, 2) := by decide +kernel
theorem dX10_lieOf_193 : decode cX10_lieOf 193 = .ok (.bipush 6, 2) := by decide +kernel
theorem dX10_lieOf_195 : decode cX10_lieOf 195 = .ok (.irem, 1) := by decide +kernel
theorem dX10_lieOf_196 : decode cX10_lieOf 196 = .ok (.goto 5, 3) := by decide +kernel
theorem dX10_lieOf_199 : decode cX10_lieOf 199 = .ok (.iload 6, 2) := by decide +kernel
theorem dX10_lieOf_201 : decode cX10_lieOf 201 = .ok (.ireturn, 1) := by decide +kernel
theorem dX10_lie_0 : decode cX10_lie 0 = .ok (.aload_n 0, 1) := by decide +kernel
theorem dX10_lie_1 : decode cX10_lie 1 = .ok (.iload_n 1, 1) := by decide +kernel
theorem dX10_lie_2 : decode cX10_lie 2 = .ok (.invokevirtual 153, 3) := by decide +kernel
theorem dX10_lie_5 : decode cX10_lie 5 = .ok (.ifCond .eq 19, 3) := by decide +kernel
theorem dX10_lie_8 : decode cX10_lie 8 = .ok (.iload_n 2, 1) := by decide +kernel
theorem dX10_lie_9 : decode cX10_lie 9 = .ok (.invokestatic 162, 3) := by decide +kernel
theorem dX10_lie_12 : decode cX10_lie 12 = .ok (.ifCond .eq 12, 3) := by decide +kernel
theorem dX10_lie_15 : decode cX10_lie 15 = .ok (.aload_n 0, 1) := by decide +kernel
theorem dX10_lie_16 : decode cX10_lie 16 = .ok (.iload_n 1, 1) := by decide +kernel
theorem dX10_lie_17 : decode cX10_lie 17 = .ok (.iload_n 2, 1) := by decide +kernel
theorem dX10_lie_18 : decode cX10_lie 18 = .ok (.invokevirtual 284, 3) := by decide +kernel
theorem dX10_lie_21 : decode cX10_lie 21 = .ok (.goto 5, 3) := by decide +kernel
theorem dX10_lie_24 : decode cX10_lie 24 = .ok (.bipush (-2), 2) := by decide +kernel
theorem dX10_lie_26 : decode cX10_lie 26 = .ok (.ireturn, 1) := by decide +kernel
theorem dX10_whenOf_0 : decode cX10_whenOf 0 = .ok (.aload_n 0, 1) := by decide +kernel
theorem dX10_whenOf_1 : decode cX10_whenOf 1 = .ok (.invokevirtual 229, 3) := by decide +kernel
theorem dX10_whenOf_4 : decode cX10_whenOf 4 = .ok (.iconst (-1), 1) := by decide +kernel
theorem dX10_whenOf_5 : decode cX10_whenOf 5 = .ok (.istore_n 3, 1) := by decide +kernel
theorem dX10_whenOf_6 : decode cX10_whenOf 6 = .ok (.iconst (-1), 1) := by decide +kernel
theorem dX10_whenOf_7 : decode cX10_whenOf 7 = .ok (.istore 4, 2) := by decide +kernel
theorem dX10_whenOf_9 : decode cX10_whenOf 9 = .ok (.iconst 0, 1) := by decide +kernel
theorem dX10_whenOf_10 : decode cX10_whenOf 10 = .ok (.istore 5, 2) := by decide +kernel
theorem dX10_whenOf_12 : decode cX10_whenOf 12 = .ok (.iload 5, 2) := by decide +kernel
theorem dX10_whenOf_14 : decode cX10_whenOf 14 = .ok (.bipush 24, 2) := by decide +kernel
theorem dX10_whenOf_16 : decode cX10_whenOf 16 = .ok (.if_icmp .ge 52, 3) := by decide +kernel
theorem dX10_whenOf_19 : decode cX10_whenOf 19 = .ok (.aload_n 0, 1) := by decide +kernel
theorem dX10_whenOf_20 : decode cX10_whenOf 20 = .ok (.iload 5, 2) := by decide +kernel
theorem dX10_whenOf_22 : decode cX10_whenOf 22 = .ok (.iload_n 1, 1) := by decide +kernel
theorem dX10_whenOf_23 : decode cX10_whenOf 23 = .ok (.invokevirtual 272, 3) := by decide +kernel
theorem dX10_whenOf_26 : decode cX10_whenOf 26 = .ok (.aload_n 0, 1) := by decide +kernel
theorem dX10_whenOf_27 : decode cX10_whenOf 27 = .ok (.invokevirtual 275, 3) := by decide +kernel
theorem dX10_whenOf_30 : decode cX10_whenOf 30 = .ok (.istore 6, 2) := by decide +kernel
theorem dX10_whenOf_32 : decode cX10_whenOf 32 = .ok (.iload 6, 2) := by decide +kernel
theorem dX10_whenOf_34 : decode cX10_whenOf 34 = .ok (.iload 4, 2) := by decide +kernel
theorem dX10_whenOf_36 : decode cX10_whenOf 36 = .ok (.if_icmp .le 8, 3) := by decide +kernel
theorem dX10_whenOf_39 : decode cX10_whenOf 39 = .ok (.iload 5, 2) := by decide +kernel
theorem dX10_whenOf_41 : decode cX10_whenOf 41 = .ok (.goto 4, 3) := by decide +kernel
theorem dX10_whenOf_44 : decode cX10_whenOf 44 = .ok (.iload_n 3, 1) := by decide +kernel
theorem dX10_whenOf_45 : decode cX10_whenOf 45 = .ok (.istore_n 3, 1) := by decide +kernel
theorem dX10_whenOf_46 : decode cX10_whenOf 46 = .ok (.iload 6, 2) := by decide +kernel
theorem dX10_whenOf_48 : decode cX10_whenOf 48 = .ok (.iload 4, 2) := by decide +kernel
theorem dX10_whenOf_50 : decode cX10_whenOf 50 = .ok (.if_icmp .le 8, 3) := by decide +kernel
theorem dX10_whenOf_53 : decode cX10_whenOf 53 = .ok (.iload 6, 2) := by decide +kernel
theorem dX10_whenOf_55 : decode cX10_whenOf 55 = .ok (.goto 5, 3) := by decide +kernel
theorem dX10_whenOf_58 : decode cX10_whenOf 58 = .ok (.iload 4, 2) := by decide +kernel
theorem dX10_whenOf_60 : decode cX10_whenOf 60 = .ok (.istore 4, 2) := by decide +kernel
theorem dX10_whenOf_62 : decode cX10_whenOf 62 = .ok (.iinc 5 1, 3) := by decide +kernel
theorem dX10_whenOf_65 : decode cX10_whenOf 65 = .ok (.goto (-53), 3) := by decide +kernel
theorem dX10_whenOf_68 : decode cX10_whenOf 68 = .ok (.iload_n 2, 1) := by decide +kernel
theorem dX10_whenOf_69 : decode cX10_whenOf 69 = .ok (.ifCond .ne 7, 3) := by decide +kernel
theorem dX10_whenOf_72 : decode cX10_whenOf 72 = .ok (.iload_n 3, 1) := by decide +kernel
theorem dX10_whenOf_73 : decode cX10_whenOf 73 = .ok (.goto 5, 3) := by decide +kernel
theorem dX10_whenOf_76 : decode cX10_whenOf 76 = .ok (.iload 4, 2) := by decide +kernel
theorem dX10_whenOf_78 : decode cX10_whenOf 78 = .ok (.ireturn, 1) := by decide +kernel
theorem dX10_when_0 : decode cX10_when 0 = .ok (.iload_n 1, 1) := by decide +kernel
theorem dX10_when_1 : decode cX10_when 1 = .ok (.invokestatic 118, 3) := by decide +kernel
theorem dX10_when_4 : decode cX10_when 4 = .ok (.ifCond .eq 19, 3) := by decide +kernel
theorem dX10_when_7 : decode cX10_when 7 = .ok (.iload_n 2, 1) := by decide +kernel
theorem dX10_when_8 : decode cX10_when 8 = .ok (.invokestatic 168, 3) := by decide +kernel
theorem dX10_when_11 : decode cX10_when 11 = .ok (.ifCond .eq 12, 3) := by decide +kernel
theorem dX10_when_14 : decode cX10_when 14 = .ok (.aload_n 0, 1) := by decide +kernel
theorem dX10_when_15 : decode cX10_when 15 = .ok (.iload_n 1, 1) := by decide +kernel
theorem dX10_when_16 : decode cX10_when 16 = .ok (.iload_n 2, 1) := by decide +kernel
theorem dX10_when_17 : decode cX10_when 17 = .ok (.invokevirtual 287, 3) := by decide +kernel
theorem dX10_when_20 : decode cX10_when 20 = .ok (.goto 5, 3) := by decide +kernel
theorem dX10_when_23 : decode cX10_when 23 = .ok (.bipush (-2), 2) := by decide +kernel
theorem dX10_when_25 : decode cX10_when 25 = .ok (.ireturn, 1) := by decide +kernel
theorem dX10_isSpared_0 : decode cX10_isSpared 0 = .ok (.aload_n 0, 1) := by decide +kernel
theorem dX10_isSpared_1 : decode cX10_isSpared 1 = .ok (.iload_n 1, 1) := by decide +kernel
theorem dX10_isSpared_2 : decode cX10_isSpared 2 = .ok (.putfield 187, 3) := by decide +kernel
theorem dX10_isSpared_5 : decode cX10_isSpared 5 = .ok (.aload_n 0, 1) := by decide +kernel
theorem dX10_isSpared_6 : decode cX10_isSpared 6 = .ok (.invokevirtual 232, 3) := by decide +kernel
theorem dX10_isSpared_9 : decode cX10_isSpared 9 = .ok (.aload_n 0, 1) := by decide +kernel
theorem dX10_isSpared_10 : decode cX10_isSpared 10 = .ok (.getfield 197, 3) := by decide +kernel
theorem dX10_isSpared_13 : decode cX10_isSpared 13 = .ok (.ifCond .ne 7, 3) := by decide +kernel
theorem dX10_isSpared_16 : decode cX10_isSpared 16 = .ok (.iconst 1, 1) := by decide +kernel
theorem dX10_isSpared_17 : decode cX10_isSpared 17 = .ok (.goto 4, 3) := by decide +kernel
theorem dX10_isSpared_20 : decode cX10_isSpared 20 = .ok (.iconst 0, 1) := by decide +kernel
theorem dX10_isSpared_21 : decode cX10_isSpared 21 = .ok (.ireturn, 1) := by decide +kernel
theorem dX10_spareBy_0 : decode cX10_spareBy 0 = .ok (.aload_n 0, 1) := by decide +kernel
theorem dX10_spareBy_1 : decode cX10_spareBy 1 = .ok (.invokevirtual 229, 3) := by decide +kernel
theorem dX10_spareBy_4 : decode cX10_spareBy 4 = .ok (.aload_n 0, 1) := by decide +kernel
theorem dX10_spareBy_5 : decode cX10_spareBy 5 = .ok (.iconst 0, 1) := by decide +kernel
theorem dX10_spareBy_6 : decode cX10_spareBy 6 = .ok (.invokevirtual 290, 3) := by decide +kernel
theorem dX10_spareBy_9 : decode cX10_spareBy 9 = .ok (.ifCond .eq 5, 3) := by decide +kernel
theorem dX10_spareBy_12 : decode cX10_spareBy 12 = .ok (.iconst 0, 1) := by decide +kernel
theorem dX10_spareBy_13 : decode cX10_spareBy 13 = .ok (.ireturn, 1) := by decide +kernel
theorem dX10_spareBy_14 : decode cX10_spareBy 14 = .ok (.iconst 0, 1) := by decide +kernel
theorem dX10_spareBy_15 : decode cX10_spareBy 15 = .ok (.istore_n 1, 1) := by decide +kernel
theorem dX10_spareBy_16 : decode cX10_spareBy 16 = .ok (.iload_n 1, 1) := by decide +kernel
theorem dX10_spareBy_17 : decode cX10_spareBy 17 = .ok (.aload_n 0, 1) := by decide +kernel
theorem dX10_spareBy_18 : decode cX10_spareBy 18 = .ok (.getfield 171, 3) := by decide +kernel
theorem dX10_spareBy_21 : decode cX10_spareBy 21 = .ok (.if_icmp .ge 28, 3) := by decide +kernel
theorem dX10_spareBy_24 : decode cX10_spareBy 24 = .ok (.aload_n 0, 1) := by decide +kernel
theorem dX10_spareBy_25 : decode cX10_spareBy 25 = .ok (.getfield 73, 3) := by decide +kernel
theorem dX10_spareBy_28 : decode cX10_spareBy 28 = .ok (.iconst 0, 1) := by decide +kernel
theorem dX10_spareBy_29 : decode cX10_spareBy 29 = .ok (.iload_n 1, 1) := by decide +kernel
theorem dX10_spareBy_30 : decode cX10_spareBy 30 = .ok (.iastore, 1) := by decide +kernel
theorem dX10_spareBy_31 : decode cX10_spareBy 31 = .ok (.aload_n 0, 1) := by decide +kernel
theorem dX10_spareBy_32 : decode cX10_spareBy 32 = .ok (.iconst 1, 1) := by decide +kernel
theorem dX10_spareBy_33 : decode cX10_spareBy 33 = .ok (.iload_n 1, 1) := by decide +kernel
theorem dX10_spareBy_34 : decode cX10_spareBy 34 = .ok (.ishl, 1) := by decide +kernel
theorem dX10_spareBy_35 : decode cX10_spareBy 35 = .ok (.invokevirtual 290, 3) := by decide +kernel
theorem dX10_spareBy_38 : decode cX10_spareBy 38 = .ok (.ifCond .eq 5, 3) := by decide +kernel
theorem dX10_spareBy_41 : decode cX10_spareBy 41 = .ok (.iconst 1, 1) := by decide +kernel
theorem dX10_spareBy_42 : decode cX10_spareBy 42 = .ok (.ireturn, 1) := by decide +kernel
theorem dX10_spareBy_43 : decode cX10_spareBy 43 = .ok (.iinc 1 1, 3) := by decide +kernel
theorem dX10_spareBy_46 : decode cX10_spareBy 46 = .ok (.goto (-30), 3) := by decide +kernel
theorem dX10_spareBy_49 : decode cX10_spareBy 49 = .ok (.iconst 0, 1) := by decide +kernel
theorem dX10_spareBy_50 : decode cX10_spareBy 50 = .ok (.istore_n 1, 1) := by decide +kernel
theorem dX10_spareBy_51 : decode cX10_spareBy 51 = .ok (.iload_n 1, 1) := by decide +kernel
theorem dX10_spareBy_52 : decode cX10_spareBy 52 = .ok (.aload_n 0, 1) := by decide +kernel
theorem dX10_spareBy_53 : decode cX10_spareBy 53 = .ok (.getfield 171, 3) := by decide +kernel
theorem dX10_spareBy_56 : decode cX10_spareBy 56 = .ok (.if_icmp .ge 57, 3) := by decide +kernel
theorem dX10_spareBy_59 : decode cX10_spareBy 59 = .ok (.iload_n 1, 1) := by decide +kernel
theorem dX10_spareBy_60 : decode cX10_spareBy 60 = .ok (.iconst 1, 1) := by decide +kernel
theorem dX10_spareBy_61 : decode cX10_spareBy 61 = .ok (.iadd, 1) := by decide +kernel
theorem dX10_spareBy_62 : decode cX10_spareBy 62 = .ok (.istore_n 2, 1) := by decide +kernel
theorem dX10_spareBy_63 : decode cX10_spareBy 63 = .ok (.iload_n 2, 1) := by decide +kernel
theorem dX10_spareBy_64 : decode cX10_spareBy 64 = .ok (.aload_n 0, 1) := by decide +kernel
theorem dX10_spareBy_65 : decode cX10_spareBy 65 = .ok (.getfield 171, 3) := by decide +kernel
theorem dX10_spareBy_68 : decode cX10_spareBy 68 = .ok (.if_icmp .ge 39, 3) := by decide +kernel
theorem dX10_spareBy_71 : decode cX10_spareBy 71 = .ok (.aload_n 0, 1) := by decide +kernel
theorem dX10_spareBy_72 : decode cX10_spareBy 72 = .ok (.getfield 73, 3) := by decide +kernel
theorem dX10_spareBy_75 : decode cX10_spareBy 75 = .ok (.iconst 0, 1) := by decide +kernel
theorem dX10_spareBy_76 : decode cX10_spareBy 76 = .ok (.iload_n 1, 1) := by decide +kernel
theorem dX10_spareBy_77 : decode cX10_spareBy 77 = .ok (.iastore, 1) := by decide +kernel
theorem dX10_spareBy_78 : decode cX10_spareBy 78 = .ok (.aload_n 0, 1) := by decide +kernel
theorem dX10_spareBy_79 : decode cX10_spareBy 79 = .ok (.getfield 73, 3) := by decide +kernel
theorem dX10_spareBy_82 : decode cX10_spareBy 82 = .ok (.iconst 1, 1) := by decide +kernel
theorem dX10_spareBy_83 : decode cX10_spareBy 83 = .ok (.iload_n 2, 1) := by decide +kernel
theorem dX10_spareBy_84 : decode cX10_spareBy 84 = .ok (.iastore, 1) := by decide +kernel
theorem dX10_spareBy_85 : decode cX10_spareBy 85 = .ok (.aload_n 0, 1) := by decide +kernel
theorem dX10_spareBy_86 : decode cX10_spareBy 86 = .ok (.iconst 1, 1) := by decide +kernel
theorem dX10_spareBy_87 : decode cX10_spareBy 87 = .ok (.iload_n 1, 1) := by decide +kernel
theorem dX10_spareBy_88 : decode cX10_spareBy 88 = .ok (.ishl, 1) := by decide +kernel
theorem dX10_spareBy_89 : decode cX10_spareBy 89 = .ok (.iconst 1, 1) := by decide +kernel
theorem dX10_spareBy_90 : decode cX10_spareBy 90 = .ok (.iload_n 2, 1) := by decide +kernel
theorem dX10_spareBy_91 : decode cX10_spareBy 91 = .ok (.ishl, 1) := by decide +kernel
theorem dX10_spareBy_92 : decode cX10_spareBy 92 = .ok (.ior, 1) := by decide +kernel
theorem dX10_spareBy_93 : decode cX10_spareBy 93 = .ok (.invokevirtual 290, 3) := by decide +kernel
theorem dX10_spareBy_96 : decode cX10_spareBy 96 = .ok (.ifCond .eq 5, 3) := by decide +kernel
theorem dX10_spareBy_99 : decode cX10_spareBy 99 = .ok (.iconst 2, 1) := by decide +kernel
theorem dX10_spareBy_100 : decode cX10_spareBy 100 = .ok (.ireturn, 1) := by decide +kernel
theorem dX10_spareBy_101 : decode cX10_spareBy 101 = .ok (.iinc 2 1, 3) := by decide +kernel
theorem dX10_spareBy_104 : decode cX10_spareBy 104 = .ok (.goto (-41), 3) := by decide +kernel
theorem dX10_spareBy_107 : decode cX10_spareBy 107 = .ok (.iinc 1 1, 3) := by decide +kernel
theorem dX10_spareBy_110 : decode cX10_spareBy 110 = .ok (.goto (-59), 3) := by decide +kernel
theorem dX10_spareBy_113 : decode cX10_spareBy 113 = .ok (.iconst (-1), 1) := by decide +kernel
theorem dX10_spareBy_114 : decode cX10_spareBy 114 = .ok (.ireturn, 1) := by decide +kernel
theorem dX10_ofRow_0 : decode cX10_ofRow 0 = .ok (.iload_n 2, 1) := by decide +kernel
theorem dX10_ofRow_1 : decode cX10_ofRow 1 = .ok (.iconst (-1), 1) := by decide +kernel
theorem dX10_ofRow_2 : decode cX10_ofRow 2 = .ok (.if_icmp .ne 7, 3) := by decide +kernel
theorem dX10_ofRow_5 : decode cX10_ofRow 5 = .ok (.iload_n 1, 1) := by decide +kernel
theorem dX10_ofRow_6 : decode cX10_ofRow 6 = .ok (.goto 18, 3) := by decide +kernel
theorem dX10_ofRow_9 : decode cX10_ofRow 9 = .ok (.iload_n 2, 1) := by decide +kernel
theorem dX10_ofRow_10 : decode cX10_ofRow 10 = .ok (.iload_n 1, 1) := by decide +kernel
theorem dX10_ofRow_11 : decode cX10_ofRow 11 = .ok (.if_icmp .ge 12, 3) := by decide +kernel
theorem dX10_ofRow_14 : decode cX10_ofRow 14 = .ok (.aload_n 0, 1) := by decide +kernel
theorem dX10_ofRow_15 : decode cX10_ofRow 15 = .ok (.getfield 73, 3) := by decide +kernel
theorem dX10_ofRow_18 : decode cX10_ofRow 18 = .ok (.iload_n 2, 1) := by decide +kernel
theorem dX10_ofRow_19 : decode cX10_ofRow 19 = .ok (.iaload, 1) := by decide +kernel
theorem dX10_ofRow_20 : decode cX10_ofRow 20 = .ok (.goto 4, 3) := by decide +kernel
theorem dX10_ofRow_23 : decode cX10_ofRow 23 = .ok (.iconst (-1), 1) := by decide +kernel
theorem dX10_ofRow_24 : decode cX10_ofRow 24 = .ok (.ireturn, 1) := by decide +kernel
theorem dX10_spare_0 : decode cX10_spare 0 = .ok (.iload_n 1, 1) := by decide +kernel
theorem dX10_spare_1 : decode cX10_spare 1 = .ok (.iconst (-1), 1) := by decide +kernel
theorem dX10_spare_2 : decode cX10_spare 2 = .ok (.iconst 1, 1) := by decide +kernel
theorem dX10_spare_3 : decode cX10_spare 3 = .ok (.invokestatic 106, 3) := by decide +kernel
theorem dX10_spare_6 : decode cX10_spare 6 = .ok (.ifCond .eq 15, 3) := by decide +kernel
theorem dX10_spare_9 : decode cX10_spare 9 = .ok (.aload_n 0, 1) := by decide +kernel
theorem dX10_spare_10 : decode cX10_spare 10 = .ok (.aload_n 0, 1) := by decide +kernel
theorem dX10_spare_11 : decode cX10_spare 11 = .ok (.invokevirtual 293, 3) := by decide +kernel
theorem dX10_spare_14 : decode cX10_spare 14 = .ok (.iload_n 1, 1) := by decide +kernel
theorem dX10_spare_15 : decode cX10_spare 15 = .ok (.invokevirtual 296, 3) := by decide +kernel
theorem dX10_spare_18 : decode cX10_spare 18 = .ok (.goto 5, 3) := by decide +kernel
theorem dX10_spare_21 : decode cX10_spare 21 = .ok (.bipush (-2), 2) := by decide +kernel
theorem dX10_spare_23 : decode cX10_spare 23 = .ok (.ireturn, 1) := by decide +kernel
theorem dX10_seen_0 : decode cX10_seen 0 = .ok (.iload_n 1, 1) := by decide +kernel
theorem dX10_seen_1 : decode cX10_seen 1 = .ok (.invokestatic 127, 3) := by decide +kernel
theorem dX10_seen_4 : decode cX10_seen 4 = .ok (.ifCond .eq 17, 3) := by decide +kernel
theorem dX10_seen_7 : decode cX10_seen 7 = .ok (.iload_n 2, 1) := by decide +kernel
theorem dX10_seen_8 : decode cX10_seen 8 = .ok (.invokestatic 124, 3) := by decide +kernel
theorem dX10_seen_11 : decode cX10_seen 11 = .ok (.ifCond .eq 10, 3) := by decide +kernel
theorem dX10_seen_14 : decode cX10_seen 14 = .ok (.iload_n 3, 1) := by decide +kernel
theorem dX10_seen_15 : decode cX10_seen 15 = .ok (.invokestatic 168, 3) := by decide +kernel
theorem dX10_seen_18 : decode cX10_seen 18 = .ok (.ifCond .ne 6, 3) := by decide +kernel
theorem dX10_seen_21 : decode cX10_seen 21 = .ok (.bipush (-2), 2) := by decide +kernel
theorem dX10_seen_23 : decode cX10_seen 23 = .ok (.ireturn, 1) := by decide +kernel
theorem dX10_seen_24 : decode cX10_seen 24 = .ok (.aload_n 0, 1) := by decide +kernel
theorem dX10_seen_25 : decode cX10_seen 25 = .ok (.getfield 299, 3) := by decide +kernel
theorem dX10_seen_28 : decode cX10_seen 28 = .ok (.bipush 8, 2) := by decide +kernel
theorem dX10_seen_30 : decode cX10_seen 30 = .ok (.if_icmp .ne 6, 3) := by decide +kernel
theorem dX10_seen_33 : decode cX10_seen 33 = .ok (.bipush (-4), 2) := by decide +kernel
theorem dX10_seen_35 : decode cX10_seen 35 = .ok (.ireturn, 1) := by decide +kernel
theorem dX10_seen_36 : decode cX10_seen 36 = .ok (.aload_n 0, 1) := by decide +kernel
theorem dX10_seen_37 : decode cX10_seen 37 = .ok (.getfield 76, 3) := by decide +kernel
theorem dX10_seen_40 : decode cX10_seen 40 = .ok (.aload_n 0, 1) := by decide +kernel
theorem dX10_seen_41 : decode cX10_seen 41 = .ok (.getfield 299, 3) := by decide +kernel
theorem dX10_seen_44 : decode cX10_seen 44 = .ok (.iload_n 1, 1) := by decide +kernel
theorem dX10_seen_45 : decode cX10_seen 45 = .ok (.iastore, 1) := by decide +kernel
theorem dX10_seen_46 : decode cX10_seen 46 = .ok (.aload_n 0, 1) := by decide +kernel
theorem dX10_seen_47 : decode cX10_seen 47 = .ok (.getfield 79, 3) := by decide +kernel
theorem dX10_seen_50 : decode cX10_seen 50 = .ok (.aload_n 0, 1) := by decide +kernel
theorem dX10_seen_51 : decode cX10_seen 51 = .ok (.getfield 299, 3) := by decide +kernel
theorem dX10_seen_54 : decode cX10_seen 54 = .ok (.iload_n 2, 1) := by decide +kernel
theorem dX10_seen_55 : decode cX10_seen 55 = .ok (.iastore, 1) := by decide +kernel
theorem dX10_seen_56 : decode cX10_seen 56 = .ok (.aload_n 0, 1) := by decide +kernel
theorem dX10_seen_57 : decode cX10_seen 57 = .ok (.getfield 82, 3) := by decide +kernel
theorem dX10_seen_60 : decode cX10_seen 60 = .ok (.aload_n 0, 1) := by decide +kernel
theorem dX10_seen_61 : decode cX10_seen 61 = .ok (.getfield 299, 3) := by decide +kernel
theorem dX10_seen_64 : decode cX10_seen 64 = .ok (.iload_n 3, 1) := by decide +kernel
theorem dX10_seen_65 : decode cX10_seen 65 = .ok (.iastore, 1) := by decide +kernel
theorem dX10_seen_66 : decode cX10_seen 66 = .ok (.aload_n 0, 1) := by decide +kernel
theorem dX10_seen_67 : decode cX10_seen 67 = .ok (.dup, 1) := by decide +kernel
theorem dX10_seen_68 : decode cX10_seen 68 = .ok (.getfield 299, 3) := by decide +kernel
theorem dX10_seen_71 : decode cX10_seen 71 = .ok (.iconst 1, 1) := by decide +kernel
theorem dX10_seen_72 : decode cX10_seen 72 = .ok (.iadd, 1) := by decide +kernel
theorem dX10_seen_73 : decode cX10_seen 73 = .ok (.putfield 299, 3) := by decide +kernel
theorem dX10_seen_76 : decode cX10_seen 76 = .ok (.aload_n 0, 1) := by decide +kernel
theorem dX10_seen_77 : decode cX10_seen 77 = .ok (.getfield 299, 3) := by decide +kernel
theorem dX10_seen_80 : decode cX10_seen 80 = .ok (.ireturn, 1) := by decide +kernel
theorem dX10_forget_0 : decode cX10_forget 0 = .ok (.aload_n 0, 1) := by decide +kernel
theorem dX10_forget_1 : decode cX10_forget 1 = .ok (.getfield 299, 3) := by decide +kernel
theorem dX10_forget_4 : decode cX10_forget 4 = .ok (.istore_n 1, 1) := by decide +kernel
theorem dX10_forget_5 : decode cX10_forget 5 = .ok (.aload_n 0, 1) := by decide +kernel
theorem dX10_forget_6 : decode cX10_forget 6 = .ok (.iconst 0, 1) := by decide +kernel
theorem dX10_forget_7 : decode cX10_forget 7 = .ok (.putfield 299, 3) := by decide +kernel
theorem dX10_forget_10 : decode cX10_forget 10 = .ok (.iload_n 1, 1) := by decide +kernel
theorem dX10_forget_11 : decode cX10_forget 11 = .ok (.ireturn, 1) := by decide +kernel
theorem dX10_isSeen_0 : decode cX10_isSeen 0 = .ok (.aload_n 0, 1) := by decide +kernel
theorem dX10_isSeen_1 : decode cX10_isSeen 1 = .ok (.invokevirtual 232, 3) := by decide +kernel
theorem dX10_isSeen_4 : decode cX10_isSeen 4 = .ok (.iconst 1, 1) := by decide +kernel
theorem dX10_isSeen_5 : decode cX10_isSeen 5 = .ok (.istore_n 1, 1) := by decide +kernel
theorem dX10_isSeen_6 : decode cX10_isSeen 6 = .ok (.iconst 0, 1) := by decide +kernel
theorem dX10_isSeen_7 : decode cX10_isSeen 7 = .ok (.istore_n 2, 1) := by decide +kernel
theorem dX10_isSeen_8 : decode cX10_isSeen 8 = .ok (.iload_n 2, 1) := by decide +kernel
theorem dX10_isSeen_9 : decode cX10_isSeen 9 = .ok (.aload_n 0, 1) := by decide +kernel
theorem dX10_isSeen_10 : decode cX10_isSeen 10 = .ok (.getfield 299, 3) := by decide +kernel
theorem dX10_isSeen_13 : decode cX10_isSeen 13 = .ok (.if_icmp .ge 70, 3) := by decide +kernel
theorem dX10_isSeen_16 : decode cX10_isSeen 16 = .ok (.iload_n 1, 1) := by decide +kernel
theorem dX10_isSeen_17 : decode cX10_isSeen 17 = .ok (.ifCond .eq 66, 3) := by decide +kernel
theorem dX10_isSeen_20 : decode cX10_isSeen 20 = .ok (.aload_n 0, 1) := by decide +kernel
theorem dX10_isSeen_21 : decode cX10_isSeen 21 = .ok (.getfield 79, 3) := by decide +kernel
theorem dX10_isSeen_24 : decode cX10_isSeen 24 = .ok (.iload_n 2, 1) := by decide +kernel
theorem dX10_isSeen_25 : decode cX10_isSeen 25 = .ok (.iaload, 1) := by decide +kernel
theorem dX10_isSeen_26 : decode cX10_isSeen 26 = .ok (.aload_n 0, 1) := by decide +kernel
theorem dX10_isSeen_27 : decode cX10_isSeen 27 = .ok (.getfield 130, 3) := by decide +kernel
theorem dX10_isSeen_30 : decode cX10_isSeen 30 = .ok (.if_icmp .ge 45, 3) := by decide +kernel
theorem dX10_isSeen_33 : decode cX10_isSeen 33 = .ok (.aload_n 0, 1) := by decide +kernel
theorem dX10_isSeen_34 : decode cX10_isSeen 34 = .ok (.getfield 67, 3) := by decide +kernel
theorem dX10_isSeen_37 : decode cX10_isSeen 37 = .ok (.aload_n 0, 1) := by decide +kernel
theorem dX10_isSeen_38 : decode cX10_isSeen 38 = .ok (.getfield 76, 3) := by decide +kernel
theorem dX10_isSeen_41 : decode cX10_isSeen 41 = .ok (.iload_n 2, 1) := by decide +kernel
theorem dX10_isSeen_42 : decode cX10_isSeen 42 = .ok (.iaload, 1) := by decide +kernel
theorem dX10_isSeen_43 : decode cX10_isSeen 43 = .ok (.iaload, 1) := by decide +kernel
theorem dX10_isSeen_44 : decode cX10_isSeen 44 = .ok (.aload_n 0, 1) := by decide +kernel
theorem dX10_isSeen_45 : decode cX10_isSeen 45 = .ok (.getfield 79, 3) := by decide +kernel
theorem dX10_isSeen_48 : decode cX10_isSeen 48 = .ok (.iload_n 2, 1) := by decide +kernel
theorem dX10_isSeen_49 : decode cX10_isSeen 49 = .ok (.iaload, 1) := by decide +kernel
theorem dX10_isSeen_50 : decode cX10_isSeen 50 = .ok (.invokestatic 209, 3) := by decide +kernel
theorem dX10_isSeen_53 : decode cX10_isSeen 53 = .ok (.aload_n 0, 1) := by decide +kernel
theorem dX10_isSeen_54 : decode cX10_isSeen 54 = .ok (.getfield 82, 3) := by decide +kernel
theorem dX10_isSeen_57 : decode cX10_isSeen 57 = .ok (.iload_n 2, 1) := by decide +kernel
theorem dX10_isSeen_58 : decode cX10_isSeen 58 = .ok (.iaload, 1) := by decide +kernel
theorem dX10_isSeen_59 : decode cX10_isSeen 59 = .ok (.iconst 1, 1) := by decide +kernel
theorem dX10_isSeen_60 : decode cX10_isSeen 60 = .ok (.if_icmp .ne 7, 3) := by decide +kernel
theorem dX10_isSeen_63 : decode cX10_isSeen 63 = .ok (.iconst 1, 1) := by decide +kernel
theorem dX10_isSeen_64 : decode cX10_isSeen 64 = .ok (.goto 4, 3) := by decide +kernel
theorem dX10_isSeen_67 : decode cX10_isSeen 67 = .ok (.iconst 0, 1) := by decide +kernel
theorem dX10_isSeen_68 : decode cX10_isSeen 68 = .ok (.if_icmp .ne 7, 3) := by decide +kernel
theorem dX10_isSeen_71 : decode cX10_isSeen 71 = .ok (.iconst 1, 1) := by decide +kernel
theorem dX10_isSeen_72 : decode cX10_isSeen 72 = .ok (.goto 4, 3) := by decide +kernel
theorem dX10_isSeen_75 : decode cX10_isSeen 75 = .ok (.iconst 0, 1) := by decide +kernel
theorem dX10_isSeen_76 : decode cX10_isSeen 76 = .ok (.istore_n 1, 1) := by decide +kernel
theorem dX10_isSeen_77 : decode cX10_isSeen 77 = .ok (.iinc 2 1, 3) := by decide +kernel
theorem dX10_isSeen_80 : decode cX10_isSeen 80 = .ok (.goto (-72), 3) := by decide +kernel
theorem dX10_isSeen_83 : decode cX10_isSeen 83 = .ok (.iload_n 1, 1) := by decide +kernel
theorem dX10_isSeen_84 : decode cX10_isSeen 84 = .ok (.ireturn, 1) := by decide +kernel
theorem dX10_neverNow_0 : decode cX10_neverNow 0 = .ok (.aload_n 0, 1) := by decide +kernel
theorem dX10_neverNow_1 : decode cX10_neverNow 1 = .ok (.invokevirtual 229, 3) := by decide +kernel
theorem dX10_neverNow_4 : decode cX10_neverNow 4 = .ok (.iconst 0, 1) := by decide +kernel
theorem dX10_neverNow_5 : decode cX10_neverNow 5 = .ok (.istore_n 1, 1) := by decide +kernel
theorem dX10_neverNow_6 : decode cX10_neverNow 6 = .ok (.iconst 0, 1) := by decide +kernel
theorem dX10_neverNow_7 : decode cX10_neverNow 7 = .ok (.istore_n 2, 1) := by decide +kernel
theorem dX10_neverNow_8 : decode cX10_neverNow 8 = .ok (.iload_n 2, 1) := by decide +kernel
theorem dX10_neverNow_9 : decode cX10_neverNow 9 = .ok (.aload_n 0, 1) := by decide +kernel
theorem dX10_neverNow_10 : decode cX10_neverNow 10 = .ok (.getfield 171, 3) := by decide +kernel
theorem dX10_neverNow_13 : decode cX10_neverNow 13 = .ok (.if_icmp .ge 33, 3) := by decide +kernel
theorem dX10_neverNow_16 : decode cX10_neverNow 16 = .ok (.aload_n 0, 1) := by decide +kernel
theorem dX10_neverNow_17 : decode cX10_neverNow 17 = .ok (.iconst 1, 1) := by decide +kernel
theorem dX10_neverNow_18 : decode cX10_neverNow 18 = .ok (.iload_n 2, 1) := by decide +kernel
theorem dX10_neverNow_19 : decode cX10_neverNow 19 = .ok (.ishl, 1) := by decide +kernel
theorem dX10_neverNow_20 : decode cX10_neverNow 20 = .ok (.putfield 187, 3) := by decide +kernel
theorem dX10_neverNow_23 : decode cX10_neverNow 23 = .ok (.iload_n 1, 1) := by decide +kernel
theorem dX10_neverNow_24 : decode cX10_neverNow 24 = .ok (.aload_n 0, 1) := by decide +kernel
theorem dX10_neverNow_25 : decode cX10_neverNow 25 = .ok (.invokevirtual 302, 3) := by decide +kernel
theorem dX10_neverNow_28 : decode cX10_neverNow 28 = .ok (.ifCond .eq 9, 3) := by decide +kernel
theorem dX10_neverNow_31 : decode cX10_neverNow 31 = .ok (.iconst 1, 1) := by decide +kernel
theorem dX10_neverNow_32 : decode cX10_neverNow 32 = .ok (.iload_n 2, 1) := by decide +kernel
theorem dX10_neverNow_33 : decode cX10_neverNow 33 = .ok (.ishl, 1) := by decide +kernel
theorem dX10_neverNow_34 : decode cX10_neverNow 34 = .ok (.goto 4, 3) := by decide +kernel
theorem dX10_neverNow_37 : decode cX10_neverNow 37 = .ok (.iconst 0, 1) := by decide +kernel
theorem dX10_neverNow_38 : decode cX10_neverNow 38 = .ok (.ior, 1) := by decide +kernel
theorem dX10_neverNow_39 : decode cX10_neverNow 39 = .ok (.istore_n 1, 1) := by decide +kernel
theorem dX10_neverNow_40 : decode cX10_neverNow 40 = .ok (.iinc 2 1, 3) := by decide +kernel
theorem dX10_neverNow_43 : decode cX10_neverNow 43 = .ok (.goto (-35), 3) := by decide +kernel
theorem dX10_neverNow_46 : decode cX10_neverNow 46 = .ok (.iload_n 1, 1) := by decide +kernel
theorem dX10_neverNow_47 : decode cX10_neverNow 47 = .ok (.ireturn, 1) := by decide +kernel
theorem dX10_never_0 : decode cX10_never 0 = .ok (.aload_n 0, 1) := by decide +kernel
theorem dX10_never_1 : decode cX10_never 1 = .ok (.invokevirtual 306, 3) := by decide +kernel
theorem dX10_never_4 : decode cX10_never 4 = .ok (.ireturn, 1) := by decide +kernel
theorem dX10_sortsBy_0 : decode cX10_sortsBy 0 = .ok (.aload_n 0, 1) := by decide +kernel
theorem dX10_sortsBy_1 : decode cX10_sortsBy 1 = .ok (.invokevirtual 229, 3) := by decide +kernel
theorem dX10_sortsBy_4 : decode cX10_sortsBy 4 = .ok (.aload_n 0, 1) := by decide +kernel
theorem dX10_sortsBy_5 : decode cX10_sortsBy 5 = .ok (.getfield 16, 3) := by decide +kernel
theorem dX10_sortsBy_8 : decode cX10_sortsBy 8 = .ok (.iload_n 1, 1) := by decide +kernel
theorem dX10_sortsBy_9 : decode cX10_sortsBy 9 = .ok (.iaload, 1) := by decide +kernel
theorem dX10_sortsBy_10 : decode cX10_sortsBy 10 = .ok (.istore_n 2, 1) := by decide +kernel
theorem dX10_sortsBy_11 : decode cX10_sortsBy 11 = .ok (.iconst 0, 1) := by decide +kernel
theorem dX10_sortsBy_12 : decode cX10_sortsBy 12 = .ok (.istore_n 3, 1) := by decide +kernel
theorem dX10_sortsBy_13 : decode cX10_sortsBy 13 = .ok (.iconst 0, 1) := by decide +kernel
theorem dX10_sortsBy_14 : decode cX10_sortsBy 14 = .ok (.istore 4, 2) := by decide +kernel
theorem dX10_sortsBy_16 : decode cX10_sortsBy 16 = .ok (.iload 4, 2) := by decide +kernel
theorem dX10_sortsBy_18 : decode cX10_sortsBy 18 = .ok (.iconst 3, 1) := by decide +kernel
theorem dX10_sortsBy_19 : decode cX10_sortsBy 19 = .ok (.if_icmp .ge 35, 3) := by decide +kernel
theorem dX10_sortsBy_22 : decode cX10_sortsBy 22 = .ok (.aload_n 0, 1) := by decide +kernel
theorem dX10_sortsBy_23 : decode cX10_sortsBy 23 = .ok (.getfield 16, 3) := by decide +kernel
theorem dX10_sortsBy_26 : decode cX10_sortsBy 26 = .ok (.iload_n 1, 1) := by decide +kernel
theorem dX10_sortsBy_27 : decode cX10_sortsBy 27 = .ok (.iload 4, 2) := by decide +kernel
theorem dX10_sortsBy_29 : decode cX10_sortsBy 29 = .ok (.iastore, 1) := by decide +kernel
theorem dX10_sortsBy_30 : decode cX10_sortsBy 30 = .ok (.iload_n 3, 1) := by decide +kernel
theorem dX10_sortsBy_31 : decode cX10_sortsBy 31 = .ok (.aload_n 0, 1) := by decide +kernel
theorem dX10_sortsBy_32 : decode cX10_sortsBy 32 = .ok (.invokevirtual 302, 3) := by decide +kernel
theorem dX10_sortsBy_35 : decode cX10_sortsBy 35 = .ok (.ifCond .eq 10, 3) := by decide +kernel
theorem dX10_sortsBy_38 : decode cX10_sortsBy 38 = .ok (.iconst 1, 1) := by decide +kernel
theorem dX10_sortsBy_39 : decode cX10_sortsBy 39 = .ok (.iload 4, 2) := by decide +kernel
theorem dX10_sortsBy_41 : decode cX10_sortsBy 41 = .ok (.ishl, 1) := by decide +kernel
theorem dX10_sortsBy_42 : decode cX10_sortsBy 42 = .ok (.goto 4, 3) := by decide +kernel
theorem dX10_sortsBy_45 : decode cX10_sortsBy 45 = .ok (.iconst 0, 1) := by decide +kernel
theorem dX10_sortsBy_46 : decode cX10_sortsBy 46 = .ok (.ior, 1) := by decide +kernel
theorem dX10_sortsBy_47 : decode cX10_sortsBy 47 = .ok (.istore_n 3, 1) := by decide +kernel
theorem dX10_sortsBy_48 : decode cX10_sortsBy 48 = .ok (.iinc 4 1, 3) := by decide +kernel
theorem dX10_sortsBy_51 : decode cX10_sortsBy 51 = .ok (.goto (-35), 3) := by decide +kernel
theorem dX10_sortsBy_54 : decode cX10_sortsBy 54 = .ok (.aload_n 0, 1) := by decide +kernel
theorem dX10_sortsBy_55 : decode cX10_sortsBy 55 = .ok (.getfield 16, 3) := by decide +kernel
theorem dX10_sortsBy_58 : decode cX10_sortsBy 58 = .ok (.iload_n 1, 1) := by decide +kernel
theorem dX10_sortsBy_59 : decode cX10_sortsBy 59 = .ok (.iload_n 2, 1) := by decide +kernel
theorem dX10_sortsBy_60 : decode cX10_sortsBy 60 = .ok (.iastore, 1) := by decide +kernel
theorem dX10_sortsBy_61 : decode cX10_sortsBy 61 = .ok (.iload_n 3, 1) := by decide +kernel
theorem dX10_sortsBy_62 : decode cX10_sortsBy 62 = .ok (.ireturn, 1) := by decide +kernel
theorem dX10_farsBy_0 : decode cX10_farsBy 0 = .ok (.aload_n 0, 1) := by decide +kernel
theorem dX10_farsBy_1 : decode cX10_farsBy 1 = .ok (.invokevirtual 229, 3) := by decide +kernel
theorem dX10_farsBy_4 : decode cX10_farsBy 4 = .ok (.aload_n 0, 1) := by decide +kernel
theorem dX10_farsBy_5 : decode cX10_farsBy 5 = .ok (.getfield 25, 3) := by decide +kernel
theorem dX10_farsBy_8 : decode cX10_farsBy 8 = .ok (.iload_n 1, 1) := by decide +kernel
theorem dX10_farsBy_9 : decode cX10_farsBy 9 = .ok (.iaload, 1) := by decide +kernel
theorem dX10_farsBy_10 : decode cX10_farsBy 10 = .ok (.istore_n 2, 1) := by decide +kernel
theorem dX10_farsBy_11 : decode cX10_farsBy 11 = .ok (.iconst 0, 1) := by decide +kernel
theorem dX10_farsBy_12 : decode cX10_farsBy 12 = .ok (.istore_n 3, 1) := by decide +kernel
theorem dX10_farsBy_13 : decode cX10_farsBy 13 = .ok (.iconst 1, 1) := by decide +kernel
theorem dX10_farsBy_14 : decode cX10_farsBy 14 = .ok (.istore 4, 2) := by decide +kernel
theorem dX10_farsBy_16 : decode cX10_farsBy 16 = .ok (.iload 4, 2) := by decide +kernel
theorem dX10_farsBy_18 : decode cX10_farsBy 18 = .ok (.bipush 10, 2) := by decide +kernel
theorem dX10_farsBy_20 : decode cX10_farsBy 20 = .ok (.if_icmp .ge 71, 3) := by decide +kernel
theorem dX10_farsBy_23 : decode cX10_farsBy 23 = .ok (.aload_n 0, 1) := by decide +kernel
theorem dX10_farsBy_24 : decode cX10_farsBy 24 = .ok (.getfield 25, 3) := by decide +kernel
theorem dX10_farsBy_27 : decode cX10_farsBy 27 = .ok (.iload_n 1, 1) := by decide +kernel
theorem dX10_farsBy_28 : decode cX10_farsBy 28 = .ok (.iload 4, 2) := by decide +kernel
theorem dX10_farsBy_30 : decode cX10_farsBy 30 = .ok (.iastore, 1) := by decide +kernel
theorem dX10_farsBy_31 : decode cX10_farsBy 31 = .ok (.iload_n 3, 1) := by decide +kernel
theorem dX10_farsBy_32 : decode cX10_farsBy 32 = .ok (.aload_n 0, 1) := by decide +kernel
theorem dX10_farsBy_33 : decode cX10_farsBy 33 = .ok (.invokevirtual 302, 3) := by decide +kernel
theorem dX10_farsBy_36 : decode cX10_farsBy 36 = .ok (.ifCond .eq 10, 3) := by decide +kernel
theorem dX10_farsBy_39 : decode cX10_farsBy 39 = .ok (.iconst 1, 1) := by decide +kernel
theorem dX10_farsBy_40 : decode cX10_farsBy 40 = .ok (.iload 4, 2) := by decide +kernel
theorem dX10_farsBy_42 : decode cX10_farsBy 42 = .ok (.ishl, 1) := by decide +kernel
theorem dX10_farsBy_43 : decode cX10_farsBy 43 = .ok (.goto 4, 3) := by decide +kernel
theorem dX10_farsBy_46 : decode cX10_farsBy 46 = .ok (.iconst 0, 1) := by decide +kernel
theorem dX10_farsBy_47 : decode cX10_farsBy 47 = .ok (.ior, 1) := by decide +kernel
theorem dX10_farsBy_48 : decode cX10_farsBy 48 = .ok (.istore_n 3, 1) := by decide +kernel
theorem dX10_farsBy_49 : decode cX10_farsBy 49 = .ok (.iconst 0, 1) := by decide +kernel
theorem dX10_farsBy_50 : decode cX10_farsBy 50 = .ok (.istore 5, 2) := by decide +kernel
theorem dX10_farsBy_52 : decode cX10_farsBy 52 = .ok (.iload 5, 2) := by decide +kernel
theorem dX10_farsBy_54 : decode cX10_farsBy 54 = .ok (.bipush 24, 2) := by decide +kernel
theorem dX10_farsBy_56 : decode cX10_farsBy 56 = .ok (.if_icmp .ge 29, 3) := by decide +kernel
theorem dX10_farsBy_59 : decode cX10_farsBy 59 = .ok (.aload_n 0, 1) := by decide +kernel
theorem dX10_farsBy_60 : decode cX10_farsBy 60 = .ok (.getfield 85, 3) := by decide +kernel
theorem dX10_farsBy_63 : decode cX10_farsBy 63 = .ok (.bipush 24, 2) := by decide +kernel
theorem dX10_farsBy_65 : decode cX10_farsBy 65 = .ok (.iload 4, 2) := by decide +kernel
theorem dX10_farsBy_67 : decode cX10_farsBy 67 = .ok (.imul, 1) := by decide +kernel
theorem dX10_farsBy_68 : decode cX10_farsBy 68 = .ok (.iload 5, 2) := by decide +kernel
theorem dX10_farsBy_70 : decode cX10_farsBy 70 = .ok (.iadd, 1) := by decide +kernel
theorem dX10_farsBy_71 : decode cX10_farsBy 71 = .ok (.aload_n 0, 1) := by decide +kernel
theorem dX10_farsBy_72 : decode cX10_farsBy 72 = .ok (.getfield 67, 3) := by decide +kernel
theorem dX10_farsBy_75 : decode cX10_farsBy 75 = .ok (.iload 5, 2) := by decide +kernel
theorem dX10_farsBy_77 : decode cX10_farsBy 77 = .ok (.iaload, 1) := by decide +kernel
theorem dX10_farsBy_78 : decode cX10_farsBy 78 = .ok (.iastore, 1) := by decide +kernel
theorem dX10_farsBy_79 : decode cX10_farsBy 79 = .ok (.iinc 5 1, 3) := by decide +kernel
theorem dX10_farsBy_82 : decode cX10_farsBy 82 = .ok (.goto (-30), 3) := by decide +kernel
theorem dX10_farsBy_85 : decode cX10_farsBy 85 = .ok (.iinc 4 1, 3) := by decide +kernel
theorem dX10_farsBy_88 : decode cX10_farsBy 88 = .ok (.goto (-72), 3) := by decide +kernel
theorem dX10_farsBy_91 : decode cX10_farsBy 91 = .ok (.aload_n 0, 1) := by decide +kernel
theorem dX10_farsBy_92 : decode cX10_farsBy 92 = .ok (.getfield 25, 3) := by decide +kernel
theorem dX10_farsBy_95 : decode cX10_farsBy 95 = .ok (.iload_n 1, 1) := by decide +kernel
theorem dX10_farsBy_96 : decode cX10_farsBy 96 = .ok (.iload_n 2, 1) := by decide +kernel
theorem dX10_farsBy_97 : decode cX10_farsBy 97 = .ok (.iastore, 1) := by decide +kernel
theorem dX10_farsBy_98 : decode cX10_farsBy 98 = .ok (.iload_n 3, 1) := by decide +kernel
theorem dX10_farsBy_99 : decode cX10_farsBy 99 = .ok (.ireturn, 1) := by decide +kernel
theorem dX10_was_0 : decode cX10_was 0 = .ok (.aload_n 0, 1) := by decide +kernel
theorem dX10_was_1 : decode cX10_was 1 = .ok (.iload_n 1, 1) := by decide +kernel
theorem dX10_was_2 : decode cX10_was 2 = .ok (.invokevirtual 153, 3) := by decide +kernel
theorem dX10_was_5 : decode cX10_was 5 = .ok (.ifCond .eq 30, 3) := by decide +kernel
theorem dX10_was_8 : decode cX10_was 8 = .ok (.iload_n 2, 1) := by decide +kernel
theorem dX10_was_9 : decode cX10_was 9 = .ok (.invokestatic 168, 3) := by decide +kernel
theorem dX10_was_12 : decode cX10_was 12 = .ok (.ifCond .eq 23, 3) := by decide +kernel
theorem dX10_was_15 : decode cX10_was 15 = .ok (.iload_n 2, 1) := by decide +kernel
theorem dX10_was_16 : decode cX10_was 16 = .ok (.ifCond .ne 11, 3) := by decide +kernel
theorem dX10_was_19 : decode cX10_was 19 = .ok (.aload_n 0, 1) := by decide +kernel
theorem dX10_was_20 : decode cX10_was 20 = .ok (.iload_n 1, 1) := by decide +kernel
theorem dX10_was_21 : decode cX10_was 21 = .ok (.invokevirtual 309, 3) := by decide +kernel
theorem dX10_was_24 : decode cX10_was 24 = .ok (.goto 13, 3) := by decide +kernel
theorem dX10_was_27 : decode cX10_was 27 = .ok (.aload_n 0, 1) := by decide +kernel
theorem dX10_was_28 : decode cX10_was 28 = .ok (.iload_n 1, 1) := by decide +kernel
theorem dX10_was_29 : decode cX10_was 29 = .ok (.invokevirtual 312, 3) := by decide +kernel
theorem dX10_was_32 : decode cX10_was 32 = .ok (.goto 5, 3) := by decide +kernel
theorem dX10_was_35 : decode cX10_was 35 = .ok (.bipush (-2), 2) := by decide +kernel
theorem dX10_was_37 : decode cX10_was 37 = .ok (.ireturn, 1) := by decide +kernel
theorem dX10_askOf_0 : decode cX10_askOf 0 = .ok (.aload_n 0, 1) := by decide +kernel
theorem dX10_askOf_1 : decode cX10_askOf 1 = .ok (.iload_n 1, 1) := by decide +kernel
theorem dX10_askOf_2 : decode cX10_askOf 2 = .ok (.invokevirtual 312, 3) := by decide +kernel
theorem dX10_askOf_5 : decode cX10_askOf 5 = .ok (.istore_n 2, 1) := by decide +kernel
theorem dX10_askOf_6 : decode cX10_askOf 6 = .ok (.iconst (-1), 1) := by decide +kernel
theorem dX10_askOf_7 : decode cX10_askOf 7 = .ok (.istore_n 3, 1) := by decide +kernel
theorem dX10_askOf_8 : decode cX10_askOf 8 = .ok (.iconst 0, 1) := by decide +kernel
theorem dX10_askOf_9 : decode cX10_askOf 9 = .ok (.istore 4, 2) := by decide +kernel
theorem dX10_askOf_11 : decode cX10_askOf 11 = .ok (.iconst 0, 1) := by decide +kernel
theorem dX10_askOf_12 : decode cX10_askOf 12 = .ok (.istore 5, 2) := by decide +kernel
theorem dX10_askOf_14 : decode cX10_askOf 14 = .ok (.iload 5, 2) := by decide +kernel
theorem dX10_askOf_16 : decode cX10_askOf 16 = .ok (.bipush 24, 2) := by decide +kernel
theorem dX10_askOf_18 : decode cX10_askOf 18 = .ok (.if_icmp .ge 165, 3) := by decide +kernel
theorem dX10_askOf_21 : decode cX10_askOf 21 = .ok (.iconst 0, 1) := by decide +kernel
theorem dX10_askOf_22 : decode cX10_askOf 22 = .ok (.istore 6, 2) := by decide +kernel
theorem dX10_askOf_24 : decode cX10_askOf 24 = .ok (.iconst 1, 1) := by decide +kernel
theorem dX10_askOf_25 : decode cX10_askOf 25 = .ok (.istore 7, 2) := by decide +kernel
theorem dX10_askOf_27 : decode cX10_askOf 27 = .ok (.iload 7, 2) := by decide +kernel
theorem dX10_askOf_29 : decode cX10_askOf 29 = .ok (.bipush 10, 2) := by decide +kernel
theorem dX10_askOf_31 : decode cX10_askOf 31 = .ok (.if_icmp .ge 101, 3) := by decide +kernel
theorem dX10_askOf_34 : decode cX10_askOf 34 = .ok (.iconst 0, 1) := by decide +kernel
theorem dX10_askOf_35 : decode cX10_askOf 35 = .ok (.istore 8, 2) := by decide +kernel
theorem dX10_askOf_37 : decode cX10_askOf 37 = .ok (.iconst 1, 1) := by decide +kernel
theorem dX10_askOf_38 : decode cX10_askOf 38 = .ok (.istore 9, 2) := by decide +kernel
theorem dX10_askOf_40 : decode cX10_askOf 40 = .ok (.iload 9, 2) := by decide +kernel
theorem dX10_askOf_42 : decode cX10_askOf 42 = .ok (.bipush 10, 2) := by decide +kernel
theorem dX10_askOf_44 : decode cX10_askOf 44 = .ok (.if_icmp .ge 66, 3) := by decide +kernel
theorem dX10_askOf_47 : decode cX10_askOf 47 = .ok (.iload 8, 2) := by decide +kernel
theorem dX10_askOf_49 : decode cX10_askOf 49 = .ok (.iload_n 2, 1) := by decide +kernel
theorem dX10_askOf_50 : decode cX10_askOf 50 = .ok (.iload 7, 2) := by decide +kernel
theorem dX10_askOf_52 : decode cX10_askOf 52 = .ok (.invokestatic 209, 3) := by decide +kernel
theorem dX10_askOf_55 : decode cX10_askOf 55 = .ok (.ifCond .eq 45, 3) := by decide +kernel
theorem dX10_askOf_58 : decode cX10_askOf 58 = .ok (.iload_n 2, 1) := by decide +kernel
theorem dX10_askOf_59 : decode cX10_askOf 59 = .ok (.iload 9, 2) := by decide +kernel
theorem dX10_askOf_61 : decode cX10_askOf 61 = .ok (.invokestatic 209, 3) := by decide +kernel
theorem dX10_askOf_64 : decode cX10_askOf 64 = .ok (.ifCond .eq 36, 3) := by decide +kernel
theorem dX10_askOf_67 : decode cX10_askOf 67 = .ok (.aload_n 0, 1) := by decide +kernel
theorem dX10_askOf_68 : decode cX10_askOf 68 = .ok (.getfield 85, 3) := by decide +kernel
theorem dX10_askOf_71 : decode cX10_askOf 71 = .ok (.bipush 24, 2) := by decide +kernel
theorem dX10_askOf_73 : decode cX10_askOf 73 = .ok (.iload 7, 2) := by decide +kernel
theorem dX10_askOf_75 : decode cX10_askOf 75 = .ok (.imul, 1) := by decide +kernel
theorem dX10_askOf_76 : decode cX10_askOf 76 = .ok (.iload 5, 2) := by decide +kernel
theorem dX10_askOf_78 : decode cX10_askOf 78 = .ok (.iadd, 1) := by decide +kernel
theorem dX10_askOf_79 : decode cX10_askOf 79 = .ok (.iaload, 1) := by decide +kernel
theorem dX10_askOf_80 : decode cX10_askOf 80 = .ok (.aload_n 0, 1) := by decide +kernel
theorem dX10_askOf_81 : decode cX10_askOf 81 = .ok (.getfield 85, 3) := by decide +kernel
theorem dX10_askOf_84 : decode cX10_askOf 84 = .ok (.bipush 24, 2) := by decide +kernel
theorem dX10_askOf_86 : decode cX10_askOf 86 = .ok (.iload 9, 2) := by decide +kernel
theorem dX10_askOf_88 : decode cX10_askOf 88 = .ok (.imul, 1) := by decide +kernel
theorem dX10_askOf_89 : decode cX10_askOf 89 = .ok (.iload 5, 2) := by decide +kernel
theorem dX10_askOf_91 : decode cX10_askOf 91 = .ok (.iadd, 1) := by decide +kernel
theorem dX10_askOf_92 : decode cX10_askOf 92 = .ok (.iaload, 1) := by decide +kernel
theorem dX10_askOf_93 : decode cX10_askOf 93 = .ok (.if_icmp .ne 7, 3) := by decide +kernel
theorem dX10_askOf_96 : decode cX10_askOf 96 = .ok (.iconst 1, 1) := by decide +kernel
theorem dX10_askOf_97 : decode cX10_askOf 97 = .ok (.goto 4, 3) := by decide +kernel
theorem dX10_askOf_100 : decode cX10_askOf 100 = .ok (.iconst 0, 1) := by decide +kernel
theorem dX10_askOf_101 : decode cX10_askOf 101 = .ok (.iadd, 1) := by decide +kernel
theorem dX10_askOf_102 : decode cX10_askOf 102 = .ok (.istore 8, 2) := by decide +kernel
theorem dX10_askOf_104 : decode cX10_askOf 104 = .ok (.iinc 9 1, 3) := by decide +kernel
theorem dX10_askOf_107 : decode cX10_askOf 107 = .ok (.goto (-67), 3) := by decide +kernel
theorem dX10_askOf_110 : decode cX10_askOf 110 = .ok (.iload 8, 2) := by decide +kernel
theorem dX10_askOf_112 : decode cX10_askOf 112 = .ok (.iload 6, 2) := by decide +kernel
theorem dX10_askOf_114 : decode cX10_askOf 114 = .ok (.if_icmp .le 8, 3) := by decide +kernel
theorem dX10_askOf_117 : decode cX10_askOf 117 = .ok (.iload 8, 2) := by decide +kernel
theorem dX10_askOf_119 : decode cX10_askOf 119 = .ok (.goto 5, 3) := by decide +kernel
theorem dX10_askOf_122 : decode cX10_askOf 122 = .ok (.iload 6, 2) := by decide +kernel
theorem dX10_askOf_124 : decode cX10_askOf 124 = .ok (.istore 6, 2) := by decide +kernel
theorem dX10_askOf_126 : decode cX10_askOf 126 = .ok (.iinc 7 1, 3) := by decide +kernel
theorem dX10_askOf_129 : decode cX10_askOf 129 = .ok (.goto (-102), 3) := by decide +kernel
theorem dX10_askOf_132 : decode cX10_askOf 132 = .ok (.iload_n 3, 1) := by decide +kernel
theorem dX10_askOf_133 : decode cX10_askOf 133 = .ok (.iconst (-1), 1) := by decide +kernel
theorem dX10_askOf_134 : decode cX10_askOf 134 = .ok (.if_icmp .eq 10, 3) := by decide +kernel
theorem dX10_askOf_137 : decode cX10_askOf 137 = .ok (.iload 6, 2) := by decide +kernel
theorem dX10_askOf_139 : decode cX10_askOf 139 = .ok (.iload 4, 2) := by decide +kernel
theorem dX10_askOf_141 : decode cX10_askOf 141 = .ok (.if_icmp .ge 7, 3) := by decide +kernel
theorem dX10_askOf_144 : decode cX10_askOf 144 = .ok (.iconst 1, 1) := by decide +kernel
theorem dX10_askOf_145 : decode cX10_askOf 145 = .ok (.goto 4, 3) := by decide +kernel
theorem dX10_askOf_148 : decode cX10_askOf 148 = .ok (.iconst 0, 1) := by decide +kernel
theorem dX10_askOf_149 : decode cX10_askOf 149 = .ok (.istore 7, 2) := by decide +kernel
theorem dX10_askOf_151 : decode cX10_askOf 151 = .ok (.iload 7, 2) := by decide +kernel
theorem dX10_askOf_153 : decode cX10_askOf 153 = .ok (.ifCond .eq 8, 3) := by decide +kernel
theorem dX10_askOf_156 : decode cX10_askOf 156 = .ok (.iload 5, 2) := by decide +kernel
theorem dX10_askOf_158 : decode cX10_askOf 158 = .ok (.goto 4, 3) := by decide +kernel
theorem dX10_askOf_161 : decode cX10_askOf 161 = .ok (.iload_n 3, 1) := by decide +kernel
theorem dX10_askOf_162 : decode cX10_askOf 162 = .ok (.istore_n 3, 1) := by decide +kernel
theorem dX10_askOf_163 : decode cX10_askOf 163 = .ok (.iload 7, 2) := by decide +kernel
theorem dX10_askOf_165 : decode cX10_askOf 165 = .ok (.ifCond .eq 8, 3) := by decide +kernel
theorem dX10_askOf_168 : decode cX10_askOf 168 = .ok (.iload 6, 2) := by decide +kernel
theorem dX10_askOf_170 : decode cX10_askOf 170 = .ok (.goto 5, 3) := by decide +kernel
theorem dX10_askOf_173 : decode cX10_askOf 173 = .ok (.iload 4, 2) := by decide +kernel
theorem dX10_askOf_175 : decode cX10_askOf 175 = .ok (.istore 4, 2) := by decide +kernel
theorem dX10_askOf_177 : decode cX10_askOf 177 = .ok (.iinc 5 1, 3) := by decide +kernel
theorem dX10_askOf_180 : decode cX10_askOf 180 = .ok (.goto (-166), 3) := by decide +kernel
theorem dX10_askOf_183 : decode cX10_askOf 183 = .ok (.iload_n 3, 1) := by decide +kernel
theorem dX10_askOf_184 : decode cX10_askOf 184 = .ok (.ireturn, 1) := by decide +kernel
theorem dX10_ask_0 : decode cX10_ask 0 = .ok (.aload_n 0, 1) := by decide +kernel
theorem dX10_ask_1 : decode cX10_ask 1 = .ok (.iload_n 1, 1) := by decide +kernel
theorem dX10_ask_2 : decode cX10_ask 2 = .ok (.invokevirtual 153, 3) := by decide +kernel
theorem dX10_ask_5 : decode cX10_ask 5 = .ok (.ifCond .eq 11, 3) := by decide +kernel
theorem dX10_ask_8 : decode cX10_ask 8 = .ok (.aload_n 0, 1) := by decide +kernel
theorem dX10_ask_9 : decode cX10_ask 9 = .ok (.iload_n 1, 1) := by decide +kernel
theorem dX10_ask_10 : decode cX10_ask 10 = .ok (.invokevirtual 315, 3) := by decide +kernel
theorem dX10_ask_13 : decode cX10_ask 13 = .ok (.goto 5, 3) := by decide +kernel
theorem dX10_ask_16 : decode cX10_ask 16 = .ok (.bipush (-2), 2) := by decide +kernel
theorem dX10_ask_18 : decode cX10_ask 18 = .ok (.ireturn, 1) := by decide +kernel
theorem dX10_chanceOf_0 : decode cX10_chanceOf 0 = .ok (.aload_n 0, 1) := by decide +kernel
theorem dX10_chanceOf_1 : decode cX10_chanceOf 1 = .ok (.invokevirtual 229, 3) := by decide +kernel
theorem dX10_chanceOf_4 : decode cX10_chanceOf 4 = .ok (.lconst 0, 1) := by decide +kernel
theorem dX10_chanceOf_5 : decode cX10_chanceOf 5 = .ok (.lstore 4, 2) := by decide +kernel
theorem dX10_chanceOf_7 : decode cX10_chanceOf 7 = .ok (.iconst 0, 1) := by decide +kernel
theorem dX10_chanceOf_8 : decode cX10_chanceOf 8 = .ok (.istore 6, 2) := by decide +kernel
theorem dX10_chanceOf_10 : decode cX10_chanceOf 10 = .ok (.iload 6, 2) := by decide +kernel
theorem dX10_chanceOf_12 : decode cX10_chanceOf 12 = .ok (.iconst 1, 1) := by decide +kernel
theorem dX10_chanceOf_13 : decode cX10_chanceOf 13 = .ok (.aload_n 0, 1) := by decide +kernel
theorem dX10_chanceOf_14 : decode cX10_chanceOf 14 = .ok (.getfield 171, 3) := by decide +kernel
theorem dX10_chanceOf_17 : decode cX10_chanceOf 17 = .ok (.ishl, 1) := by decide +kernel
theorem dX10_chanceOf_18 : decode cX10_chanceOf 18 = .ok (.if_icmp .ge 93, 3) := by decide +kernel
theorem dX10_chanceOf_21 : decode cX10_chanceOf 21 = .ok (.lconst 1, 1) := by decide +kernel
theorem dX10_chanceOf_22 : decode cX10_chanceOf 22 = .ok (.lstore 7, 2) := by decide +kernel
theorem dX10_chanceOf_24 : decode cX10_chanceOf 24 = .ok (.iconst 0, 1) := by decide +kernel
theorem dX10_chanceOf_25 : decode cX10_chanceOf 25 = .ok (.istore 9, 2) := by decide +kernel
theorem dX10_chanceOf_27 : decode cX10_chanceOf 27 = .ok (.iload 9, 2) := by decide +kernel
theorem dX10_chanceOf_29 : decode cX10_chanceOf 29 = .ok (.aload_n 0, 1) := by decide +kernel
theorem dX10_chanceOf_30 : decode cX10_chanceOf 30 = .ok (.getfield 171, 3) := by decide +kernel
theorem dX10_chanceOf_33 : decode cX10_chanceOf 33 = .ok (.if_icmp .ge 34, 3) := by decide +kernel
theorem dX10_chanceOf_36 : decode cX10_chanceOf 36 = .ok (.lload 7, 2) := by decide +kernel
theorem dX10_chanceOf_38 : decode cX10_chanceOf 38 = .ok (.iload 6, 2) := by decide +kernel
theorem dX10_chanceOf_40 : decode cX10_chanceOf 40 = .ok (.iload 9, 2) := by decide +kernel
theorem dX10_chanceOf_42 : decode cX10_chanceOf 42 = .ok (.invokestatic 209, 3) := by decide +kernel
theorem dX10_chanceOf_45 : decode cX10_chanceOf 45 = .ok (.ifCond .eq 11, 3) := by decide +kernel
theorem dX10_chanceOf_48 : decode cX10_chanceOf 48 = .ok (.bipush 16, 2) := by decide +kernel
theorem dX10_chanceOf_50 : decode cX10_chanceOf 50 = .ok (.iload_n 1, 1) := by decide +kernel
theorem dX10_chanceOf_51 : decode cX10_chanceOf 51 = .ok (.isub, 1) := by decide +kernel
theorem dX10_chanceOf_52 : decode cX10_chanceOf 52 = .ok (.i2l, 1) := by decide +kernel
theorem dX10_chanceOf_53 : decode cX10_chanceOf 53 = .ok (.goto 5, 3) := by decide +kernel
theorem dX10_chanceOf_56 : decode cX10_chanceOf 56 = .ok (.iload_n 1, 1) := by decide +kernel
theorem dX10_chanceOf_57 : decode cX10_chanceOf 57 = .ok (.i2l, 1) := by decide +kernel
theorem dX10_chanceOf_58 : decode cX10_chanceOf 58 = .ok (.lmul, 1) := by decide +kernel
theorem dX10_chanceOf_59 : decode cX10_chanceOf 59 = .ok (.lstore 7, 2) := by decide +kernel
theorem dX10_chanceOf_61 : decode cX10_chanceOf 61 = .ok (.iinc 9 1, 3) := by decide +kernel
theorem dX10_chanceOf_64 : decode cX10_chanceOf 64 = .ok (.goto (-37), 3) := by decide +kernel
theorem dX10_chanceOf_67 : decode cX10_chanceOf 67 = .ok (.lload 7, 2) := by decide +kernel
theorem dX10_chanceOf_69 : decode cX10_chanceOf 69 = .ok (.lconst 0, 1) := by decide +kernel
theorem dX10_chanceOf_70 : decode cX10_chanceOf 70 = .ok (.lcmp, 1) := by decide +kernel
theorem dX10_chanceOf_71 : decode cX10_chanceOf 71 = .ok (.ifCond .le 34, 3) := by decide +kernel
theorem dX10_chanceOf_74 : decode cX10_chanceOf 74 = .ok (.aload_n 0, 1) := by decide +kernel
theorem dX10_chanceOf_75 : decode cX10_chanceOf 75 = .ok (.iload 6, 2) := by decide +kernel
theorem dX10_chanceOf_77 : decode cX10_chanceOf 77 = .ok (.putfield 187, 3) := by decide +kernel
theorem dX10_chanceOf_80 : decode cX10_chanceOf 80 = .ok (.aload_n 0, 1) := by decide +kernel
theorem dX10_chanceOf_81 : decode cX10_chanceOf 81 = .ok (.invokevirtual 232, 3) := by decide +kernel
theorem dX10_chanceOf_84 : decode cX10_chanceOf 84 = .ok (.lload 4, 2) := by decide +kernel
theorem dX10_chanceOf_86 : decode cX10_chanceOf 86 = .ok (.aload_n 0, 1) := by decide +kernel
theorem dX10_chanceOf_87 : decode cX10_chanceOf 87 = .ok (.getfield 58, 3) := by decide +kernel
theorem dX10_chanceOf_90 : decode cX10_chanceOf 90 = .ok (.iload_n 2, 1) := by decide +kernel
theorem dX10_chanceOf_91 : decode cX10_chanceOf 91 = .ok (.iaload, 1) := by decide +kernel
theorem dX10_chanceOf_92 : decode cX10_chanceOf 92 = .ok (.iconst (-1), 1) := by decide +kernel
theorem dX10_chanceOf_93 : decode cX10_chanceOf 93 = .ok (.if_icmp .eq 8, 3) := by decide +kernel
theorem dX10_chanceOf_96 : decode cX10_chanceOf 96 = .ok (.lload 7, 2) := by decide +kernel
theorem dX10_chanceOf_98 : decode cX10_chanceOf 98 = .ok (.goto 4, 3) := by decide +kernel
theorem dX10_chanceOf_101 : decode cX10_chanceOf 101 = .ok (.lconst 0, 1) := by decide +kernel
theorem dX10_chanceOf_102 : decode cX10_chanceOf 102 = .ok (.ladd, 1) := by decide +kernel
theorem dX10_chanceOf_103 : decode cX10_chanceOf 103 = .ok (.lstore 4, 2) := by decide +kernel
theorem dX10_chanceOf_105 : decode cX10_chanceOf 105 = .ok (.iinc 6 1, 3) := by decide +kernel
theorem dX10_chanceOf_108 : decode cX10_chanceOf 108 = .ok (.goto (-98), 3) := by decide +kernel
theorem dX10_chanceOf_111 : decode cX10_chanceOf 111 = .ok (.lload 4, 2) := by decide +kernel
theorem dX10_chanceOf_113 : decode cX10_chanceOf 113 = .ok (.lconst 1, 1) := by decide +kernel
theorem dX10_chanceOf_114 : decode cX10_chanceOf 114 = .ok (.iconst 4, 1) := by decide +kernel
theorem dX10_chanceOf_115 : decode cX10_chanceOf 115 = .ok (.aload_n 0, 1) := by decide +kernel
theorem dX10_chanceOf_116 : decode cX10_chanceOf 116 = .ok (.getfield 171, 3) := by decide +kernel
theorem dX10_chanceOf_119 : decode cX10_chanceOf 119 = .ok (.imul, 1) := by decide +kernel
theorem dX10_chanceOf_120 : decode cX10_chanceOf 120 = .ok (.lshl, 1) := by decide +kernel
theorem dX10_chanceOf_121 : decode cX10_chanceOf 121 = .ok (.iload_n 3, 1) := by decide +kernel
theorem dX10_chanceOf_122 : decode cX10_chanceOf 122 = .ok (.invokestatic 318, 3) := by decide +kernel
theorem dX10_chanceOf_125 : decode cX10_chanceOf 125 = .ok (.lreturn, 1) := by decide +kernel
theorem dX10_chance_0 : decode cX10_chance 0 = .ok (.iload_n 1, 1) := by decide +kernel
theorem dX10_chance_1 : decode cX10_chance 1 = .ok (.iconst 0, 1) := by decide +kernel
theorem dX10_chance_2 : decode cX10_chance 2 = .ok (.bipush 16, 2) := by decide +kernel
theorem dX10_chance_4 : decode cX10_chance 4 = .ok (.invokestatic 106, 3) := by decide +kernel
theorem dX10_chance_7 : decode cX10_chance 7 = .ok (.ifCond .eq 28, 3) := by decide +kernel
theorem dX10_chance_10 : decode cX10_chance 10 = .ok (.aload_n 0, 1) := by decide +kernel
theorem dX10_chance_11 : decode cX10_chance 11 = .ok (.iload_n 2, 1) := by decide +kernel
theorem dX10_chance_12 : decode cX10_chance 12 = .ok (.invokevirtual 159, 3) := by decide +kernel
theorem dX10_chance_15 : decode cX10_chance 15 = .ok (.ifCond .eq 20, 3) := by decide +kernel
theorem dX10_chance_18 : decode cX10_chance 18 = .ok (.iload_n 3, 1) := by decide +kernel
theorem dX10_chance_19 : decode cX10_chance 19 = .ok (.invokestatic 168, 3) := by decide +kernel
theorem dX10_chance_22 : decode cX10_chance 22 = .ok (.ifCond .eq 13, 3) := by decide +kernel
theorem dX10_chance_25 : decode cX10_chance 25 = .ok (.aload_n 0, 1) := by decide +kernel
theorem dX10_chance_26 : decode cX10_chance 26 = .ok (.iload_n 1, 1) := by decide +kernel
theorem dX10_chance_27 : decode cX10_chance 27 = .ok (.iload_n 2, 1) := by decide +kernel
theorem dX10_chance_28 : decode cX10_chance 28 = .ok (.iload_n 3, 1) := by decide +kernel
theorem dX10_chance_29 : decode cX10_chance 29 = .ok (.invokevirtual 322, 3) := by decide +kernel
theorem dX10_chance_32 : decode cX10_chance 32 = .ok (.goto 8, 3) := by decide +kernel
theorem dX10_chance_35 : decode cX10_chance 35 = .ok (.bipush (-2), 2) := by decide +kernel
theorem dX10_chance_37 : decode cX10_chance 37 = .ok (.invokestatic 326, 3) := by decide +kernel
theorem dX10_chance_40 : decode cX10_chance 40 = .ok (.lreturn, 1) := by decide +kernel
theorem dX10_yearsOf_0 : decode cX10_yearsOf 0 = .ok (.aload_n 0, 1) := by decide +kernel
theorem dX10_yearsOf_1 : decode cX10_yearsOf 1 = .ok (.invokevirtual 229, 3) := by decide +kernel
theorem dX10_yearsOf_4 : decode cX10_yearsOf 4 = .ok (.iload_n 1, 1) := by decide +kernel
theorem dX10_yearsOf_5 : decode cX10_yearsOf 5 = .ok (.istore 4, 2) := by decide +kernel
theorem dX10_yearsOf_7 : decode cX10_yearsOf 7 = .ok (.aload_n 0, 1) := by decide +kernel
theorem dX10_yearsOf_8 : decode cX10_yearsOf 8 = .ok (.iload_n 2, 1) := by decide +kernel
theorem dX10_yearsOf_9 : decode cX10_yearsOf 9 = .ok (.putfield 184, 3) := by decide +kernel
theorem dX10_yearsOf_12 : decode cX10_yearsOf 12 = .ok (.iconst 0, 1) := by decide +kernel
theorem dX10_yearsOf_13 : decode cX10_yearsOf 13 = .ok (.istore 5, 2) := by decide +kernel
theorem dX10_yearsOf_15 : decode cX10_yearsOf 15 = .ok (.iload 5, 2) := by decide +kernel
theorem dX10_yearsOf_17 : decode cX10_yearsOf 17 = .ok (.iload_n 2, 1) := by decide +kernel
theorem dX10_yearsOf_18 : decode cX10_yearsOf 18 = .ok (.if_icmp .ge 89, 3) := by decide +kernel
theorem dX10_yearsOf_21 : decode cX10_yearsOf 21 = .ok (.ldc_w 330, 3) := by decide +kernel
theorem dX10_yearsOf_24 : decode cX10_yearsOf 24 = .ok (.iload 4, 2) := by decide +kernel
theorem dX10_yearsOf_26 : decode cX10_yearsOf 26 = .ok (.imul, 1) := by decide +kernel
theorem dX10_yearsOf_27 : decode cX10_yearsOf 27 = .ok (.sipush 12345, 3) := by decide +kernel
theorem dX10_yearsOf_30 : decode cX10_yearsOf 30 = .ok (.iadd, 1) := by decide +kernel
theorem dX10_yearsOf_31 : decode cX10_yearsOf 31 = .ok (.istore 4, 2) := by decide +kernel
theorem dX10_yearsOf_33 : decode cX10_yearsOf 33 = .ok (.aload_n 0, 1) := by decide +kernel
theorem dX10_yearsOf_34 : decode cX10_yearsOf 34 = .ok (.getfield 46, 3) := by decide +kernel
theorem dX10_yearsOf_37 : decode cX10_yearsOf 37 = .ok (.iload 5, 2) := by decide +kernel
theorem dX10_yearsOf_39 : decode cX10_yearsOf 39 = .ok (.iload 4, 2) := by decide +kernel
theorem dX10_yearsOf_41 : decode cX10_yearsOf 41 = .ok (.bipush 16, 2) := by decide +kernel
theorem dX10_yearsOf_43 : decode cX10_yearsOf 43 = .ok (.iushr, 1) := by decide +kernel
theorem dX10_yearsOf_44 : decode cX10_yearsOf 44 = .ok (.iconst 2, 1) := by decide +kernel
theorem dX10_yearsOf_45 : decode cX10_yearsOf 45 = .ok (.irem, 1) := by decide +kernel
theorem dX10_yearsOf_46 : decode cX10_yearsOf 46 = .ok (.iastore, 1) := by decide +kernel
theorem dX10_yearsOf_47 : decode cX10_yearsOf 47 = .ok (.ldc_w 330, 3) := by decide +kernel
theorem dX10_yearsOf_50 : decode cX10_yearsOf 50 = .ok (.iload 4, 2) := by decide +kernel
theorem dX10_yearsOf_52 : decode cX10_yearsOf 52 = .ok (.imul, 1) := by decide +kernel
theorem dX10_yearsOf_53 : decode cX10_yearsOf 53 = .ok (.sipush 12345, 3) := by decide +kernel
theorem dX10_yearsOf_56 : decode cX10_yearsOf 56 = .ok (.iadd, 1) := by decide +kernel
theorem dX10_yearsOf_57 : decode cX10_yearsOf 57 = .ok (.istore 4, 2) := by decide +kernel
theorem dX10_yearsOf_59 : decode cX10_yearsOf 59 = .ok (.aload_n 0, 1) := by decide +kernel
theorem dX10_yearsOf_60 : decode cX10_yearsOf 60 = .ok (.getfield 49, 3) := by decide +kernel
theorem dX10_yearsOf_63 : decode cX10_yearsOf 63 = .ok (.iload 5, 2) := by decide +kernel
theorem dX10_yearsOf_65 : decode cX10_yearsOf 65 = .ok (.iload 4, 2) := by decide +kernel
theorem dX10_yearsOf_67 : decode cX10_yearsOf 67 = .ok (.bipush 16, 2) := by decide +kernel
theorem dX10_yearsOf_69 : decode cX10_yearsOf 69 = .ok (.iushr, 1) := by decide +kernel
theorem dX10_yearsOf_70 : decode cX10_yearsOf 70 = .ok (.bipush 24, 2) := by decide +kernel
theorem dX10_yearsOf_72 : decode cX10_yearsOf 72 = .ok (.irem, 1) := by decide +kernel
theorem dX10_yearsOf_73 : decode cX10_yearsOf 73 = .ok (.iastore, 1) := by decide +kernel
theorem dX10_yearsOf_74 : decode cX10_yearsOf 74 = .ok (.ldc_w 330, 3) := by decide +kernel
theorem dX10_yearsOf_77 : decode cX10_yearsOf 77 = .ok (.iload 4, 2) := by decide +kernel
theorem dX10_yearsOf_79 : decode cX10_yearsOf 79 = .ok (.imul, 1) := by decide +kernel
theorem dX10_yearsOf_80 : decode cX10_yearsOf 80 = .ok (.sipush 12345, 3) := by decide +kernel
theorem dX10_yearsOf_83 : decode cX10_yearsOf 83 = .ok (.iadd, 1) := by decide +kernel
theorem dX10_yearsOf_84 : decode cX10_yearsOf 84 = .ok (.istore 4, 2) := by decide +kernel
theorem dX10_yearsOf_86 : decode cX10_yearsOf 86 = .ok (.aload_n 0, 1) := by decide +kernel
theorem dX10_yearsOf_87 : decode cX10_yearsOf 87 = .ok (.getfield 52, 3) := by decide +kernel
theorem dX10_yearsOf_90 : decode cX10_yearsOf 90 = .ok (.iload 5, 2) := by decide +kernel
theorem dX10_yearsOf_92 : decode cX10_yearsOf 92 = .ok (.iload 4, 2) := by decide +kernel
theorem dX10_yearsOf_94 : decode cX10_yearsOf 94 = .ok (.bipush 16, 2) := by decide +kernel
theorem dX10_yearsOf_96 : decode cX10_yearsOf 96 = .ok (.iushr, 1) := by decide +kernel
theorem dX10_yearsOf_97 : decode cX10_yearsOf 97 = .ok (.bipush 6, 2) := by decide +kernel
theorem dX10_yearsOf_99 : decode cX10_yearsOf 99 = .ok (.irem, 1) := by decide +kernel
theorem dX10_yearsOf_100 : decode cX10_yearsOf 100 = .ok (.iastore, 1) := by decide +kernel
theorem dX10_yearsOf_101 : decode cX10_yearsOf 101 = .ok (.iinc 5 1, 3) := by decide +kernel
theorem dX10_yearsOf_104 : decode cX10_yearsOf 104 = .ok (.goto (-89), 3) := by decide +kernel
theorem dX10_yearsOf_107 : decode cX10_yearsOf 107 = .ok (.aload_n 0, 1) := by decide +kernel
theorem dX10_yearsOf_108 : decode cX10_yearsOf 108 = .ok (.invokevirtual 232, 3) := by decide +kernel
theorem dX10_yearsOf_111 : decode cX10_yearsOf 111 = .ok (.iload_n 3, 1) := by decide +kernel
theorem dX10_yearsOf_112 : decode cX10_yearsOf 112 = .ok (.ifCond .ne 10, 3) := by decide +kernel
theorem dX10_yearsOf_115 : decode cX10_yearsOf 115 = .ok (.aload_n 0, 1) := by decide +kernel
theorem dX10_yearsOf_116 : decode cX10_yearsOf 116 = .ok (.invokevirtual 275, 3) := by decide +kernel
theorem dX10_yearsOf_119 : decode cX10_yearsOf 119 = .ok (.goto 7, 3) := by decide +kernel
theorem dX10_yearsOf_122 : decode cX10_yearsOf 122 = .ok (.aload_n 0, 1) := by decide +kernel
theorem dX10_yearsOf_123 : decode cX10_yearsOf 123 = .ok (.getfield 197, 3) := by decide +kernel
theorem dX10_yearsOf_126 : decode cX10_yearsOf 126 = .ok (.ireturn, 1) := by decide +kernel
theorem dX10_years_0 : decode cX10_years 0 = .ok (.iload_n 2, 1) := by decide +kernel
theorem dX10_years_1 : decode cX10_years 1 = .ok (.iconst 0, 1) := by decide +kernel
theorem dX10_years_2 : decode cX10_years 2 = .ok (.bipush 8, 2) := by decide +kernel
theorem dX10_years_4 : decode cX10_years 4 = .ok (.invokestatic 106, 3) := by decide +kernel
theorem dX10_years_7 : decode cX10_years 7 = .ok (.ifCond .eq 20, 3) := by decide +kernel
theorem dX10_years_10 : decode cX10_years 10 = .ok (.iload_n 3, 1) := by decide +kernel
theorem dX10_years_11 : decode cX10_years 11 = .ok (.invokestatic 168, 3) := by decide +kernel
theorem dX10_years_14 : decode cX10_years 14 = .ok (.ifCond .eq 13, 3) := by decide +kernel
theorem dX10_years_17 : decode cX10_years 17 = .ok (.aload_n 0, 1) := by decide +kernel
theorem dX10_years_18 : decode cX10_years 18 = .ok (.iload_n 1, 1) := by decide +kernel
theorem dX10_years_19 : decode cX10_years 19 = .ok (.iload_n 2, 1) := by decide +kernel
theorem dX10_years_20 : decode cX10_years 20 = .ok (.iload_n 3, 1) := by decide +kernel
theorem dX10_years_21 : decode cX10_years 21 = .ok (.invokevirtual 331, 3) := by decide +kernel
theorem dX10_years_24 : decode cX10_years 24 = .ok (.goto 5, 3) := by decide +kernel
theorem dX10_years_27 : decode cX10_years 27 = .ok (.bipush (-2), 2) := by decide +kernel
theorem dX10_years_29 : decode cX10_years 29 = .ok (.ireturn, 1) := by decide +kernel
theorem dX10_meets_0 : decode cX10_meets 0 = .ok (.aload_n 0, 1) := by decide +kernel
theorem dX10_meets_1 : decode cX10_meets 1 = .ok (.iload_n 1, 1) := by decide +kernel
theorem dX10_meets_2 : decode cX10_meets 2 = .ok (.putfield 334, 3) := by decide +kernel
theorem dX10_meets_5 : decode cX10_meets 5 = .ok (.bipush (-10), 2) := by decide +kernel
theorem dX10_meets_7 : decode cX10_meets 7 = .ok (.iload_n 1, 1) := by decide +kernel
theorem dX10_meets_8 : decode cX10_meets 8 = .ok (.isub, 1) := by decide +kernel
theorem dX10_meets_9 : decode cX10_meets 9 = .ok (.ireturn, 1) := by decide +kernel
theorem dX10_isSheet_0 : decode cX10_isSheet 0 = .ok (.iload_n 0, 1) := by decide +kernel
theorem dX10_isSheet_1 : decode cX10_isSheet 1 = .ok (.iconst 0, 1) := by decide +kernel
theorem dX10_isSheet_2 : decode cX10_isSheet 2 = .ok (.iconst 3, 1) := by decide +kernel
theorem dX10_isSheet_3 : decode cX10_isSheet 3 = .ok (.invokestatic 106, 3) := by decide +kernel
theorem dX10_isSheet_6 : decode cX10_isSheet 6 = .ok (.ireturn, 1) := by decide +kernel
theorem dX10_sheet_0 : decode cX10_sheet 0 = .ok (.iload_n 1, 1) := by decide +kernel
theorem dX10_sheet_1 : decode cX10_sheet 1 = .ok (.invokestatic 174, 3) := by decide +kernel
theorem dX10_sheet_4 : decode cX10_sheet 4 = .ok (.ifCond .eq 18, 3) := by decide +kernel
theorem dX10_sheet_7 : decode cX10_sheet 7 = .ok (.iload_n 2, 1) := by decide +kernel
theorem dX10_sheet_8 : decode cX10_sheet 8 = .ok (.iconst 0, 1) := by decide +kernel
theorem dX10_sheet_9 : decode cX10_sheet 9 = .ok (.iconst 2, 1) := by decide +kernel
theorem dX10_sheet_10 : decode cX10_sheet 10 = .ok (.invokestatic 106, 3) := by decide +kernel
theorem dX10_sheet_13 : decode cX10_sheet 13 = .ok (.ifCond .eq 9, 3) := by decide +kernel
theorem dX10_sheet_16 : decode cX10_sheet 16 = .ok (.iload_n 3, 1) := by decide +kernel
theorem dX10_sheet_17 : decode cX10_sheet 17 = .ok (.bipush 60, 2) := by decide +kernel
theorem dX10_sheet_19 : decode cX10_sheet 19 = .ok (.if_icmp .le 6, 3) := by decide +kernel
theorem dX10_sheet_22 : decode cX10_sheet 22 = .ok (.bipush (-2), 2) := by decide +kernel
theorem dX10_sheet_24 : decode cX10_sheet 24 = .ok (.ireturn, 1) := by decide +kernel
theorem dX10_sheet_25 : decode cX10_sheet 25 = .ok (.iload_n 3, 1) := by decide +kernel
theorem dX10_sheet_26 : decode cX10_sheet 26 = .ok (.ifCond .ge 9, 3) := by decide +kernel
theorem dX10_sheet_29 : decode cX10_sheet 29 = .ok (.aload_n 0, 1) := by decide +kernel
theorem dX10_sheet_30 : decode cX10_sheet 30 = .ok (.iconst 5, 1) := by decide +kernel
theorem dX10_sheet_31 : decode cX10_sheet 31 = .ok (.invokevirtual 177, 3) := by decide +kernel
theorem dX10_sheet_34 : decode cX10_sheet 34 = .ok (.ireturn, 1) := by decide +kernel
theorem dX10_sheet_35 : decode cX10_sheet 35 = .ok (.aload_n 0, 1) := by decide +kernel
theorem dX10_sheet_36 : decode cX10_sheet 36 = .ok (.getfield 88, 3) := by decide +kernel
theorem dX10_sheet_39 : decode cX10_sheet 39 = .ok (.iload_n 1, 1) := by decide +kernel
theorem dX10_sheet_40 : decode cX10_sheet 40 = .ok (.iconst 1, 1) := by decide +kernel
theorem dX10_sheet_41 : decode cX10_sheet 41 = .ok (.bastore, 1) := by decide +kernel
theorem dX10_sheet_42 : decode cX10_sheet 42 = .ok (.aload_n 0, 1) := by decide +kernel
theorem dX10_sheet_43 : decode cX10_sheet 43 = .ok (.getfield 92, 3) := by decide +kernel
theorem dX10_sheet_46 : decode cX10_sheet 46 = .ok (.iload_n 1, 1) := by decide +kernel
theorem dX10_sheet_47 : decode cX10_sheet 47 = .ok (.iload_n 2, 1) := by decide +kernel
theorem dX10_sheet_48 : decode cX10_sheet 48 = .ok (.iastore, 1) := by decide +kernel
theorem dX10_sheet_49 : decode cX10_sheet 49 = .ok (.aload_n 0, 1) := by decide +kernel
theorem dX10_sheet_50 : decode cX10_sheet 50 = .ok (.getfield 95, 3) := by decide +kernel
theorem dX10_sheet_53 : decode cX10_sheet 53 = .ok (.iload_n 1, 1) := by decide +kernel
theorem dX10_sheet_54 : decode cX10_sheet 54 = .ok (.iload_n 3, 1) := by decide +kernel
theorem dX10_sheet_55 : decode cX10_sheet 55 = .ok (.iastore, 1) := by decide +kernel
theorem dX10_sheet_56 : decode cX10_sheet 56 = .ok (.iconst 0, 1) := by decide +kernel
theorem dX10_sheet_57 : decode cX10_sheet 57 = .ok (.istore 4, 2) := by decide +kernel
theorem dX10_sheet_59 : decode cX10_sheet 59 = .ok (.iload 4, 2) := by decide +kernel
theorem dX10_sheet_61 : decode cX10_sheet 61 = .ok (.bipush 60, 2) := by decide +kernel
theorem dX10_sheet_63 : decode cX10_sheet 63 = .ok (.if_icmp .ge 22, 3) := by decide +kernel
theorem dX10_sheet_66 : decode cX10_sheet 66 = .ok (.aload_n 0, 1) := by decide +kernel
theorem dX10_sheet_67 : decode cX10_sheet 67 = .ok (.getfield 98, 3) := by decide +kernel
theorem dX10_sheet_70 : decode cX10_sheet 70 = .ok (.bipush 60, 2) := by decide +kernel
theorem dX10_sheet_72 : decode cX10_sheet 72 = .ok (.iload_n 1, 1) := by decide +kernel
theorem dX10_sheet_73 : decode cX10_sheet 73 = .ok (.imul, 1) := by decide +kernel
theorem dX10_sheet_74 : decode cX10_sheet 74 = .ok (.iload 4, 2) := by decide +kernel
theorem dX10_sheet_76 : decode cX10_sheet 76 = .ok (.iadd, 1) := by decide +kernel
theorem dX10_sheet_77 : decode cX10_sheet 77 = .ok (.iconst 0, 1) := by decide +kernel
theorem dX10_sheet_78 : decode cX10_sheet 78 = .ok (.iastore, 1) := by decide +kernel
theorem dX10_sheet_79 : decode cX10_sheet 79 = .ok (.iinc 4 1, 3) := by decide +kernel
theorem dX10_sheet_82 : decode cX10_sheet 82 = .ok (.goto (-23), 3) := by decide +kernel
theorem dX10_sheet_85 : decode cX10_sheet 85 = .ok (.iload_n 3, 1) := by decide +kernel
theorem dX10_sheet_86 : decode cX10_sheet 86 = .ok (.ireturn, 1) := by decide +kernel
theorem dX10_lose_0 : decode cX10_lose 0 = .ok (.iload_n 1, 1) := by decide +kernel
theorem dX10_lose_1 : decode cX10_lose 1 = .ok (.invokestatic 174, 3) := by decide +kernel
theorem dX10_lose_4 : decode cX10_lose 4 = .ok (.ifCond .ne 6, 3) := by decide +kernel
theorem dX10_lose_7 : decode cX10_lose 7 = .ok (.bipush (-2), 2) := by decide +kernel
theorem dX10_lose_9 : decode cX10_lose 9 = .ok (.ireturn, 1) := by decide +kernel
theorem dX10_lose_10 : decode cX10_lose 10 = .ok (.aload_n 0, 1) := by decide +kernel
theorem dX10_lose_11 : decode cX10_lose 11 = .ok (.getfield 88, 3) := by decide +kernel
theorem dX10_lose_14 : decode cX10_lose 14 = .ok (.iload_n 1, 1) := by decide +kernel
theorem dX10_lose_15 : decode cX10_lose 15 = .ok (.baload, 1) := by decide +kernel
theorem dX10_lose_16 : decode cX10_lose 16 = .ok (.ifCond .ne 9, 3) := by decide +kernel
theorem dX10_lose_19 : decode cX10_lose 19 = .ok (.aload_n 0, 1) := by decide +kernel
theorem dX10_lose_20 : decode cX10_lose 20 = .ok (.iconst 1, 1) := by decide +kernel
theorem dX10_lose_21 : decode cX10_lose 21 = .ok (.invokevirtual 177, 3) := by decide +kernel
theorem dX10_lose_24 : decode cX10_lose 24 = .ok (.ireturn, 1) := by decide +kernel
theorem dX10_lose_25 : decode cX10_lose 25 = .ok (.aload_n 0, 1) := by decide +kernel
theorem dX10_lose_26 : decode cX10_lose 26 = .ok (.getfield 88, 3) := by decide +kernel
theorem dX10_lose_29 : decode cX10_lose 29 = .ok (.iload_n 1, 1) := by decide +kernel
theorem dX10_lose_30 : decode cX10_lose 30 = .ok (.iconst 0, 1) := by decide +kernel
theorem dX10_lose_31 : decode cX10_lose 31 = .ok (.bastore, 1) := by decide +kernel
theorem dX10_lose_32 : decode cX10_lose 32 = .ok (.aload_n 0, 1) := by decide +kernel
theorem dX10_lose_33 : decode cX10_lose 33 = .ok (.getfield 95, 3) := by decide +kernel
theorem dX10_lose_36 : decode cX10_lose 36 = .ok (.iload_n 1, 1) := by decide +kernel
theorem dX10_lose_37 : decode cX10_lose 37 = .ok (.iaload, 1) := by decide +kernel
theorem dX10_lose_38 : decode cX10_lose 38 = .ok (.ireturn, 1) := by decide +kernel
theorem dX10_lacks_0 : decode cX10_lacks 0 = .ok (.aload_n 0, 1) := by decide +kernel
theorem dX10_lacks_1 : decode cX10_lacks 1 = .ok (.getfield 88, 3) := by decide +kernel
theorem dX10_lacks_4 : decode cX10_lacks 4 = .ok (.iload_n 1, 1) := by decide +kernel
theorem dX10_lacks_5 : decode cX10_lacks 5 = .ok (.baload, 1) := by decide +kernel
theorem dX10_lacks_6 : decode cX10_lacks 6 = .ok (.ifCond .ne 7, 3) := by decide +kernel
theorem dX10_lacks_9 : decode cX10_lacks 9 = .ok (.iconst 1, 1) := by decide +kernel
theorem dX10_lacks_10 : decode cX10_lacks 10 = .ok (.goto 38, 3) := by decide +kernel
theorem dX10_lacks_13 : decode cX10_lacks 13 = .ok (.aload_n 0, 1) := by decide +kernel
theorem dX10_lacks_14 : decode cX10_lacks 14 = .ok (.getfield 92, 3) := by decide +kernel
theorem dX10_lacks_17 : decode cX10_lacks 17 = .ok (.iload_n 1, 1) := by decide +kernel
theorem dX10_lacks_18 : decode cX10_lacks 18 = .ok (.iaload, 1) := by decide +kernel
theorem dX10_lacks_19 : decode cX10_lacks 19 = .ok (.iload_n 2, 1) := by decide +kernel
theorem dX10_lacks_20 : decode cX10_lacks 20 = .ok (.if_icmp .eq 7, 3) := by decide +kernel
theorem dX10_lacks_23 : decode cX10_lacks 23 = .ok (.iconst 3, 1) := by decide +kernel
theorem dX10_lacks_24 : decode cX10_lacks 24 = .ok (.goto 24, 3) := by decide +kernel
theorem dX10_lacks_27 : decode cX10_lacks 27 = .ok (.iload_n 3, 1) := by decide +kernel
theorem dX10_lacks_28 : decode cX10_lacks 28 = .ok (.iconst 0, 1) := by decide +kernel
theorem dX10_lacks_29 : decode cX10_lacks 29 = .ok (.aload_n 0, 1) := by decide +kernel
theorem dX10_lacks_30 : decode cX10_lacks 30 = .ok (.getfield 95, 3) := by decide +kernel
theorem dX10_lacks_33 : decode cX10_lacks 33 = .ok (.iload_n 1, 1) := by decide +kernel
theorem dX10_lacks_34 : decode cX10_lacks 34 = .ok (.iaload, 1) := by decide +kernel
theorem dX10_lacks_35 : decode cX10_lacks 35 = .ok (.iconst 1, 1) := by decide +kernel
theorem dX10_lacks_36 : decode cX10_lacks 36 = .ok (.isub, 1) := by decide +kernel
theorem dX10_lacks_37 : decode cX10_lacks 37 = .ok (.invokestatic 106, 3) := by decide +kernel
theorem dX10_lacks_40 : decode cX10_lacks 40 = .ok (.ifCond .eq 7, 3) := by decide +kernel
theorem dX10_lacks_43 : decode cX10_lacks 43 = .ok (.iconst 0, 1) := by decide +kernel
theorem dX10_lacks_44 : decode cX10_lacks 44 = .ok (.goto 4, 3) := by decide +kernel
theorem dX10_lacks_47 : decode cX10_lacks 47 = .ok (.iconst 2, 1) := by decide +kernel
theorem dX10_lacks_48 : decode cX10_lacks 48 = .ok (.ireturn, 1) := by decide +kernel
theorem dX10_keep_0 : decode cX10_keep 0 = .ok (.aload_n 0, 1) := by decide +kernel
theorem dX10_keep_1 : decode cX10_keep 1 = .ok (.getfield 98, 3) := by decide +kernel
theorem dX10_keep_4 : decode cX10_keep 4 = .ok (.bipush 60, 2) := by decide +kernel
theorem dX10_keep_6 : decode cX10_keep 6 = .ok (.iload_n 1, 1) := by decide +kernel
theorem dX10_keep_7 : decode cX10_keep 7 = .ok (.imul, 1) := by decide +kernel
theorem dX10_keep_8 : decode cX10_keep 8 = .ok (.iload_n 2, 1) := by decide +kernel
theorem dX10_keep_9 : decode cX10_keep 9 = .ok (.iadd, 1) := by decide +kernel
theorem dX10_keep_10 : decode cX10_keep 10 = .ok (.aload_n 0, 1) := by decide +kernel
theorem dX10_keep_11 : decode cX10_keep 11 = .ok (.getfield 92, 3) := by decide +kernel
theorem dX10_keep_14 : decode cX10_keep 14 = .ok (.iload_n 1, 1) := by decide +kernel
theorem dX10_keep_15 : decode cX10_keep 15 = .ok (.iaload, 1) := by decide +kernel
theorem dX10_keep_16 : decode cX10_keep 16 = .ok (.ifCond .ne 8, 3) := by decide +kernel
theorem dX10_keep_19 : decode cX10_keep 19 = .ok (.iload_n 3, 1) := by decide +kernel
theorem dX10_keep_20 : decode cX10_keep 20 = .ok (.i2b, 1) := by decide +kernel
theorem dX10_keep_21 : decode cX10_keep 21 = .ok (.goto 19, 3) := by decide +kernel
theorem dX10_keep_24 : decode cX10_keep 24 = .ok (.aload_n 0, 1) := by decide +kernel
theorem dX10_keep_25 : decode cX10_keep 25 = .ok (.getfield 92, 3) := by decide +kernel
theorem dX10_keep_28 : decode cX10_keep 28 = .ok (.iload_n 1, 1) := by decide +kernel
theorem dX10_keep_29 : decode cX10_keep 29 = .ok (.iaload, 1) := by decide +kernel
theorem dX10_keep_30 : decode cX10_keep 30 = .ok (.iconst 1, 1) := by decide +kernel
theorem dX10_keep_31 : decode cX10_keep 31 = .ok (.if_icmp .ne 8, 3) := by decide +kernel
theorem dX10_keep_34 : decode cX10_keep 34 = .ok (.iload_n 3, 1) := by decide +kernel
theorem dX10_keep_35 : decode cX10_keep 35 = .ok (.i2s, 1) := by decide +kernel
theorem dX10_keep_36 : decode cX10_keep 36 = .ok (.goto 4, 3) := by decide +kernel
theorem dX10_keep_39 : decode cX10_keep 39 = .ok (.iload_n 3, 1) := by decide +kernel
theorem dX10_keep_40 : decode cX10_keep 40 = .ok (.iastore, 1) := by decide +kernel
theorem dX10_keep_41 : decode cX10_keep 41 = .ok (.return_, 1) := by decide +kernel
theorem dX10_put_0 : decode cX10_put 0 = .ok (.iload_n 1, 1) := by decide +kernel
theorem dX10_put_1 : decode cX10_put 1 = .ok (.invokestatic 174, 3) := by decide +kernel
theorem dX10_put_4 : decode cX10_put 4 = .ok (.ifCond .eq 12, 3) := by decide +kernel
theorem dX10_put_7 : decode cX10_put 7 = .ok (.iload_n 2, 1) := by decide +kernel
theorem dX10_put_8 : decode cX10_put 8 = .ok (.iconst 0, 1) := by decide +kernel
theorem dX10_put_9 : decode cX10_put 9 = .ok (.iconst 2, 1) := by decide +kernel
theorem dX10_put_10 : decode cX10_put 10 = .ok (.invokestatic 106, 3) := by decide +kernel
theorem dX10_put_13 : decode cX10_put 13 = .ok (.ifCond .ne 6, 3) := by decide +kernel
theorem dX10_put_16 : decode cX10_put 16 = .ok (.bipush (-2), 2) := by decide +kernel
theorem dX10_put_18 : decode cX10_put 18 = .ok (.ireturn, 1) := by decide +kernel
theorem dX10_put_19 : decode cX10_put 19 = .ok (.aload_n 0, 1) := by decide +kernel
theorem dX10_put_20 : decode cX10_put 20 = .ok (.iload_n 1, 1) := by decide +kernel
theorem dX10_put_21 : decode cX10_put 21 = .ok (.iload_n 2, 1) := by decide +kernel
theorem dX10_put_22 : decode cX10_put 22 = .ok (.iload_n 3, 1) := by decide +kernel
theorem dX10_put_23 : decode cX10_put 23 = .ok (.invokevirtual 337, 3) := by decide +kernel
theorem dX10_put_26 : decode cX10_put 26 = .ok (.istore 5, 2) := by decide +kernel
theorem dX10_put_28 : decode cX10_put 28 = .ok (.iload 5, 2) := by decide +kernel
theorem dX10_put_30 : decode cX10_put 30 = .ok (.ifCond .le 10, 3) := by decide +kernel
theorem dX10_put_33 : decode cX10_put 33 = .ok (.aload_n 0, 1) := by decide +kernel
theorem dX10_put_34 : decode cX10_put 34 = .ok (.iload 5, 2) := by decide +kernel
theorem dX10_put_36 : decode cX10_put 36 = .ok (.invokevirtual 177, 3) := by decide +kernel
theorem dX10_put_39 : decode cX10_put 39 = .ok (.ireturn, 1) := by decide +kernel
theorem dX10_put_40 : decode cX10_put 40 = .ok (.aload_n 0, 1) := by decide +kernel
theorem dX10_put_41 : decode cX10_put 41 = .ok (.iload_n 1, 1) := by decide +kernel
theorem dX10_put_42 : decode cX10_put 42 = .ok (.iload_n 3, 1) := by decide +kernel
theorem dX10_put_43 : decode cX10_put 43 = .ok (.iload 4, 2) := by decide +kernel
theorem dX10_put_45 : decode cX10_put 45 = .ok (.invokevirtual 340, 3) := by decide +kernel
theorem dX10_put_48 : decode cX10_put 48 = .ok (.iconst 1, 1) := by decide +kernel
theorem dX10_put_49 : decode cX10_put 49 = .ok (.ireturn, 1) := by decide +kernel
theorem dX10_get_0 : decode cX10_get 0 = .ok (.iload_n 1, 1) := by decide +kernel
theorem dX10_get_1 : decode cX10_get 1 = .ok (.invokestatic 174, 3) := by decide +kernel
theorem dX10_get_4 : decode cX10_get 4 = .ok (.ifCond .eq 12, 3) := by decide +kernel
theorem dX10_get_7 : decode cX10_get 7 = .ok (.iload_n 2, 1) := by decide +kernel
theorem dX10_get_8 : decode cX10_get 8 = .ok (.iconst 0, 1) := by decide +kernel
theorem dX10_get_9 : decode cX10_get 9 = .ok (.iconst 2, 1) := by decide +kernel
theorem dX10_get_10 : decode cX10_get 10 = .ok (.invokestatic 106, 3) := by decide +kernel
theorem dX10_get_13 : decode cX10_get 13 = .ok (.ifCond .ne 7, 3) := by decide +kernel
theorem dX10_get_16 : decode cX10_get 16 = .ok (.ldc_w 344, 3) := by decide +kernel
theorem dX10_get_19 : decode cX10_get 19 = .ok (.ireturn, 1) := by decide +kernel
theorem dX10_get_20 : decode cX10_get 20 = .ok (.aload_n 0, 1) := by decide +kernel
theorem dX10_get_21 : decode cX10_get 21 = .ok (.iload_n 1, 1) := by decide +kernel
theorem dX10_get_22 : decode cX10_get 22 = .ok (.iload_n 2, 1) := by decide +kernel
theorem dX10_get_23 : decode cX10_get 23 = .ok (.iload_n 3, 1) := by decide +kernel
theorem dX10_get_24 : decode cX10_get 24 = .ok (.invokevirtual 337, 3) := by decide +kernel
theorem dX10_get_27 : decode cX10_get 27 = .ok (.istore 4, 2) := by decide +kernel
theorem dX10_get_29 : decode cX10_get 29 = .ok (.iload 4, 2) := by decide +kernel
theorem dX10_get_31 : decode cX10_get 31 = .ok (.ifCond .le 13, 3) := by decide +kernel
theorem dX10_get_34 : decode cX10_get 34 = .ok (.aload_n 0, 1) := by decide +kernel
theorem dX10_get_35 : decode cX10_get 35 = .ok (.iload 4, 2) := by decide +kernel
theorem dX10_get_37 : decode cX10_get 37 = .ok (.putfield 334, 3) := by decide +kernel
theorem dX10_get_40 : decode cX10_get 40 = .ok (.ldc_w 344, 3) := by decide +kernel
theorem dX10_get_43 : decode cX10_get 43 = .ok (.ireturn, 1) := by decide +kernel
theorem dX10_get_44 : decode cX10_get 44 = .ok (.aload_n 0, 1) := by decide +kernel
theorem dX10_get_45 : decode cX10_get 45 = .ok (.getfield 98, 3) := by decide +kernel
theorem dX10_get_48 : decode cX10_get 48 = .ok (.bipush 60, 2) := by decide +kernel
theorem dX10_get_50 : decode cX10_get 50 = .ok (.iload_n 1, 1) := by decide +kernel
theorem dX10_get_51 : decode cX10_get 51 = .ok (.imul, 1) := by decide +kernel
theorem dX10_get_52 : decode cX10_get 52 = .ok (.iload_n 3, 1) := by decide +kernel
theorem dX10_get_53 : decode cX10_get 53 = .ok (.iadd, 1) := by decide +kernel
theorem dX10_get_54 : decode cX10_get 54 = .ok (.iaload, 1) := by decide +kernel
theorem dX10_get_55 : decode cX10_get 55 = .ok (.ireturn, 1) := by decide +kernel
theorem dX10_copy_0 : decode cX10_copy 0 = .ok (.iload_n 1, 1) := by decide +kernel
theorem dX10_copy_1 : decode cX10_copy 1 = .ok (.invokestatic 174, 3) := by decide +kernel
theorem dX10_copy_4 : decode cX10_copy 4 = .ok (.ifCond .eq 10, 3) := by decide +kernel
theorem dX10_copy_7 : decode cX10_copy 7 = .ok (.iload_n 3, 1) := by decide +kernel
theorem dX10_copy_8 : decode cX10_copy 8 = .ok (.invokestatic 174, 3) := by decide +kernel
theorem dX10_copy_11 : decode cX10_copy 11 = .ok (.ifCond .ne 6, 3) := by decide +kernel
theorem dX10_copy_14 : decode cX10_copy 14 = .ok (.bipush (-2), 2) := by decide +kernel
theorem dX10_copy_16 : decode cX10_copy 16 = .ok (.ireturn, 1) := by decide +kernel
theorem dX10_copy_17 : decode cX10_copy 17 = .ok (.aload_n 0, 1) := by decide +kernel
theorem dX10_copy_18 : decode cX10_copy 18 = .ok (.getfield 88, 3) := by decide +kernel
theorem dX10_copy_21 : decode cX10_copy 21 = .ok (.iload_n 1, 1) := by decide +kernel
theorem dX10_copy_22 : decode cX10_copy 22 = .ok (.baload, 1) := by decide +kernel
theorem dX10_copy_23 : decode cX10_copy 23 = .ok (.ifCond .eq 12, 3) := by decide +kernel
theorem dX10_copy_26 : decode cX10_copy 26 = .ok (.aload_n 0, 1) := by decide +kernel
theorem dX10_copy_27 : decode cX10_copy 27 = .ok (.getfield 88, 3) := by decide +kernel
theorem dX10_copy_30 : decode cX10_copy 30 = .ok (.iload_n 3, 1) := by decide +kernel
theorem dX10_copy_31 : decode cX10_copy 31 = .ok (.baload, 1) := by decide +kernel
theorem dX10_copy_32 : decode cX10_copy 32 = .ok (.ifCond .ne 9, 3) := by decide +kernel
theorem dX10_copy_35 : decode cX10_copy 35 = .ok (.aload_n 0, 1) := by decide +kernel
theorem dX10_copy_36 : decode cX10_copy 36 = .ok (.iconst 1, 1) := by decide +kernel
theorem dX10_copy_37 : decode cX10_copy 37 = .ok (.invokevirtual 177, 3) := by decide +kernel
theorem dX10_copy_40 : decode cX10_copy 40 = .ok (.ireturn, 1) := by decide +kernel
theorem dX10_copy_41 : decode cX10_copy 41 = .ok (.aload_n 0, 1) := by decide +kernel
theorem dX10_copy_42 : decode cX10_copy 42 = .ok (.getfield 92, 3) := by decide +kernel
theorem dX10_copy_45 : decode cX10_copy 45 = .ok (.iload_n 1, 1) := by decide +kernel
theorem dX10_copy_46 : decode cX10_copy 46 = .ok (.iaload, 1) := by decide +kernel
theorem dX10_copy_47 : decode cX10_copy 47 = .ok (.aload_n 0, 1) := by decide +kernel
theorem dX10_copy_48 : decode cX10_copy 48 = .ok (.getfield 92, 3) := by decide +kernel
theorem dX10_copy_51 : decode cX10_copy 51 = .ok (.iload_n 3, 1) := by decide +kernel
theorem dX10_copy_52 : decode cX10_copy 52 = .ok (.iaload, 1) := by decide +kernel
theorem dX10_copy_53 : decode cX10_copy 53 = .ok (.if_icmp .eq 9, 3) := by decide +kernel
theorem dX10_copy_56 : decode cX10_copy 56 = .ok (.aload_n 0, 1) := by decide +kernel
theorem dX10_copy_57 : decode cX10_copy 57 = .ok (.iconst 4, 1) := by decide +kernel
theorem dX10_copy_58 : decode cX10_copy 58 = .ok (.invokevirtual 177, 3) := by decide +kernel
theorem dX10_copy_61 : decode cX10_copy 61 = .ok (.ireturn, 1) := by decide +kernel
theorem dX10_copy_62 : decode cX10_copy 62 = .ok (.iload_n 2, 1) := by decide +kernel
theorem dX10_copy_63 : decode cX10_copy 63 = .ok (.ifCond .lt 48, 3) := by decide +kernel
theorem dX10_copy_66 : decode cX10_copy 66 = .ok (.iload 4, 2) := by decide +kernel
theorem dX10_copy_68 : decode cX10_copy 68 = .ok (.ifCond .lt 43, 3) := by decide +kernel
theorem dX10_copy_71 : decode cX10_copy 71 = .ok (.iload 5, 2) := by decide +kernel
theorem dX10_copy_73 : decode cX10_copy 73 = .ok (.ifCond .lt 38, 3) := by decide +kernel
theorem dX10_copy_76 : decode cX10_copy 76 = .ok (.iload_n 2, 1) := by decide +kernel
theorem dX10_copy_77 : decode cX10_copy 77 = .ok (.i2l, 1) := by decide +kernel
theorem dX10_copy_78 : decode cX10_copy 78 = .ok (.iload 5, 2) := by decide +kernel
theorem dX10_copy_80 : decode cX10_copy 80 = .ok (.i2l, 1) := by decide +kernel
theorem dX10_copy_81 : decode cX10_copy 81 = .ok (.ladd, 1) := by decide +kernel
theorem dX10_copy_82 : decode cX10_copy 82 = .ok (.aload_n 0, 1) := by decide +kernel
theorem dX10_copy_83 : decode cX10_copy 83 = .ok (.getfield 95, 3) := by decide +kernel
theorem dX10_copy_86 : decode cX10_copy 86 = .ok (.iload_n 1, 1) := by decide +kernel
theorem dX10_copy_87 : decode cX10_copy 87 = .ok (.iaload, 1) := by decide +kernel
theorem dX10_copy_88 : decode cX10_copy 88 = .ok (.i2l, 1) := by decide +kernel
theorem dX10_copy_89 : decode cX10_copy 89 = .ok (.lcmp, 1) := by decide +kernel
theorem dX10_copy_90 : decode cX10_copy 90 = .ok (.ifCond .gt 21, 3) := by decide +kernel
theorem dX10_copy_93 : decode cX10_copy 93 = .ok (.iload 4, 2) := by decide +kernel
theorem dX10_copy_95 : decode cX10_copy 95 = .ok (.i2l, 1) := by decide +kernel
theorem dX10_copy_96 : decode cX10_copy 96 = .ok (.iload 5, 2) := by decide +kernel
theorem dX10_copy_98 : decode cX10_copy 98 = .ok (.i2l, 1) := by decide +kernel
theorem dX10_copy_99 : decode cX10_copy 99 = .ok (.ladd, 1) := by decide +kernel
theorem dX10_copy_100 : decode cX10_copy 100 = .ok (.aload_n 0, 1) := by decide +kernel
theorem dX10_copy_101 : decode cX10_copy 101 = .ok (.getfield 95, 3) := by decide +kernel
theorem dX10_copy_104 : decode cX10_copy 104 = .ok (.iload_n 3, 1) := by decide +kernel
theorem dX10_copy_105 : decode cX10_copy 105 = .ok (.iaload, 1) := by decide +kernel
theorem dX10_copy_106 : decode cX10_copy 106 = .ok (.i2l, 1) := by decide +kernel
theorem dX10_copy_107 : decode cX10_copy 107 = .ok (.lcmp, 1) := by decide +kernel
theorem dX10_copy_108 : decode cX10_copy 108 = .ok (.ifCond .le 9, 3) := by decide +kernel
theorem dX10_copy_111 : decode cX10_copy 111 = .ok (.aload_n 0, 1) := by decide +kernel
theorem dX10_copy_112 : decode cX10_copy 112 = .ok (.iconst 2, 1) := by decide +kernel
theorem dX10_copy_113 : decode cX10_copy 113 = .ok (.invokevirtual 177, 3) := by decide +kernel
theorem dX10_copy_116 : decode cX10_copy 116 = .ok (.ireturn, 1) := by decide +kernel
theorem dX10_copy_117 : decode cX10_copy 117 = .ok (.iconst 0, 1) := by decide +kernel
theorem dX10_copy_118 : decode cX10_copy 118 = .ok (.istore 6, 2) := by decide +kernel
theorem dX10_copy_120 : decode cX10_copy 120 = .ok (.iload 6, 2) := by decide +kernel
theorem dX10_copy_122 : decode cX10_copy 122 = .ok (.iload 5, 2) := by decide +kernel
theorem dX10_copy_124 : decode cX10_copy 124 = .ok (.if_icmp .ge 30, 3) := by decide +kernel
theorem dX10_copy_127 : decode cX10_copy 127 = .ok (.aload_n 0, 1) := by decide +kernel
theorem dX10_copy_128 : decode cX10_copy 128 = .ok (.getfield 101, 3) := by decide +kernel
theorem dX10_copy_131 : decode cX10_copy 131 = .ok (.iload 6, 2) := by decide +kernel
theorem dX10_copy_133 : decode cX10_copy 133 = .ok (.aload_n 0, 1) := by decide +kernel
theorem dX10_copy_134 : decode cX10_copy 134 = .ok (.getfield 98, 3) := by decide +kernel
theorem dX10_copy_137 : decode cX10_copy 137 = .ok (.bipush 60, 2) := by decide +kernel
theorem dX10_copy_139 : decode cX10_copy 139 = .ok (.iload_n 1, 1) := by decide +kernel
theorem dX10_copy_140 : decode cX10_copy 140 = .ok (.imul, 1) := by decide +kernel
theorem dX10_copy_141 : decode cX10_copy 141 = .ok (.iload_n 2, 1) := by decide +kernel
theorem dX10_copy_142 : decode cX10_copy 142 = .ok (.iadd, 1) := by decide +kernel
theorem dX10_copy_143 : decode cX10_copy 143 = .ok (.iload 6, 2) := by decide +kernel
theorem dX10_copy_145 : decode cX10_copy 145 = .ok (.iadd, 1) := by decide +kernel
theorem dX10_copy_146 : decode cX10_copy 146 = .ok (.iaload, 1) := by decide +kernel
theorem dX10_copy_147 : decode cX10_copy 147 = .ok (.iastore, 1) := by decide +kernel
theorem dX10_copy_148 : decode cX10_copy 148 = .ok (.iinc 6 1, 3) := by decide +kernel
theorem dX10_copy_151 : decode cX10_copy 151 = .ok (.goto (-31), 3) := by decide +kernel
theorem dX10_copy_154 : decode cX10_copy 154 = .ok (.iconst 0, 1) := by decide +kernel
theorem dX10_copy_155 : decode cX10_copy 155 = .ok (.istore 6, 2) := by decide +kernel
theorem dX10_copy_157 : decode cX10_copy 157 = .ok (.iload 6, 2) := by decide +kernel
theorem dX10_copy_159 : decode cX10_copy 159 = .ok (.iload 5, 2) := by decide +kernel
theorem dX10_copy_161 : decode cX10_copy 161 = .ok (.if_icmp .ge 31, 3) := by decide +kernel
theorem dX10_copy_164 : decode cX10_copy 164 = .ok (.aload_n 0, 1) := by decide +kernel
theorem dX10_copy_165 : decode cX10_copy 165 = .ok (.getfield 98, 3) := by decide +kernel
theorem dX10_copy_168 : decode cX10_copy 168 = .ok (.bipush 60, 2) := by decide +kernel
theorem dX10_copy_170 : decode cX10_copy 170 = .ok (.iload_n 3, 1) := by decide +kernel
theorem dX10_copy_171 : decode cX10_copy 171 = .ok (.imul, 1) := by decide +kernel
theorem dX10_copy_172 : decode cX10_copy 172 = .ok (.iload 4, 2) := by decide +kernel
theorem dX10_copy_174 : decode cX10_copy 174 = .ok (.iadd, 1) := by decide +kernel
theorem dX10_copy_175 : decode cX10_copy 175 = .ok (.iload 6, 2) := by decide +kernel
theorem dX10_copy_177 : decode cX10_copy 177 = .ok (.iadd, 1) := by decide +kernel
theorem dX10_copy_178 : decode cX10_copy 178 = .ok (.aload_n 0, 1) := by decide +kernel
theorem dX10_copy_179 : decode cX10_copy 179 = .ok (.getfield 101, 3) := by decide +kernel
theorem dX10_copy_182 : decode cX10_copy 182 = .ok (.iload 6, 2) := by decide +kernel
theorem dX10_copy_184 : decode cX10_copy 184 = .ok (.iaload, 1) := by decide +kernel
theorem dX10_copy_185 : decode cX10_copy 185 = .ok (.iastore, 1) := by decide +kernel
theorem dX10_copy_186 : decode cX10_copy 186 = .ok (.iinc 6 1, 3) := by decide +kernel
theorem dX10_copy_189 : decode cX10_copy 189 = .ok (.goto (-32), 3) := by decide +kernel
theorem dX10_copy_192 : decode cX10_copy 192 = .ok (.iconst 1, 1) := by decide +kernel
theorem dX10_copy_193 : decode cX10_copy 193 = .ok (.ireturn, 1) := by decide +kernel
theorem dX10_write_0 : decode cX10_write 0 = .ok (.aload_n 0, 1) := by decide +kernel
theorem dX10_write_1 : decode cX10_write 1 = .ok (.iload_n 1, 1) := by decide +kernel
theorem dX10_write_2 : decode cX10_write 2 = .ok (.invokevirtual 153, 3) := by decide +kernel
theorem dX10_write_5 : decode cX10_write 5 = .ok (.ifCond .eq 10, 3) := by decide +kernel
theorem dX10_write_8 : decode cX10_write 8 = .ok (.iload_n 2, 1) := by decide +kernel
theorem dX10_write_9 : decode cX10_write 9 = .ok (.invokestatic 174, 3) := by decide +kernel
theorem dX10_write_12 : decode cX10_write 12 = .ok (.ifCond .ne 6, 3) := by decide +kernel
theorem dX10_write_15 : decode cX10_write 15 = .ok (.bipush (-2), 2) := by decide +kernel
theorem dX10_write_17 : decode cX10_write 17 = .ok (.ireturn, 1) := by decide +kernel
theorem dX10_write_18 : decode cX10_write 18 = .ok (.aload_n 0, 1) := by decide +kernel
theorem dX10_write_19 : decode cX10_write 19 = .ok (.getfield 88, 3) := by decide +kernel
theorem dX10_write_22 : decode cX10_write 22 = .ok (.iload_n 2, 1) := by decide +kernel
theorem dX10_write_23 : decode cX10_write 23 = .ok (.baload, 1) := by decide +kernel
theorem dX10_write_24 : decode cX10_write 24 = .ok (.ifCond .ne 9, 3) := by decide +kernel
theorem dX10_write_27 : decode cX10_write 27 = .ok (.aload_n 0, 1) := by decide +kernel
theorem dX10_write_28 : decode cX10_write 28 = .ok (.iconst 1, 1) := by decide +kernel
theorem dX10_write_29 : decode cX10_write 29 = .ok (.invokevirtual 177, 3) := by decide +kernel
theorem dX10_write_32 : decode cX10_write 32 = .ok (.ireturn, 1) := by decide +kernel
theorem dX10_write_33 : decode cX10_write 33 = .ok (.aload_n 0, 1) := by decide +kernel
theorem dX10_write_34 : decode cX10_write 34 = .ok (.invokevirtual 235, 3) := by decide +kernel
theorem dX10_write_37 : decode cX10_write 37 = .ok (.iconst 0, 1) := by decide +kernel
theorem dX10_write_38 : decode cX10_write 38 = .ok (.istore_n 3, 1) := by decide +kernel
theorem dX10_write_39 : decode cX10_write 39 = .ok (.iload_n 3, 1) := by decide +kernel
theorem dX10_write_40 : decode cX10_write 40 = .ok (.aload_n 0, 1) := by decide +kernel
theorem dX10_write_41 : decode cX10_write 41 = .ok (.getfield 95, 3) := by decide +kernel
theorem dX10_write_44 : decode cX10_write 44 = .ok (.iload_n 2, 1) := by decide +kernel
theorem dX10_write_45 : decode cX10_write 45 = .ok (.iaload, 1) := by decide +kernel
theorem dX10_write_46 : decode cX10_write 46 = .ok (.if_icmp .ge 32, 3) := by decide +kernel
theorem dX10_write_49 : decode cX10_write 49 = .ok (.iload_n 3, 1) := by decide +kernel
theorem dX10_write_50 : decode cX10_write 50 = .ok (.bipush 24, 2) := by decide +kernel
theorem dX10_write_52 : decode cX10_write 52 = .ok (.if_icmp .ge 26, 3) := by decide +kernel
theorem dX10_write_55 : decode cX10_write 55 = .ok (.aload_n 0, 1) := by decide +kernel
theorem dX10_write_56 : decode cX10_write 56 = .ok (.iload_n 2, 1) := by decide +kernel
theorem dX10_write_57 : decode cX10_write 57 = .ok (.iload_n 3, 1) := by decide +kernel
theorem dX10_write_58 : decode cX10_write 58 = .ok (.aload_n 0, 1) := by decide +kernel
theorem dX10_write_59 : decode cX10_write 59 = .ok (.getfield 61, 3) := by decide +kernel
theorem dX10_write_62 : decode cX10_write 62 = .ok (.bipush 8, 2) := by decide +kernel
theorem dX10_write_64 : decode cX10_write 64 = .ok (.iload_n 3, 1) := by decide +kernel
theorem dX10_write_65 : decode cX10_write 65 = .ok (.imul, 1) := by decide +kernel
theorem dX10_write_66 : decode cX10_write 66 = .ok (.iload_n 1, 1) := by decide +kernel
theorem dX10_write_67 : decode cX10_write 67 = .ok (.iadd, 1) := by decide +kernel
theorem dX10_write_68 : decode cX10_write 68 = .ok (.iaload, 1) := by decide +kernel
theorem dX10_write_69 : decode cX10_write 69 = .ok (.invokevirtual 340, 3) := by decide +kernel
theorem dX10_write_72 : decode cX10_write 72 = .ok (.iinc 3 1, 3) := by decide +kernel
theorem dX10_write_75 : decode cX10_write 75 = .ok (.goto (-36), 3) := by decide +kernel
theorem dX10_write_78 : decode cX10_write 78 = .ok (.iload_n 3, 1) := by decide +kernel
theorem dX10_write_79 : decode cX10_write 79 = .ok (.ireturn, 1) := by decide +kernel
theorem dX10_sumOf_0 : decode cX10_sumOf 0 = .ok (.aload_n 0, 1) := by decide +kernel
theorem dX10_sumOf_1 : decode cX10_sumOf 1 = .ok (.invokevirtual 235, 3) := by decide +kernel
theorem dX10_sumOf_4 : decode cX10_sumOf 4 = .ok (.iload_n 1, 1) := by decide +kernel
theorem dX10_sumOf_5 : decode cX10_sumOf 5 = .ok (.ifCond .ne 10, 3) := by decide +kernel
theorem dX10_sumOf_8 : decode cX10_sumOf 8 = .ok (.aload_n 0, 1) := by decide +kernel
theorem dX10_sumOf_9 : decode cX10_sumOf 9 = .ok (.getfield 130, 3) := by decide +kernel
theorem dX10_sumOf_12 : decode cX10_sumOf 12 = .ok (.goto 31, 3) := by decide +kernel
theorem dX10_sumOf_15 : decode cX10_sumOf 15 = .ok (.iload_n 1, 1) := by decide +kernel
theorem dX10_sumOf_16 : decode cX10_sumOf 16 = .ok (.iconst 1, 1) := by decide +kernel
theorem dX10_sumOf_17 : decode cX10_sumOf 17 = .ok (.if_icmp .ne 10, 3) := by decide +kernel
theorem dX10_sumOf_20 : decode cX10_sumOf 20 = .ok (.aload_n 0, 1) := by decide +kernel
theorem dX10_sumOf_21 : decode cX10_sumOf 21 = .ok (.getfield 134, 3) := by decide +kernel
theorem dX10_sumOf_24 : decode cX10_sumOf 24 = .ok (.goto 19, 3) := by decide +kernel
theorem dX10_sumOf_27 : decode cX10_sumOf 27 = .ok (.iload_n 1, 1) := by decide +kernel
theorem dX10_sumOf_28 : decode cX10_sumOf 28 = .ok (.iconst 5, 1) := by decide +kernel
theorem dX10_sumOf_29 : decode cX10_sumOf 29 = .ok (.if_icmp .ne 10, 3) := by decide +kernel
theorem dX10_sumOf_32 : decode cX10_sumOf 32 = .ok (.aload_n 0, 1) := by decide +kernel
theorem dX10_sumOf_33 : decode cX10_sumOf 33 = .ok (.invokevirtual 275, 3) := by decide +kernel
theorem dX10_sumOf_36 : decode cX10_sumOf 36 = .ok (.goto 7, 3) := by decide +kernel
theorem dX10_sumOf_39 : decode cX10_sumOf 39 = .ok (.aload_n 0, 1) := by decide +kernel
theorem dX10_sumOf_40 : decode cX10_sumOf 40 = .ok (.getfield 197, 3) := by decide +kernel
theorem dX10_sumOf_43 : decode cX10_sumOf 43 = .ok (.ireturn, 1) := by decide +kernel
theorem dX10_count_0 : decode cX10_count 0 = .ok (.iload_n 1, 1) := by decide +kernel
theorem dX10_count_1 : decode cX10_count 1 = .ok (.tableswitch 81 0 8 #[51, 51, 57, 57, 66, 51, 51, 71, 76], 51) := by decide +kernel
theorem dX10_count_52 : decode cX10_count 52 = .ok (.aload_n 0, 1) := by decide +kernel
theorem dX10_count_53 : decode cX10_count 53 = .ok (.iload_n 1, 1) := by decide +kernel
theorem dX10_count_54 : decode cX10_count 54 = .ok (.invokevirtual 345, 3) := by decide +kernel
theorem dX10_count_57 : decode cX10_count 57 = .ok (.ireturn, 1) := by decide +kernel
theorem dX10_count_58 : decode cX10_count 58 = .ok (.aload_n 0, 1) := by decide +kernel
theorem dX10_count_59 : decode cX10_count 59 = .ok (.getfield 7, 3) := by decide +kernel
theorem dX10_count_62 : decode cX10_count 62 = .ok (.iload_n 1, 1) := by decide +kernel
theorem dX10_count_63 : decode cX10_count 63 = .ok (.iconst 2, 1) := by decide +kernel
theorem dX10_count_64 : decode cX10_count 64 = .ok (.isub, 1) := by decide +kernel
theorem dX10_count_65 : decode cX10_count 65 = .ok (.iaload, 1) := by decide +kernel
theorem dX10_count_66 : decode cX10_count 66 = .ok (.ireturn, 1) := by decide +kernel
theorem dX10_count_67 : decode cX10_count 67 = .ok (.aload_n 0, 1) := by decide +kernel
theorem dX10_count_68 : decode cX10_count 68 = .ok (.getfield 171, 3) := by decide +kernel
theorem dX10_count_71 : decode cX10_count 71 = .ok (.ireturn, 1) := by decide +kernel
theorem dX10_count_72 : decode cX10_count 72 = .ok (.aload_n 0, 1) := by decide +kernel
theorem dX10_count_73 : decode cX10_count 73 = .ok (.getfield 299, 3) := by decide +kernel
theorem dX10_count_76 : decode cX10_count 76 = .ok (.ireturn, 1) := by decide +kernel
theorem dX10_count_77 : decode cX10_count 77 = .ok (.aload_n 0, 1) := by decide +kernel
theorem dX10_count_78 : decode cX10_count 78 = .ok (.getfield 334, 3) := by decide +kernel
theorem dX10_count_81 : decode cX10_count 81 = .ok (.ireturn, 1) := by decide +kernel
theorem dX10_count_82 : decode cX10_count 82 = .ok (.bipush (-2), 2) := by decide +kernel
theorem dX10_count_84 : decode cX10_count 84 = .ok (.ireturn, 1) := by decide +kernel
theorem dX10_needDigest_0 : decode cX10_needDigest 0 = .ok (.lload_n 1, 1) := by decide +kernel
theorem dX10_needDigest_1 : decode cX10_needDigest 1 = .ok (.lstore 4, 2) := by decide +kernel
theorem dX10_needDigest_3 : decode cX10_needDigest 3 = .ok (.iconst 0, 1) := by decide +kernel
theorem dX10_needDigest_4 : decode cX10_needDigest 4 = .ok (.istore 6, 2) := by decide +kernel
theorem dX10_needDigest_6 : decode cX10_needDigest 6 = .ok (.iload 6, 2) := by decide +kernel
theorem dX10_needDigest_8 : decode cX10_needDigest 8 = .ok (.iconst 3, 1) := by decide +kernel
theorem dX10_needDigest_9 : decode cX10_needDigest 9 = .ok (.if_icmp .ge 26, 3) := by decide +kernel
theorem dX10_needDigest_12 : decode cX10_needDigest 12 = .ok (.ldc2_w 348, 3) := by decide +kernel
theorem dX10_needDigest_15 : decode cX10_needDigest 15 = .ok (.lload 4, 2) := by decide +kernel
theorem dX10_needDigest_17 : decode cX10_needDigest 17 = .ok (.lmul, 1) := by decide +kernel
theorem dX10_needDigest_18 : decode cX10_needDigest 18 = .ok (.aload_n 0, 1) := by decide +kernel
theorem dX10_needDigest_19 : decode cX10_needDigest 19 = .ok (.iload_n 3, 1) := by decide +kernel
theorem dX10_needDigest_20 : decode cX10_needDigest 20 = .ok (.iload 6, 2) := by decide +kernel
theorem dX10_needDigest_22 : decode cX10_needDigest 22 = .ok (.invokevirtual 165, 3) := by decide +kernel
theorem dX10_needDigest_25 : decode cX10_needDigest 25 = .ok (.i2l, 1) := by decide +kernel
theorem dX10_needDigest_26 : decode cX10_needDigest 26 = .ok (.ladd, 1) := by decide +kernel
theorem dX10_needDigest_27 : decode cX10_needDigest 27 = .ok (.lstore 4, 2) := by decide +kernel
theorem dX10_needDigest_29 : decode cX10_needDigest 29 = .ok (.iinc 6 1, 3) := by decide +kernel
theorem dX10_needDigest_32 : decode cX10_needDigest 32 = .ok (.goto (-26), 3) := by decide +kernel
theorem dX10_needDigest_35 : decode cX10_needDigest 35 = .ok (.ldc2_w 348, 3) := by decide +kernel
theorem dX10_needDigest_38 : decode cX10_needDigest 38 = .ok (.lload 4, 2) := by decide +kernel
theorem dX10_needDigest_40 : decode cX10_needDigest 40 = .ok (.lmul, 1) := by decide +kernel
theorem dX10_needDigest_41 : decode cX10_needDigest 41 = .ok (.aload_n 0, 1) := by decide +kernel
theorem dX10_needDigest_42 : decode cX10_needDigest 42 = .ok (.iload_n 3, 1) := by decide +kernel
theorem dX10_needDigest_43 : decode cX10_needDigest 43 = .ok (.invokevirtual 250, 3) := by decide +kernel
theorem dX10_needDigest_46 : decode cX10_needDigest 46 = .ok (.i2l, 1) := by decide +kernel
theorem dX10_needDigest_47 : decode cX10_needDigest 47 = .ok (.ladd, 1) := by decide +kernel
theorem dX10_needDigest_48 : decode cX10_needDigest 48 = .ok (.lstore 4, 2) := by decide +kernel
theorem dX10_needDigest_50 : decode cX10_needDigest 50 = .ok (.ldc2_w 348, 3) := by decide +kernel
theorem dX10_needDigest_53 : decode cX10_needDigest 53 = .ok (.lload 4, 2) := by decide +kernel
theorem dX10_needDigest_55 : decode cX10_needDigest 55 = .ok (.lmul, 1) := by decide +kernel
theorem dX10_needDigest_56 : decode cX10_needDigest 56 = .ok (.aload_n 0, 1) := by decide +kernel
theorem dX10_needDigest_57 : decode cX10_needDigest 57 = .ok (.iconst 5, 1) := by decide +kernel
theorem dX10_needDigest_58 : decode cX10_needDigest 58 = .ok (.iload_n 3, 1) := by decide +kernel
theorem dX10_needDigest_59 : decode cX10_needDigest 59 = .ok (.iconst 0, 1) := by decide +kernel
theorem dX10_needDigest_60 : decode cX10_needDigest 60 = .ok (.invokevirtual 322, 3) := by decide +kernel
theorem dX10_needDigest_63 : decode cX10_needDigest 63 = .ok (.ladd, 1) := by decide +kernel
theorem dX10_needDigest_64 : decode cX10_needDigest 64 = .ok (.lstore 4, 2) := by decide +kernel
theorem dX10_needDigest_66 : decode cX10_needDigest 66 = .ok (.ldc2_w 348, 3) := by decide +kernel
theorem dX10_needDigest_69 : decode cX10_needDigest 69 = .ok (.lload 4, 2) := by decide +kernel
theorem dX10_needDigest_71 : decode cX10_needDigest 71 = .ok (.lmul, 1) := by decide +kernel
theorem dX10_needDigest_72 : decode cX10_needDigest 72 = .ok (.aload_n 0, 1) := by decide +kernel
theorem dX10_needDigest_73 : decode cX10_needDigest 73 = .ok (.iconst 5, 1) := by decide +kernel
theorem dX10_needDigest_74 : decode cX10_needDigest 74 = .ok (.iload_n 3, 1) := by decide +kernel
theorem dX10_needDigest_75 : decode cX10_needDigest 75 = .ok (.iconst 1, 1) := by decide +kernel
theorem dX10_needDigest_76 : decode cX10_needDigest 76 = .ok (.invokevirtual 322, 3) := by decide +kernel
theorem dX10_needDigest_79 : decode cX10_needDigest 79 = .ok (.ladd, 1) := by decide +kernel
theorem dX10_needDigest_80 : decode cX10_needDigest 80 = .ok (.lreturn, 1) := by decide +kernel
theorem dX10_nightDigest_0 : decode cX10_nightDigest 0 = .ok (.lload_n 1, 1) := by decide +kernel
theorem dX10_nightDigest_1 : decode cX10_nightDigest 1 = .ok (.lstore 5, 2) := by decide +kernel
theorem dX10_nightDigest_3 : decode cX10_nightDigest 3 = .ok (.iconst 0, 1) := by decide +kernel
theorem dX10_nightDigest_4 : decode cX10_nightDigest 4 = .ok (.istore 7, 2) := by decide +kernel
theorem dX10_nightDigest_6 : decode cX10_nightDigest 6 = .ok (.iload 7, 2) := by decide +kernel
theorem dX10_nightDigest_8 : decode cX10_nightDigest 8 = .ok (.iconst 3, 1) := by decide +kernel
theorem dX10_nightDigest_9 : decode cX10_nightDigest 9 = .ok (.if_icmp .ge 28, 3) := by decide +kernel
theorem dX10_nightDigest_12 : decode cX10_nightDigest 12 = .ok (.ldc2_w 348, 3) := by decide +kernel
theorem dX10_nightDigest_15 : decode cX10_nightDigest 15 = .ok (.lload 5, 2) := by decide +kernel
theorem dX10_nightDigest_17 : decode cX10_nightDigest 17 = .ok (.lmul, 1) := by decide +kernel
theorem dX10_nightDigest_18 : decode cX10_nightDigest 18 = .ok (.aload_n 0, 1) := by decide +kernel
theorem dX10_nightDigest_19 : decode cX10_nightDigest 19 = .ok (.iload_n 3, 1) := by decide +kernel
theorem dX10_nightDigest_20 : decode cX10_nightDigest 20 = .ok (.iload 4, 2) := by decide +kernel
theorem dX10_nightDigest_22 : decode cX10_nightDigest 22 = .ok (.iload 7, 2) := by decide +kernel
theorem dX10_nightDigest_24 : decode cX10_nightDigest 24 = .ok (.invokevirtual 238, 3) := by decide +kernel
theorem dX10_nightDigest_27 : decode cX10_nightDigest 27 = .ok (.i2l, 1) := by decide +kernel
theorem dX10_nightDigest_28 : decode cX10_nightDigest 28 = .ok (.ladd, 1) := by decide +kernel
theorem dX10_nightDigest_29 : decode cX10_nightDigest 29 = .ok (.lstore 5, 2) := by decide +kernel
theorem dX10_nightDigest_31 : decode cX10_nightDigest 31 = .ok (.iinc 7 1, 3) := by decide +kernel
theorem dX10_nightDigest_34 : decode cX10_nightDigest 34 = .ok (.goto (-28), 3) := by decide +kernel
theorem dX10_nightDigest_37 : decode cX10_nightDigest 37 = .ok (.lload 5, 2) := by decide +kernel
theorem dX10_nightDigest_39 : decode cX10_nightDigest 39 = .ok (.lreturn, 1) := by decide +kernel
theorem dX10_goneDigest_0 : decode cX10_goneDigest 0 = .ok (.lload_n 1, 1) := by decide +kernel
theorem dX10_goneDigest_1 : decode cX10_goneDigest 1 = .ok (.lstore 4, 2) := by decide +kernel
theorem dX10_goneDigest_3 : decode cX10_goneDigest 3 = .ok (.iconst 0, 1) := by decide +kernel
theorem dX10_goneDigest_4 : decode cX10_goneDigest 4 = .ok (.istore 6, 2) := by decide +kernel
theorem dX10_goneDigest_6 : decode cX10_goneDigest 6 = .ok (.iload 6, 2) := by decide +kernel
theorem dX10_goneDigest_8 : decode cX10_goneDigest 8 = .ok (.iconst 4, 1) := by decide +kernel
theorem dX10_goneDigest_9 : decode cX10_goneDigest 9 = .ok (.if_icmp .ge 26, 3) := by decide +kernel
theorem dX10_goneDigest_12 : decode cX10_goneDigest 12 = .ok (.ldc2_w 348, 3) := by decide +kernel
theorem dX10_goneDigest_15 : decode cX10_goneDigest 15 = .ok (.lload 4, 2) := by decide +kernel
theorem dX10_goneDigest_17 : decode cX10_goneDigest 17 = .ok (.lmul, 1) := by decide +kernel
theorem dX10_goneDigest_18 : decode cX10_goneDigest 18 = .ok (.aload_n 0, 1) := by decide +kernel
theorem dX10_goneDigest_19 : decode cX10_goneDigest 19 = .ok (.iload_n 3, 1) := by decide +kernel
theorem dX10_goneDigest_20 : decode cX10_goneDigest 20 = .ok (.iload 6, 2) := by decide +kernel
theorem dX10_goneDigest_22 : decode cX10_goneDigest 22 = .ok (.invokevirtual 156, 3) := by decide +kernel
theorem dX10_goneDigest_25 : decode cX10_goneDigest 25 = .ok (.i2l, 1) := by decide +kernel
theorem dX10_goneDigest_26 : decode cX10_goneDigest 26 = .ok (.ladd, 1) := by decide +kernel
theorem dX10_goneDigest_27 : decode cX10_goneDigest 27 = .ok (.lstore 4, 2) := by decide +kernel
theorem dX10_goneDigest_29 : decode cX10_goneDigest 29 = .ok (.iinc 6 1, 3) := by decide +kernel
theorem dX10_goneDigest_32 : decode cX10_goneDigest 32 = .ok (.goto (-26), 3) := by decide +kernel
theorem dX10_goneDigest_35 : decode cX10_goneDigest 35 = .ok (.aload_n 0, 1) := by decide +kernel
theorem dX10_goneDigest_36 : decode cX10_goneDigest 36 = .ok (.lload 4, 2) := by decide +kernel
theorem dX10_goneDigest_38 : decode cX10_goneDigest 38 = .ok (.iconst 0, 1) := by decide +kernel
theorem dX10_goneDigest_39 : decode cX10_goneDigest 39 = .ok (.iload_n 3, 1) := by decide +kernel
theorem dX10_goneDigest_40 : decode cX10_goneDigest 40 = .ok (.invokevirtual 350, 3) := by decide +kernel
theorem dX10_goneDigest_43 : decode cX10_goneDigest 43 = .ok (.lstore 4, 2) := by decide +kernel
theorem dX10_goneDigest_45 : decode cX10_goneDigest 45 = .ok (.aload_n 0, 1) := by decide +kernel
theorem dX10_goneDigest_46 : decode cX10_goneDigest 46 = .ok (.lload 4, 2) := by decide +kernel
theorem dX10_goneDigest_48 : decode cX10_goneDigest 48 = .ok (.bipush 7, 2) := by decide +kernel
theorem dX10_goneDigest_50 : decode cX10_goneDigest 50 = .ok (.iload_n 3, 1) := by decide +kernel
theorem dX10_goneDigest_51 : decode cX10_goneDigest 51 = .ok (.invokevirtual 350, 3) := by decide +kernel
theorem dX10_goneDigest_54 : decode cX10_goneDigest 54 = .ok (.lstore 4, 2) := by decide +kernel
theorem dX10_goneDigest_56 : decode cX10_goneDigest 56 = .ok (.aload_n 0, 1) := by decide +kernel
theorem dX10_goneDigest_57 : decode cX10_goneDigest 57 = .ok (.lload 4, 2) := by decide +kernel
theorem dX10_goneDigest_59 : decode cX10_goneDigest 59 = .ok (.bipush 15, 2) := by decide +kernel
theorem dX10_goneDigest_61 : decode cX10_goneDigest 61 = .ok (.iload_n 3, 1) := by decide +kernel
theorem dX10_goneDigest_62 : decode cX10_goneDigest 62 = .ok (.invokevirtual 350, 3) := by decide +kernel
theorem dX10_goneDigest_65 : decode cX10_goneDigest 65 = .ok (.lstore 4, 2) := by decide +kernel
theorem dX10_goneDigest_67 : decode cX10_goneDigest 67 = .ok (.aload_n 0, 1) := by decide +kernel
theorem dX10_goneDigest_68 : decode cX10_goneDigest 68 = .ok (.lload 4, 2) := by decide +kernel
theorem dX10_goneDigest_70 : decode cX10_goneDigest 70 = .ok (.bipush 23, 2) := by decide +kernel
theorem dX10_goneDigest_72 : decode cX10_goneDigest 72 = .ok (.iload_n 3, 1) := by decide +kernel
theorem dX10_goneDigest_73 : decode cX10_goneDigest 73 = .ok (.invokevirtual 350, 3) := by decide +kernel
theorem dX10_goneDigest_76 : decode cX10_goneDigest 76 = .ok (.lstore 4, 2) := by decide +kernel
theorem dX10_goneDigest_78 : decode cX10_goneDigest 78 = .ok (.ldc2_w 348, 3) := by decide +kernel
theorem dX10_goneDigest_81 : decode cX10_goneDigest 81 = .ok (.lload 4, 2) := by decide +kernel
theorem dX10_goneDigest_83 : decode cX10_goneDigest 83 = .ok (.lmul, 1) := by decide +kernel
theorem dX10_goneDigest_84 : decode cX10_goneDigest 84 = .ok (.aload_n 0, 1) := by decide +kernel
theorem dX10_goneDigest_85 : decode cX10_goneDigest 85 = .ok (.iload_n 3, 1) := by decide +kernel
theorem dX10_goneDigest_86 : decode cX10_goneDigest 86 = .ok (.invokevirtual 256, 3) := by decide +kernel
theorem dX10_goneDigest_89 : decode cX10_goneDigest 89 = .ok (.i2l, 1) := by decide +kernel
theorem dX10_goneDigest_90 : decode cX10_goneDigest 90 = .ok (.ladd, 1) := by decide +kernel
theorem dX10_goneDigest_91 : decode cX10_goneDigest 91 = .ok (.lstore 4, 2) := by decide +kernel
theorem dX10_goneDigest_93 : decode cX10_goneDigest 93 = .ok (.iconst 0, 1) := by decide +kernel
theorem dX10_goneDigest_94 : decode cX10_goneDigest 94 = .ok (.istore 6, 2) := by decide +kernel
theorem dX10_goneDigest_96 : decode cX10_goneDigest 96 = .ok (.iload 6, 2) := by decide +kernel
theorem dX10_goneDigest_98 : decode cX10_goneDigest 98 = .ok (.iconst 3, 1) := by decide +kernel
theorem dX10_goneDigest_99 : decode cX10_goneDigest 99 = .ok (.if_icmp .ge 26, 3) := by decide +kernel
theorem dX10_goneDigest_102 : decode cX10_goneDigest 102 = .ok (.ldc2_w 348, 3) := by decide +kernel
theorem dX10_goneDigest_105 : decode cX10_goneDigest 105 = .ok (.lload 4, 2) := by decide +kernel
theorem dX10_goneDigest_107 : decode cX10_goneDigest 107 = .ok (.lmul, 1) := by decide +kernel
theorem dX10_goneDigest_108 : decode cX10_goneDigest 108 = .ok (.aload_n 0, 1) := by decide +kernel
theorem dX10_goneDigest_109 : decode cX10_goneDigest 109 = .ok (.iload_n 3, 1) := by decide +kernel
theorem dX10_goneDigest_110 : decode cX10_goneDigest 110 = .ok (.iload 6, 2) := by decide +kernel
theorem dX10_goneDigest_112 : decode cX10_goneDigest 112 = .ok (.invokevirtual 284, 3) := by decide +kernel
theorem dX10_goneDigest_115 : decode cX10_goneDigest 115 = .ok (.i2l, 1) := by decide +kernel
theorem dX10_goneDigest_116 : decode cX10_goneDigest 116 = .ok (.ladd, 1) := by decide +kernel
theorem dX10_goneDigest_117 : decode cX10_goneDigest 117 = .ok (.lstore 4, 2) := by decide +kernel
theorem dX10_goneDigest_119 : decode cX10_goneDigest 119 = .ok (.iinc 6 1, 3) := by decide +kernel
theorem dX10_goneDigest_122 : decode cX10_goneDigest 122 = .ok (.goto (-26), 3) := by decide +kernel
theorem dX10_goneDigest_125 : decode cX10_goneDigest 125 = .ok (.ldc2_w 348, 3) := by decide +kernel
theorem dX10_goneDigest_128 : decode cX10_goneDigest 128 = .ok (.lload 4, 2) := by decide +kernel
theorem dX10_goneDigest_130 : decode cX10_goneDigest 130 = .ok (.lmul, 1) := by decide +kernel
theorem dX10_goneDigest_131 : decode cX10_goneDigest 131 = .ok (.aload_n 0, 1) := by decide +kernel
theorem dX10_goneDigest_132 : decode cX10_goneDigest 132 = .ok (.iload_n 3, 1) := by decide +kernel
theorem dX10_goneDigest_133 : decode cX10_goneDigest 133 = .ok (.invokevirtual 309, 3) := by decide +kernel
theorem dX10_goneDigest_136 : decode cX10_goneDigest 136 = .ok (.i2l, 1) := by decide +kernel
theorem dX10_goneDigest_137 : decode cX10_goneDigest 137 = .ok (.ladd, 1) := by decide +kernel
theorem dX10_goneDigest_138 : decode cX10_goneDigest 138 = .ok (.lstore 4, 2) := by decide +kernel
theorem dX10_goneDigest_140 : decode cX10_goneDigest 140 = .ok (.ldc2_w 348, 3) := by decide +kernel
theorem dX10_goneDigest_143 : decode cX10_goneDigest 143 = .ok (.lload 4, 2) := by decide +kernel
theorem dX10_goneDigest_145 : decode cX10_goneDigest 145 = .ok (.lmul, 1) := by decide +kernel
theorem dX10_goneDigest_146 : decode cX10_goneDigest 146 = .ok (.aload_n 0, 1) := by decide +kernel
theorem dX10_goneDigest_147 : decode cX10_goneDigest 147 = .ok (.iload_n 3, 1) := by decide +kernel
theorem dX10_goneDigest_148 : decode cX10_goneDigest 148 = .ok (.invokevirtual 312, 3) := by decide +kernel
theorem dX10_goneDigest_151 : decode cX10_goneDigest 151 = .ok (.i2l, 1) := by decide +kernel
theorem dX10_goneDigest_152 : decode cX10_goneDigest 152 = .ok (.ladd, 1) := by decide +kernel
theorem dX10_goneDigest_153 : decode cX10_goneDigest 153 = .ok (.lstore 4, 2) := by decide +kernel
theorem dX10_goneDigest_155 : decode cX10_goneDigest 155 = .ok (.ldc2_w 348, 3) := by decide +kernel
theorem dX10_goneDigest_158 : decode cX10_goneDigest 158 = .ok (.lload 4, 2) := by decide +kernel
theorem dX10_goneDigest_160 : decode cX10_goneDigest 160 = .ok (.lmul, 1) := by decide +kernel
theorem dX10_goneDigest_161 : decode cX10_goneDigest 161 = .ok (.aload_n 0, 1) := by decide +kernel
theorem dX10_goneDigest_162 : decode cX10_goneDigest 162 = .ok (.iload_n 3, 1) := by decide +kernel
theorem dX10_goneDigest_163 : decode cX10_goneDigest 163 = .ok (.invokevirtual 315, 3) := by decide +kernel
theorem dX10_goneDigest_166 : decode cX10_goneDigest 166 = .ok (.i2l, 1) := by decide +kernel
theorem dX10_goneDigest_167 : decode cX10_goneDigest 167 = .ok (.ladd, 1) := by decide +kernel
theorem dX10_goneDigest_168 : decode cX10_goneDigest 168 = .ok (.lreturn, 1) := by decide +kernel
theorem dX10_digest_0 : decode cX10_digest 0 = .ok (.ldc2_w 354, 3) := by decide +kernel
theorem dX10_digest_3 : decode cX10_digest 3 = .ok (.lstore_n 1, 1) := by decide +kernel
theorem dX10_digest_4 : decode cX10_digest 4 = .ok (.iconst 0, 1) := by decide +kernel
theorem dX10_digest_5 : decode cX10_digest 5 = .ok (.istore_n 3, 1) := by decide +kernel
theorem dX10_digest_6 : decode cX10_digest 6 = .ok (.iload_n 3, 1) := by decide +kernel
theorem dX10_digest_7 : decode cX10_digest 7 = .ok (.bipush 8, 2) := by decide +kernel
theorem dX10_digest_9 : decode cX10_digest 9 = .ok (.if_icmp .ge 22, 3) := by decide +kernel
theorem dX10_digest_12 : decode cX10_digest 12 = .ok (.ldc2_w 348, 3) := by decide +kernel
theorem dX10_digest_15 : decode cX10_digest 15 = .ok (.lload_n 1, 1) := by decide +kernel
theorem dX10_digest_16 : decode cX10_digest 16 = .ok (.lmul, 1) := by decide +kernel
theorem dX10_digest_17 : decode cX10_digest 17 = .ok (.aload_n 0, 1) := by decide +kernel
theorem dX10_digest_18 : decode cX10_digest 18 = .ok (.iload_n 3, 1) := by decide +kernel
theorem dX10_digest_19 : decode cX10_digest 19 = .ok (.invokevirtual 356, 3) := by decide +kernel
theorem dX10_digest_22 : decode cX10_digest 22 = .ok (.i2l, 1) := by decide +kernel
theorem dX10_digest_23 : decode cX10_digest 23 = .ok (.ladd, 1) := by decide +kernel
theorem dX10_digest_24 : decode cX10_digest 24 = .ok (.lstore_n 1, 1) := by decide +kernel
theorem dX10_digest_25 : decode cX10_digest 25 = .ok (.iinc 3 1, 3) := by decide +kernel
theorem dX10_digest_28 : decode cX10_digest 28 = .ok (.goto (-22), 3) := by decide +kernel
theorem dX10_digest_31 : decode cX10_digest 31 = .ok (.ldc2_w 348, 3) := by decide +kernel
theorem dX10_digest_34 : decode cX10_digest 34 = .ok (.lload_n 1, 1) := by decide +kernel
theorem dX10_digest_35 : decode cX10_digest 35 = .ok (.lmul, 1) := by decide +kernel
theorem dX10_digest_36 : decode cX10_digest 36 = .ok (.aload_n 0, 1) := by decide +kernel
theorem dX10_digest_37 : decode cX10_digest 37 = .ok (.iconst 0, 1) := by decide +kernel
theorem dX10_digest_38 : decode cX10_digest 38 = .ok (.invokevirtual 147, 3) := by decide +kernel
theorem dX10_digest_41 : decode cX10_digest 41 = .ok (.i2l, 1) := by decide +kernel
theorem dX10_digest_42 : decode cX10_digest 42 = .ok (.ladd, 1) := by decide +kernel
theorem dX10_digest_43 : decode cX10_digest 43 = .ok (.lstore_n 1, 1) := by decide +kernel
theorem dX10_digest_44 : decode cX10_digest 44 = .ok (.ldc2_w 348, 3) := by decide +kernel
theorem dX10_digest_47 : decode cX10_digest 47 = .ok (.lload_n 1, 1) := by decide +kernel
theorem dX10_digest_48 : decode cX10_digest 48 = .ok (.lmul, 1) := by decide +kernel
theorem dX10_digest_49 : decode cX10_digest 49 = .ok (.aload_n 0, 1) := by decide +kernel
theorem dX10_digest_50 : decode cX10_digest 50 = .ok (.iconst 1, 1) := by decide +kernel
theorem dX10_digest_51 : decode cX10_digest 51 = .ok (.invokevirtual 147, 3) := by decide +kernel
theorem dX10_digest_54 : decode cX10_digest 54 = .ok (.i2l, 1) := by decide +kernel
theorem dX10_digest_55 : decode cX10_digest 55 = .ok (.ladd, 1) := by decide +kernel
theorem dX10_digest_56 : decode cX10_digest 56 = .ok (.lstore_n 1, 1) := by decide +kernel
theorem dX10_digest_57 : decode cX10_digest 57 = .ok (.iconst 0, 1) := by decide +kernel
theorem dX10_digest_58 : decode cX10_digest 58 = .ok (.istore_n 3, 1) := by decide +kernel
theorem dX10_digest_59 : decode cX10_digest 59 = .ok (.iload_n 3, 1) := by decide +kernel
theorem dX10_digest_60 : decode cX10_digest 60 = .ok (.aload_n 0, 1) := by decide +kernel
theorem dX10_digest_61 : decode cX10_digest 61 = .ok (.getfield 134, 3) := by decide +kernel
theorem dX10_digest_64 : decode cX10_digest 64 = .ok (.if_icmp .ge 16, 3) := by decide +kernel
theorem dX10_digest_67 : decode cX10_digest 67 = .ok (.aload_n 0, 1) := by decide +kernel
theorem dX10_digest_68 : decode cX10_digest 68 = .ok (.lload_n 1, 1) := by decide +kernel
theorem dX10_digest_69 : decode cX10_digest 69 = .ok (.iload_n 3, 1) := by decide +kernel
theorem dX10_digest_70 : decode cX10_digest 70 = .ok (.invokevirtual 359, 3) := by decide +kernel
theorem dX10_digest_73 : decode cX10_digest 73 = .ok (.lstore_n 1, 1) := by decide +kernel
theorem dX10_digest_74 : decode cX10_digest 74 = .ok (.iinc 3 1, 3) := by decide +kernel
theorem dX10_digest_77 : decode cX10_digest 77 = .ok (.goto (-18), 3) := by decide +kernel
theorem dX10_digest_80 : decode cX10_digest 80 = .ok (.iconst 0, 1) := by decide +kernel
theorem dX10_digest_81 : decode cX10_digest 81 = .ok (.istore_n 3, 1) := by decide +kernel
theorem dX10_digest_82 : decode cX10_digest 82 = .ok (.iload_n 3, 1) := by decide +kernel
theorem dX10_digest_83 : decode cX10_digest 83 = .ok (.aload_n 0, 1) := by decide +kernel
theorem dX10_digest_84 : decode cX10_digest 84 = .ok (.getfield 130, 3) := by decide +kernel
theorem dX10_digest_87 : decode cX10_digest 87 = .ok (.if_icmp .ge 16, 3) := by decide +kernel
theorem dX10_digest_90 : decode cX10_digest 90 = .ok (.aload_n 0, 1) := by decide +kernel
theorem dX10_digest_91 : decode cX10_digest 91 = .ok (.lload_n 1, 1) := by decide +kernel
theorem dX10_digest_92 : decode cX10_digest 92 = .ok (.iload_n 3, 1) := by decide +kernel
theorem dX10_digest_93 : decode cX10_digest 93 = .ok (.invokevirtual 363, 3) := by decide +kernel
theorem dX10_digest_96 : decode cX10_digest 96 = .ok (.lstore_n 1, 1) := by decide +kernel
theorem dX10_digest_97 : decode cX10_digest 97 = .ok (.iinc 3 1, 3) := by decide +kernel
theorem dX10_digest_100 : decode cX10_digest 100 = .ok (.goto (-18), 3) := by decide +kernel
theorem dX10_digest_103 : decode cX10_digest 103 = .ok (.iconst 0, 1) := by decide +kernel
theorem dX10_digest_104 : decode cX10_digest 104 = .ok (.istore_n 3, 1) := by decide +kernel
theorem dX10_digest_105 : decode cX10_digest 105 = .ok (.iload_n 3, 1) := by decide +kernel
theorem dX10_digest_106 : decode cX10_digest 106 = .ok (.bipush 24, 2) := by decide +kernel
theorem dX10_digest_108 : decode cX10_digest 108 = .ok (.if_icmp .ge 37, 3) := by decide +kernel
theorem dX10_digest_111 : decode cX10_digest 111 = .ok (.ldc2_w 348, 3) := by decide +kernel
theorem dX10_digest_114 : decode cX10_digest 114 = .ok (.lload_n 1, 1) := by decide +kernel
theorem dX10_digest_115 : decode cX10_digest 115 = .ok (.lmul, 1) := by decide +kernel
theorem dX10_digest_116 : decode cX10_digest 116 = .ok (.aload_n 0, 1) := by decide +kernel
theorem dX10_digest_117 : decode cX10_digest 117 = .ok (.iload_n 3, 1) := by decide +kernel
theorem dX10_digest_118 : decode cX10_digest 118 = .ok (.iconst 0, 1) := by decide +kernel
theorem dX10_digest_119 : decode cX10_digest 119 = .ok (.invokevirtual 247, 3) := by decide +kernel
theorem dX10_digest_122 : decode cX10_digest 122 = .ok (.i2l, 1) := by decide +kernel
theorem dX10_digest_123 : decode cX10_digest 123 = .ok (.ladd, 1) := by decide +kernel
theorem dX10_digest_124 : decode cX10_digest 124 = .ok (.lstore_n 1, 1) := by decide +kernel
theorem dX10_digest_125 : decode cX10_digest 125 = .ok (.ldc2_w 348, 3) := by decide +kernel
theorem dX10_digest_128 : decode cX10_digest 128 = .ok (.lload_n 1, 1) := by decide +kernel
theorem dX10_digest_129 : decode cX10_digest 129 = .ok (.lmul, 1) := by decide +kernel
theorem dX10_digest_130 : decode cX10_digest 130 = .ok (.aload_n 0, 1) := by decide +kernel
theorem dX10_digest_131 : decode cX10_digest 131 = .ok (.iload_n 3, 1) := by decide +kernel
theorem dX10_digest_132 : decode cX10_digest 132 = .ok (.iconst 1, 1) := by decide +kernel
theorem dX10_digest_133 : decode cX10_digest 133 = .ok (.invokevirtual 247, 3) := by decide +kernel
theorem dX10_digest_136 : decode cX10_digest 136 = .ok (.i2l, 1) := by decide +kernel
theorem dX10_digest_137 : decode cX10_digest 137 = .ok (.ladd, 1) := by decide +kernel
theorem dX10_digest_138 : decode cX10_digest 138 = .ok (.lstore_n 1, 1) := by decide +kernel
theorem dX10_digest_139 : decode cX10_digest 139 = .ok (.iinc 3 1, 3) := by decide +kernel
theorem dX10_digest_142 : decode cX10_digest 142 = .ok (.goto (-37), 3) := by decide +kernel
theorem dX10_digest_145 : decode cX10_digest 145 = .ok (.iconst 0, 1) := by decide +kernel
theorem dX10_digest_146 : decode cX10_digest 146 = .ok (.istore_n 3, 1) := by decide +kernel
theorem dX10_digest_147 : decode cX10_digest 147 = .ok (.iload_n 3, 1) := by decide +kernel
theorem dX10_digest_148 : decode cX10_digest 148 = .ok (.bipush 6, 2) := by decide +kernel
theorem dX10_digest_150 : decode cX10_digest 150 = .ok (.if_icmp .ge 37, 3) := by decide +kernel
theorem dX10_digest_153 : decode cX10_digest 153 = .ok (.ldc2_w 348, 3) := by decide +kernel
theorem dX10_digest_156 : decode cX10_digest 156 = .ok (.lload_n 1, 1) := by decide +kernel
theorem dX10_digest_157 : decode cX10_digest 157 = .ok (.lmul, 1) := by decide +kernel
theorem dX10_digest_158 : decode cX10_digest 158 = .ok (.aload_n 0, 1) := by decide +kernel
theorem dX10_digest_159 : decode cX10_digest 159 = .ok (.iload_n 3, 1) := by decide +kernel
theorem dX10_digest_160 : decode cX10_digest 160 = .ok (.iconst 0, 1) := by decide +kernel
theorem dX10_digest_161 : decode cX10_digest 161 = .ok (.invokevirtual 287, 3) := by decide +kernel
theorem dX10_digest_164 : decode cX10_digest 164 = .ok (.i2l, 1) := by decide +kernel
theorem dX10_digest_165 : decode cX10_digest 165 = .ok (.ladd, 1) := by decide +kernel
theorem dX10_digest_166 : decode cX10_digest 166 = .ok (.lstore_n 1, 1) := by decide +kernel
theorem dX10_digest_167 : decode cX10_digest 167 = .ok (.ldc2_w 348, 3) := by decide +kernel
theorem dX10_digest_170 : decode cX10_digest 170 = .ok (.lload_n 1, 1) := by decide +kernel
theorem dX10_digest_171 : decode cX10_digest 171 = .ok (.lmul, 1) := by decide +kernel
theorem dX10_digest_172 : decode cX10_digest 172 = .ok (.aload_n 0, 1) := by decide +kernel
theorem dX10_digest_173 : decode cX10_digest 173 = .ok (.iload_n 3, 1) := by decide +kernel
theorem dX10_digest_174 : decode cX10_digest 174 = .ok (.iconst 1, 1) := by decide +kernel
theorem dX10_digest_175 : decode cX10_digest 175 = .ok (.invokevirtual 287, 3) := by decide +kernel
theorem dX10_digest_178 : decode cX10_digest 178 = .ok (.i2l, 1) := by decide +kernel
theorem dX10_digest_179 : decode cX10_digest 179 = .ok (.ladd, 1) := by decide +kernel
theorem dX10_digest_180 : decode cX10_digest 180 = .ok (.lstore_n 1, 1) := by decide +kernel
theorem dX10_digest_181 : decode cX10_digest 181 = .ok (.iinc 3 1, 3) := by decide +kernel
theorem dX10_digest_184 : decode cX10_digest 184 = .ok (.goto (-37), 3) := by decide +kernel
theorem dX10_digest_187 : decode cX10_digest 187 = .ok (.ldc2_w 348, 3) := by decide +kernel
theorem dX10_digest_190 : decode cX10_digest 190 = .ok (.lload_n 1, 1) := by decide +kernel
theorem dX10_digest_191 : decode cX10_digest 191 = .ok (.lmul, 1) := by decide +kernel
theorem dX10_digest_192 : decode cX10_digest 192 = .ok (.aload_n 0, 1) := by decide +kernel
theorem dX10_digest_193 : decode cX10_digest 193 = .ok (.iconst 0, 1) := by decide +kernel
theorem dX10_digest_194 : decode cX10_digest 194 = .ok (.invokevirtual 263, 3) := by decide +kernel
theorem dX10_digest_197 : decode cX10_digest 197 = .ok (.i2l, 1) := by decide +kernel
theorem dX10_digest_198 : decode cX10_digest 198 = .ok (.ladd, 1) := by decide +kernel
theorem dX10_digest_199 : decode cX10_digest 199 = .ok (.lstore_n 1, 1) := by decide +kernel
theorem dX10_digest_200 : decode cX10_digest 200 = .ok (.ldc2_w 348, 3) := by decide +kernel
theorem dX10_digest_203 : decode cX10_digest 203 = .ok (.lload_n 1, 1) := by decide +kernel
theorem dX10_digest_204 : decode cX10_digest 204 = .ok (.lmul, 1) := by decide +kernel
theorem dX10_digest_205 : decode cX10_digest 205 = .ok (.aload_n 0, 1) := by decide +kernel
theorem dX10_digest_206 : decode cX10_digest 206 = .ok (.iconst 1, 1) := by decide +kernel
theorem dX10_digest_207 : decode cX10_digest 207 = .ok (.invokevirtual 263, 3) := by decide +kernel
theorem dX10_digest_210 : decode cX10_digest 210 = .ok (.i2l, 1) := by decide +kernel
theorem dX10_digest_211 : decode cX10_digest 211 = .ok (.ladd, 1) := by decide +kernel
theorem dX10_digest_212 : decode cX10_digest 212 = .ok (.lstore_n 1, 1) := by decide +kernel
theorem dX10_digest_213 : decode cX10_digest 213 = .ok (.ldc2_w 348, 3) := by decide +kernel
theorem dX10_digest_216 : decode cX10_digest 216 = .ok (.lload_n 1, 1) := by decide +kernel
theorem dX10_digest_217 : decode cX10_digest 217 = .ok (.lmul, 1) := by decide +kernel
theorem dX10_digest_218 : decode cX10_digest 218 = .ok (.aload_n 0, 1) := by decide +kernel
theorem dX10_digest_219 : decode cX10_digest 219 = .ok (.invokevirtual 266, 3) := by decide +kernel
theorem dX10_digest_222 : decode cX10_digest 222 = .ok (.i2l, 1) := by decide +kernel
theorem dX10_digest_223 : decode cX10_digest 223 = .ok (.ladd, 1) := by decide +kernel
theorem dX10_digest_224 : decode cX10_digest 224 = .ok (.lstore_n 1, 1) := by decide +kernel
theorem dX10_digest_225 : decode cX10_digest 225 = .ok (.ldc2_w 348, 3) := by decide +kernel
theorem dX10_digest_228 : decode cX10_digest 228 = .ok (.lload_n 1, 1) := by decide +kernel
theorem dX10_digest_229 : decode cX10_digest 229 = .ok (.lmul, 1) := by decide +kernel
theorem dX10_digest_230 : decode cX10_digest 230 = .ok (.aload_n 0, 1) := by decide +kernel
theorem dX10_digest_231 : decode cX10_digest 231 = .ok (.invokevirtual 269, 3) := by decide +kernel
theorem dX10_digest_234 : decode cX10_digest 234 = .ok (.i2l, 1) := by decide +kernel
theorem dX10_digest_235 : decode cX10_digest 235 = .ok (.ladd, 1) := by decide +kernel
theorem dX10_digest_236 : decode cX10_digest 236 = .ok (.lstore_n 1, 1) := by decide +kernel
theorem dX10_digest_237 : decode cX10_digest 237 = .ok (.ldc2_w 348, 3) := by decide +kernel
theorem dX10_digest_240 : decode cX10_digest 240 = .ok (.lload_n 1, 1) := by decide +kernel
theorem dX10_digest_241 : decode cX10_digest 241 = .ok (.lmul, 1) := by decide +kernel
theorem dX10_digest_242 : decode cX10_digest 242 = .ok (.aload_n 0, 1) := by decide +kernel
theorem dX10_digest_243 : decode cX10_digest 243 = .ok (.bipush 8, 2) := by decide +kernel
theorem dX10_digest_245 : decode cX10_digest 245 = .ok (.iconst 0, 1) := by decide +kernel
theorem dX10_digest_246 : decode cX10_digest 246 = .ok (.invokevirtual 278, 3) := by decide +kernel
theorem dX10_digest_249 : decode cX10_digest 249 = .ok (.i2l, 1) := by decide +kernel
theorem dX10_digest_250 : decode cX10_digest 250 = .ok (.ladd, 1) := by decide +kernel
theorem dX10_digest_251 : decode cX10_digest 251 = .ok (.lstore_n 1, 1) := by decide +kernel
theorem dX10_digest_252 : decode cX10_digest 252 = .ok (.ldc2_w 348, 3) := by decide +kernel
theorem dX10_digest_255 : decode cX10_digest 255 = .ok (.lload_n 1, 1) := by decide +kernel
theorem dX10_digest_256 : decode cX10_digest 256 = .ok (.lmul, 1) := by decide +kernel
theorem dX10_digest_257 : decode cX10_digest 257 = .ok (.aload_n 0, 1) := by decide +kernel
theorem dX10_digest_258 : decode cX10_digest 258 = .ok (.bipush 8, 2) := by decide +kernel
theorem dX10_digest_260 : decode cX10_digest 260 = .ok (.iconst 1, 1) := by decide +kernel
theorem dX10_digest_261 : decode cX10_digest 261 = .ok (.invokevirtual 278, 3) := by decide +kernel
theorem dX10_digest_264 : decode cX10_digest 264 = .ok (.i2l, 1) := by decide +kernel
theorem dX10_digest_265 : decode cX10_digest 265 = .ok (.ladd, 1) := by decide +kernel
theorem dX10_digest_266 : decode cX10_digest 266 = .ok (.lstore_n 1, 1) := by decide +kernel
theorem dX10_digest_267 : decode cX10_digest 267 = .ok (.aload_n 0, 1) := by decide +kernel
theorem dX10_digest_268 : decode cX10_digest 268 = .ok (.invokevirtual 293, 3) := by decide +kernel
theorem dX10_digest_271 : decode cX10_digest 271 = .ok (.istore_n 3, 1) := by decide +kernel
theorem dX10_digest_272 : decode cX10_digest 272 = .ok (.ldc2_w 348, 3) := by decide +kernel
theorem dX10_digest_275 : decode cX10_digest 275 = .ok (.lload_n 1, 1) := by decide +kernel
theorem dX10_digest_276 : decode cX10_digest 276 = .ok (.lmul, 1) := by decide +kernel
theorem dX10_digest_277 : decode cX10_digest 277 = .ok (.iload_n 3, 1) := by decide +kernel
theorem dX10_digest_278 : decode cX10_digest 278 = .ok (.i2l, 1) := by decide +kernel
theorem dX10_digest_279 : decode cX10_digest 279 = .ok (.ladd, 1) := by decide +kernel
theorem dX10_digest_280 : decode cX10_digest 280 = .ok (.lstore_n 1, 1) := by decide +kernel
theorem dX10_digest_281 : decode cX10_digest 281 = .ok (.ldc2_w 348, 3) := by decide +kernel
theorem dX10_digest_284 : decode cX10_digest 284 = .ok (.lload_n 1, 1) := by decide +kernel
theorem dX10_digest_285 : decode cX10_digest 285 = .ok (.lmul, 1) := by decide +kernel
theorem dX10_digest_286 : decode cX10_digest 286 = .ok (.aload_n 0, 1) := by decide +kernel
theorem dX10_digest_287 : decode cX10_digest 287 = .ok (.iload_n 3, 1) := by decide +kernel
theorem dX10_digest_288 : decode cX10_digest 288 = .ok (.iconst 0, 1) := by decide +kernel
theorem dX10_digest_289 : decode cX10_digest 289 = .ok (.invokevirtual 296, 3) := by decide +kernel
theorem dX10_digest_292 : decode cX10_digest 292 = .ok (.i2l, 1) := by decide +kernel
theorem dX10_digest_293 : decode cX10_digest 293 = .ok (.ladd, 1) := by decide +kernel
theorem dX10_digest_294 : decode cX10_digest 294 = .ok (.lstore_n 1, 1) := by decide +kernel
theorem dX10_digest_295 : decode cX10_digest 295 = .ok (.ldc2_w 348, 3) := by decide +kernel
theorem dX10_digest_298 : decode cX10_digest 298 = .ok (.lload_n 1, 1) := by decide +kernel
theorem dX10_digest_299 : decode cX10_digest 299 = .ok (.lmul, 1) := by decide +kernel
theorem dX10_digest_300 : decode cX10_digest 300 = .ok (.aload_n 0, 1) := by decide +kernel
theorem dX10_digest_301 : decode cX10_digest 301 = .ok (.invokevirtual 306, 3) := by decide +kernel
theorem dX10_digest_304 : decode cX10_digest 304 = .ok (.i2l, 1) := by decide +kernel
theorem dX10_digest_305 : decode cX10_digest 305 = .ok (.ladd, 1) := by decide +kernel
theorem dX10_digest_306 : decode cX10_digest 306 = .ok (.lstore_n 1, 1) := by decide +kernel
theorem dX10_digest_307 : decode cX10_digest 307 = .ok (.ldc2_w 348, 3) := by decide +kernel
theorem dX10_digest_310 : decode cX10_digest 310 = .ok (.lload_n 1, 1) := by decide +kernel
theorem dX10_digest_311 : decode cX10_digest 311 = .ok (.lmul, 1) := by decide +kernel
theorem dX10_digest_312 : decode cX10_digest 312 = .ok (.aload_n 0, 1) := by decide +kernel
theorem dX10_digest_313 : decode cX10_digest 313 = .ok (.bipush 7, 2) := by decide +kernel
theorem dX10_digest_315 : decode cX10_digest 315 = .ok (.bipush 6, 2) := by decide +kernel
theorem dX10_digest_317 : decode cX10_digest 317 = .ok (.iconst 0, 1) := by decide +kernel
theorem dX10_digest_318 : decode cX10_digest 318 = .ok (.invokevirtual 331, 3) := by decide +kernel
theorem dX10_digest_321 : decode cX10_digest 321 = .ok (.i2l, 1) := by decide +kernel
theorem dX10_digest_322 : decode cX10_digest 322 = .ok (.ladd, 1) := by decide +kernel
theorem dX10_digest_323 : decode cX10_digest 323 = .ok (.lstore_n 1, 1) := by decide +kernel
theorem dX10_digest_324 : decode cX10_digest 324 = .ok (.ldc2_w 348, 3) := by decide +kernel
theorem dX10_digest_327 : decode cX10_digest 327 = .ok (.lload_n 1, 1) := by decide +kernel
theorem dX10_digest_328 : decode cX10_digest 328 = .ok (.lmul, 1) := by decide +kernel
theorem dX10_digest_329 : decode cX10_digest 329 = .ok (.aload_n 0, 1) := by decide +kernel
theorem dX10_digest_330 : decode cX10_digest 330 = .ok (.bipush 7, 2) := by decide +kernel
theorem dX10_digest_332 : decode cX10_digest 332 = .ok (.bipush 6, 2) := by decide +kernel
theorem dX10_digest_334 : decode cX10_digest 334 = .ok (.iconst 1, 1) := by decide +kernel
theorem dX10_digest_335 : decode cX10_digest 335 = .ok (.invokevirtual 331, 3) := by decide +kernel
theorem dX10_digest_338 : decode cX10_digest 338 = .ok (.i2l, 1) := by decide +kernel
theorem dX10_digest_339 : decode cX10_digest 339 = .ok (.ladd, 1) := by decide +kernel
theorem dX10_digest_340 : decode cX10_digest 340 = .ok (.lreturn, 1) := by decide +kernel
