theorem dX11_init_0 : decode cX11_init 0 = .ok (.aload_n 0, 1) := by decide +kernel
theorem dX11_init_1 : decode cX11_init 1 = .ok (.invokespecial 1, 3) := by decide +kernel
theorem dX11_init_4 : decode cX11_init 4 = .ok (.aload_n 0, 1) := by decide +kernel
theorem dX11_init_5 : decode cX11_init 5 = .ok (.sipush 1062, 3) := by decide +kernel
theorem dX11_init_8 : decode cX11_init 8 = .ok (.newarray .int, 2) := by decide +kernel
theorem dX11_init_10 : decode cX11_init 10 = .ok (.putfield 7, 3) := by decide +kernel
theorem dX11_init_13 : decode cX11_init 13 = .ok (.aload_n 0, 1) := by decide +kernel
theorem dX11_init_14 : decode cX11_init 14 = .ok (.sipush 1062, 3) := by decide +kernel
theorem dX11_init_17 : decode cX11_init 17 = .ok (.newarray .int, 2) := by decide +kernel
theorem dX11_init_19 : decode cX11_init 19 = .ok (.putfield 13, 3) := by decide +kernel
theorem dX11_init_22 : decode cX11_init 22 = .ok (.aload_n 0, 1) := by decide +kernel
theorem dX11_init_23 : decode cX11_init 23 = .ok (.sipush 8496, 3) := by decide +kernel
theorem dX11_init_26 : decode cX11_init 26 = .ok (.newarray .int, 2) := by decide +kernel
theorem dX11_init_28 : decode cX11_init 28 = .ok (.putfield 16, 3) := by decide +kernel
theorem dX11_init_31 : decode cX11_init 31 = .ok (.aload_n 0, 1) := by decide +kernel
theorem dX11_init_32 : decode cX11_init 32 = .ok (.sipush 2124, 3) := by decide +kernel
theorem dX11_init_35 : decode cX11_init 35 = .ok (.newarray .int, 2) := by decide +kernel
theorem dX11_init_37 : decode cX11_init 37 = .ok (.putfield 19, 3) := by decide +kernel
theorem dX11_init_40 : decode cX11_init 40 = .ok (.aload_n 0, 1) := by decide +kernel
theorem dX11_init_41 : decode cX11_init 41 = .ok (.bipush 7, 2) := by decide +kernel
theorem dX11_init_43 : decode cX11_init 43 = .ok (.newarray .int, 2) := by decide +kernel
theorem dX11_init_45 : decode cX11_init 45 = .ok (.putfield 22, 3) := by decide +kernel
theorem dX11_init_48 : decode cX11_init 48 = .ok (.aload_n 0, 1) := by decide +kernel
theorem dX11_init_49 : decode cX11_init 49 = .ok (.iconst 2, 1) := by decide +kernel
theorem dX11_init_50 : decode cX11_init 50 = .ok (.newarray .boolean, 2) := by decide +kernel
theorem dX11_init_52 : decode cX11_init 52 = .ok (.putfield 25, 3) := by decide +kernel
theorem dX11_init_55 : decode cX11_init 55 = .ok (.aload_n 0, 1) := by decide +kernel
theorem dX11_init_56 : decode cX11_init 56 = .ok (.bipush 64, 2) := by decide +kernel
theorem dX11_init_58 : decode cX11_init 58 = .ok (.newarray .int, 2) := by decide +kernel
theorem dX11_init_60 : decode cX11_init 60 = .ok (.putfield 29, 3) := by decide +kernel
theorem dX11_init_63 : decode cX11_init 63 = .ok (.aload_n 0, 1) := by decide +kernel
theorem dX11_init_64 : decode cX11_init 64 = .ok (.bipush 64, 2) := by decide +kernel
theorem dX11_init_66 : decode cX11_init 66 = .ok (.newarray .int, 2) := by decide +kernel
theorem dX11_init_68 : decode cX11_init 68 = .ok (.putfield 32, 3) := by decide +kernel
theorem dX11_init_71 : decode cX11_init 71 = .ok (.aload_n 0, 1) := by decide +kernel
theorem dX11_init_72 : decode cX11_init 72 = .ok (.bipush 64, 2) := by decide +kernel
theorem dX11_init_74 : decode cX11_init 74 = .ok (.newarray .int, 2) := by decide +kernel
theorem dX11_init_76 : decode cX11_init 76 = .ok (.putfield 35, 3) := by decide +kernel
theorem dX11_init_79 : decode cX11_init 79 = .ok (.aload_n 0, 1) := by decide +kernel
theorem dX11_init_80 : decode cX11_init 80 = .ok (.bipush 64, 2) := by decide +kernel
theorem dX11_init_82 : decode cX11_init 82 = .ok (.newarray .int, 2) := by decide +kernel
theorem dX11_init_84 : decode cX11_init 84 = .ok (.putfield 38, 3) := by decide +kernel
theorem dX11_init_87 : decode cX11_init 87 = .ok (.aload_n 0, 1) := by decide +kernel
theorem dX11_init_88 : decode cX11_init 88 = .ok (.bipush 64, 2) := by decide +kernel
theorem dX11_init_90 : decode cX11_init 90 = .ok (.newarray .int, 2) := by decide +kernel
theorem dX11_init_92 : decode cX11_init 92 = .ok (.putfield 41, 3) := by decide +kernel
theorem dX11_init_95 : decode cX11_init 95 = .ok (.aload_n 0, 1) := by decide +kernel
theorem dX11_init_96 : decode cX11_init 96 = .ok (.bipush 64, 2) := by decide +kernel
theorem dX11_init_98 : decode cX11_init 98 = .ok (.newarray .int, 2) := by decide +kernel
theorem dX11_init_100 : decode cX11_init 100 = .ok (.putfield 44, 3) := by decide +kernel
theorem dX11_init_103 : decode cX11_init 103 = .ok (.aload_n 0, 1) := by decide +kernel
theorem dX11_init_104 : decode cX11_init 104 = .ok (.bipush 64, 2) := by decide +kernel
theorem dX11_init_106 : decode cX11_init 106 = .ok (.newarray .int, 2) := by decide +kernel
theorem dX11_init_108 : decode cX11_init 108 = .ok (.putfield 47, 3) := by decide +kernel
theorem dX11_init_111 : decode cX11_init 111 = .ok (.aload_n 0, 1) := by decide +kernel
theorem dX11_init_112 : decode cX11_init 112 = .ok (.sipush 256, 3) := by decide +kernel
theorem dX11_init_115 : decode cX11_init 115 = .ok (.newarray .int, 2) := by decide +kernel
theorem dX11_init_117 : decode cX11_init 117 = .ok (.putfield 50, 3) := by decide +kernel
theorem dX11_init_120 : decode cX11_init 120 = .ok (.aload_n 0, 1) := by decide +kernel
theorem dX11_init_121 : decode cX11_init 121 = .ok (.sipush 256, 3) := by decide +kernel
theorem dX11_init_124 : decode cX11_init 124 = .ok (.newarray .int, 2) := by decide +kernel
theorem dX11_init_126 : decode cX11_init 126 = .ok (.putfield 53, 3) := by decide +kernel
theorem dX11_init_129 : decode cX11_init 129 = .ok (.aload_n 0, 1) := by decide +kernel
theorem dX11_init_130 : decode cX11_init 130 = .ok (.bipush 8, 2) := by decide +kernel
theorem dX11_init_132 : decode cX11_init 132 = .ok (.newarray .int, 2) := by decide +kernel
theorem dX11_init_134 : decode cX11_init 134 = .ok (.putfield 56, 3) := by decide +kernel
theorem dX11_init_137 : decode cX11_init 137 = .ok (.aload_n 0, 1) := by decide +kernel
theorem dX11_init_138 : decode cX11_init 138 = .ok (.bipush 8, 2) := by decide +kernel
theorem dX11_init_140 : decode cX11_init 140 = .ok (.newarray .int, 2) := by decide +kernel
theorem dX11_init_142 : decode cX11_init 142 = .ok (.putfield 59, 3) := by decide +kernel
theorem dX11_init_145 : decode cX11_init 145 = .ok (.aload_n 0, 1) := by decide +kernel
theorem dX11_init_146 : decode cX11_init 146 = .ok (.bipush 8, 2) := by decide +kernel
theorem dX11_init_148 : decode cX11_init 148 = .ok (.newarray .int, 2) := by decide +kernel
theorem dX11_init_150 : decode cX11_init 150 = .ok (.putfield 62, 3) := by decide +kernel
theorem dX11_init_153 : decode cX11_init 153 = .ok (.aload_n 0, 1) := by decide +kernel
theorem dX11_init_154 : decode cX11_init 154 = .ok (.bipush 64, 2) := by decide +kernel
theorem dX11_init_156 : decode cX11_init 156 = .ok (.newarray .int, 2) := by decide +kernel
theorem dX11_init_158 : decode cX11_init 158 = .ok (.putfield 65, 3) := by decide +kernel
theorem dX11_init_161 : decode cX11_init 161 = .ok (.aload_n 0, 1) := by decide +kernel
theorem dX11_init_162 : decode cX11_init 162 = .ok (.bipush 64, 2) := by decide +kernel
theorem dX11_init_164 : decode cX11_init 164 = .ok (.newarray .int, 2) := by decide +kernel
theorem dX11_init_166 : decode cX11_init 166 = .ok (.putfield 68, 3) := by decide +kernel
theorem dX11_init_169 : decode cX11_init 169 = .ok (.aload_n 0, 1) := by decide +kernel
theorem dX11_init_170 : decode cX11_init 170 = .ok (.sipush 4096, 3) := by decide +kernel
theorem dX11_init_173 : decode cX11_init 173 = .ok (.newarray .int, 2) := by decide +kernel
theorem dX11_init_175 : decode cX11_init 175 = .ok (.putfield 71, 3) := by decide +kernel
theorem dX11_init_178 : decode cX11_init 178 = .ok (.aload_n 0, 1) := by decide +kernel
theorem dX11_init_179 : decode cX11_init 179 = .ok (.sipush 500, 3) := by decide +kernel
theorem dX11_init_182 : decode cX11_init 182 = .ok (.newarray .int, 2) := by decide +kernel
theorem dX11_init_184 : decode cX11_init 184 = .ok (.putfield 74, 3) := by decide +kernel
theorem dX11_init_187 : decode cX11_init 187 = .ok (.aload_n 0, 1) := by decide +kernel
theorem dX11_init_188 : decode cX11_init 188 = .ok (.iconst (-1), 1) := by decide +kernel
theorem dX11_init_189 : decode cX11_init 189 = .ok (.putfield 77, 3) := by decide +kernel
theorem dX11_init_192 : decode cX11_init 192 = .ok (.aload_n 0, 1) := by decide +kernel
theorem dX11_init_193 : decode cX11_init 193 = .ok (.sipush 256, 3) := by decide +kernel
theorem dX11_init_196 : decode cX11_init 196 = .ok (.newarray .int, 2) := by decide +kernel
theorem dX11_init_198 : decode cX11_init 198 = .ok (.putfield 81, 3) := by decide +kernel
theorem dX11_init_201 : decode cX11_init 201 = .ok (.aload_n 0, 1) := by decide +kernel
theorem dX11_init_202 : decode cX11_init 202 = .ok (.sipush 500, 3) := by decide +kernel
theorem dX11_init_205 : decode cX11_init 205 = .ok (.newarray .int, 2) := by decide +kernel
theorem dX11_init_207 : decode cX11_init 207 = .ok (.putfield 84, 3) := by decide +kernel
theorem dX11_init_210 : decode cX11_init 210 = .ok (.aload_n 0, 1) := by decide +kernel
theorem dX11_init_211 : decode cX11_init 211 = .ok (.bipush 64, 2) := by decide +kernel
theorem dX11_init_213 : decode cX11_init 213 = .ok (.newarray .int, 2) := by decide +kernel
theorem dX11_init_215 : decode cX11_init 215 = .ok (.putfield 87, 3) := by decide +kernel
theorem dX11_init_218 : decode cX11_init 218 = .ok (.aload_n 0, 1) := by decide +kernel
theorem dX11_init_219 : decode cX11_init 219 = .ok (.bipush 64, 2) := by decide +kernel
theorem dX11_init_221 : decode cX11_init 221 = .ok (.newarray .int, 2) := by decide +kernel
theorem dX11_init_223 : decode cX11_init 223 = .ok (.putfield 90, 3) := by decide +kernel
theorem dX11_init_226 : decode cX11_init 226 = .ok (.aload_n 0, 1) := by decide +kernel
theorem dX11_init_227 : decode cX11_init 227 = .ok (.bipush 64, 2) := by decide +kernel
theorem dX11_init_229 : decode cX11_init 229 = .ok (.newarray .int, 2) := by decide +kernel
theorem dX11_init_231 : decode cX11_init 231 = .ok (.putfield 93, 3) := by decide +kernel
theorem dX11_init_234 : decode cX11_init 234 = .ok (.aload_n 0, 1) := by decide +kernel
theorem dX11_init_235 : decode cX11_init 235 = .ok (.sipush 256, 3) := by decide +kernel
theorem dX11_init_238 : decode cX11_init 238 = .ok (.newarray .int, 2) := by decide +kernel
theorem dX11_init_240 : decode cX11_init 240 = .ok (.putfield 96, 3) := by decide +kernel
theorem dX11_init_243 : decode cX11_init 243 = .ok (.aload_n 0, 1) := by decide +kernel
theorem dX11_init_244 : decode cX11_init 244 = .ok (.sipush 1200, 3) := by decide +kernel
theorem dX11_init_247 : decode cX11_init 247 = .ok (.newarray .int, 2) := by decide +kernel
theorem dX11_init_249 : decode cX11_init 249 = .ok (.putfield 99, 3) := by decide +kernel
theorem dX11_init_252 : decode cX11_init 252 = .ok (.aload_n 0, 1) := by decide +kernel
theorem dX11_init_253 : decode cX11_init 253 = .ok (.invokevirtual 102, 3) := by decide +kernel
theorem dX11_init_256 : decode cX11_init 256 = .ok (.return_, 1) := by decide +kernel
theorem dX11_thrown_0 : decode cX11_thrown 0 = .ok (.aload_n 0, 1) := by decide +kernel
theorem dX11_thrown_1 : decode cX11_thrown 1 = .ok (.getfield 105, 3) := by decide +kernel
theorem dX11_thrown_4 : decode cX11_thrown 4 = .ok (.ireturn, 1) := by decide +kernel
theorem dX11_isIn_0 : decode cX11_isIn 0 = .ok (.iload_n 0, 1) := by decide +kernel
theorem dX11_isIn_1 : decode cX11_isIn 1 = .ok (.iload_n 1, 1) := by decide +kernel
theorem dX11_isIn_2 : decode cX11_isIn 2 = .ok (.if_icmp .lt 12, 3) := by decide +kernel
theorem dX11_isIn_5 : decode cX11_isIn 5 = .ok (.iload_n 0, 1) := by decide +kernel
theorem dX11_isIn_6 : decode cX11_isIn 6 = .ok (.iload_n 2, 1) := by decide +kernel
theorem dX11_isIn_7 : decode cX11_isIn 7 = .ok (.if_icmp .gt 7, 3) := by decide +kernel
theorem dX11_isIn_10 : decode cX11_isIn 10 = .ok (.iconst 1, 1) := by decide +kernel
theorem dX11_isIn_11 : decode cX11_isIn 11 = .ok (.goto 4, 3) := by decide +kernel
theorem dX11_isIn_14 : decode cX11_isIn 14 = .ok (.iconst 0, 1) := by decide +kernel
theorem dX11_isIn_15 : decode cX11_isIn 15 = .ok (.ireturn, 1) := by decide +kernel
theorem dX11_bit_0 : decode cX11_bit 0 = .ok (.iload_n 0, 1) := by decide +kernel
theorem dX11_bit_1 : decode cX11_bit 1 = .ok (.ifCond .eq 7, 3) := by decide +kernel
theorem dX11_bit_4 : decode cX11_bit 4 = .ok (.iconst 1, 1) := by decide +kernel
theorem dX11_bit_5 : decode cX11_bit 5 = .ok (.goto 4, 3) := by decide +kernel
theorem dX11_bit_8 : decode cX11_bit 8 = .ok (.iconst 0, 1) := by decide +kernel
theorem dX11_bit_9 : decode cX11_bit 9 = .ok (.ireturn, 1) := by decide +kernel
theorem dX11_bits_0 : decode cX11_bits 0 = .ok (.iconst 0, 1) := by decide +kernel
theorem dX11_bits_1 : decode cX11_bits 1 = .ok (.istore_n 1, 1) := by decide +kernel
theorem dX11_bits_2 : decode cX11_bits 2 = .ok (.iload_n 0, 1) := by decide +kernel
theorem dX11_bits_3 : decode cX11_bits 3 = .ok (.istore_n 2, 1) := by decide +kernel
theorem dX11_bits_4 : decode cX11_bits 4 = .ok (.iload_n 2, 1) := by decide +kernel
theorem dX11_bits_5 : decode cX11_bits 5 = .ok (.ifCond .le 16, 3) := by decide +kernel
theorem dX11_bits_8 : decode cX11_bits 8 = .ok (.iload_n 1, 1) := by decide +kernel
theorem dX11_bits_9 : decode cX11_bits 9 = .ok (.iload_n 2, 1) := by decide +kernel
theorem dX11_bits_10 : decode cX11_bits 10 = .ok (.iconst 1, 1) := by decide +kernel
theorem dX11_bits_11 : decode cX11_bits 11 = .ok (.iand, 1) := by decide +kernel
theorem dX11_bits_12 : decode cX11_bits 12 = .ok (.iadd, 1) := by decide +kernel
theorem dX11_bits_13 : decode cX11_bits 13 = .ok (.istore_n 1, 1) := by decide +kernel
theorem dX11_bits_14 : decode cX11_bits 14 = .ok (.iload_n 2, 1) := by decide +kernel
theorem dX11_bits_15 : decode cX11_bits 15 = .ok (.iconst 1, 1) := by decide +kernel
theorem dX11_bits_16 : decode cX11_bits 16 = .ok (.ishr, 1) := by decide +kernel
theorem dX11_bits_17 : decode cX11_bits 17 = .ok (.istore_n 2, 1) := by decide +kernel
theorem dX11_bits_18 : decode cX11_bits 18 = .ok (.goto (-14), 3) := by decide +kernel
theorem dX11_bits_21 : decode cX11_bits 21 = .ok (.iload_n 1, 1) := by decide +kernel
theorem dX11_bits_22 : decode cX11_bits 22 = .ok (.ireturn, 1) := by decide +kernel
theorem dX11_goes_0 : decode cX11_goes 0 = .ok (.aload_n 0, 1) := by decide +kernel
theorem dX11_goes_1 : decode cX11_goes 1 = .ok (.iload_n 1, 1) := by decide +kernel
theorem dX11_goes_2 : decode cX11_goes 2 = .ok (.ifCond .eq 7, 3) := by decide +kernel
theorem dX11_goes_5 : decode cX11_goes 5 = .ok (.iconst 0, 1) := by decide +kernel
theorem dX11_goes_6 : decode cX11_goes 6 = .ok (.goto 4, 3) := by decide +kernel
theorem dX11_goes_9 : decode cX11_goes 9 = .ok (.iconst 1, 1) := by decide +kernel
theorem dX11_goes_10 : decode cX11_goes 10 = .ok (.putfield 105, 3) := by decide +kernel
theorem dX11_goes_13 : decode cX11_goes 13 = .ok (.iload_n 1, 1) := by decide +kernel
theorem dX11_goes_14 : decode cX11_goes 14 = .ok (.ireturn, 1) := by decide +kernel
theorem dX11_goesBoth_0 : decode cX11_goesBoth 0 = .ok (.aload_n 0, 1) := by decide +kernel
theorem dX11_goesBoth_1 : decode cX11_goesBoth 1 = .ok (.iload_n 1, 1) := by decide +kernel
theorem dX11_goesBoth_2 : decode cX11_goesBoth 2 = .ok (.ifCond .ne 7, 3) := by decide +kernel
theorem dX11_goesBoth_5 : decode cX11_goesBoth 5 = .ok (.iconst 1, 1) := by decide +kernel
theorem dX11_goesBoth_6 : decode cX11_goesBoth 6 = .ok (.goto 12, 3) := by decide +kernel
theorem dX11_goesBoth_9 : decode cX11_goesBoth 9 = .ok (.iload_n 2, 1) := by decide +kernel
theorem dX11_goesBoth_10 : decode cX11_goesBoth 10 = .ok (.ifCond .ne 7, 3) := by decide +kernel
theorem dX11_goesBoth_13 : decode cX11_goesBoth 13 = .ok (.iconst 2, 1) := by decide +kernel
theorem dX11_goesBoth_14 : decode cX11_goesBoth 14 = .ok (.goto 4, 3) := by decide +kernel
theorem dX11_goesBoth_17 : decode cX11_goesBoth 17 = .ok (.iconst 0, 1) := by decide +kernel
theorem dX11_goesBoth_18 : decode cX11_goesBoth 18 = .ok (.putfield 105, 3) := by decide +kernel
theorem dX11_goesBoth_21 : decode cX11_goesBoth 21 = .ok (.aload_n 0, 1) := by decide +kernel
theorem dX11_goesBoth_22 : decode cX11_goesBoth 22 = .ok (.getfield 105, 3) := by decide +kernel
theorem dX11_goesBoth_25 : decode cX11_goesBoth 25 = .ok (.ifCond .ne 7, 3) := by decide +kernel
theorem dX11_goesBoth_28 : decode cX11_goesBoth 28 = .ok (.iconst 1, 1) := by decide +kernel
theorem dX11_goesBoth_29 : decode cX11_goesBoth 29 = .ok (.goto 4, 3) := by decide +kernel
theorem dX11_goesBoth_32 : decode cX11_goesBoth 32 = .ok (.iconst 0, 1) := by decide +kernel
theorem dX11_goesBoth_33 : decode cX11_goesBoth 33 = .ok (.ireturn, 1) := by decide +kernel
theorem dX11_clears_0 : decode cX11_clears 0 = .ok (.iconst 0, 1) := by decide +kernel
theorem dX11_clears_1 : decode cX11_clears 1 = .ok (.istore_n 1, 1) := by decide +kernel
theorem dX11_clears_2 : decode cX11_clears 2 = .ok (.iload_n 1, 1) := by decide +kernel
theorem dX11_clears_3 : decode cX11_clears 3 = .ok (.sipush 1062, 3) := by decide +kernel
theorem dX11_clears_6 : decode cX11_clears 6 = .ok (.if_icmp .ge 16, 3) := by decide +kernel
theorem dX11_clears_9 : decode cX11_clears 9 = .ok (.aload_n 0, 1) := by decide +kernel
theorem dX11_clears_10 : decode cX11_clears 10 = .ok (.getfield 7, 3) := by decide +kernel
theorem dX11_clears_13 : decode cX11_clears 13 = .ok (.iload_n 1, 1) := by decide +kernel
theorem dX11_clears_14 : decode cX11_clears 14 = .ok (.iconst 0, 1) := by decide +kernel
theorem dX11_clears_15 : decode cX11_clears 15 = .ok (.iastore, 1) := by decide +kernel
theorem dX11_clears_16 : decode cX11_clears 16 = .ok (.iinc 1 1, 3) := by decide +kernel
theorem dX11_clears_19 : decode cX11_clears 19 = .ok (.goto (-17), 3) := by decide +kernel
theorem dX11_clears_22 : decode cX11_clears 22 = .ok (.aload_n 0, 1) := by decide +kernel
theorem dX11_clears_23 : decode cX11_clears 23 = .ok (.getfield 7, 3) := by decide +kernel
theorem dX11_clears_26 : decode cX11_clears 26 = .ok (.iconst 1, 1) := by decide +kernel
theorem dX11_clears_27 : decode cX11_clears 27 = .ok (.iconst 4, 1) := by decide +kernel
theorem dX11_clears_28 : decode cX11_clears 28 = .ok (.iastore, 1) := by decide +kernel
theorem dX11_clears_29 : decode cX11_clears 29 = .ok (.aload_n 0, 1) := by decide +kernel
theorem dX11_clears_30 : decode cX11_clears 30 = .ok (.getfield 7, 3) := by decide +kernel
theorem dX11_clears_33 : decode cX11_clears 33 = .ok (.iconst 2, 1) := by decide +kernel
theorem dX11_clears_34 : decode cX11_clears 34 = .ok (.bipush 10, 2) := by decide +kernel
theorem dX11_clears_36 : decode cX11_clears 36 = .ok (.iastore, 1) := by decide +kernel
theorem dX11_clears_37 : decode cX11_clears 37 = .ok (.aload_n 0, 1) := by decide +kernel
theorem dX11_clears_38 : decode cX11_clears 38 = .ok (.getfield 7, 3) := by decide +kernel
theorem dX11_clears_41 : decode cX11_clears 41 = .ok (.iconst 3, 1) := by decide +kernel
theorem dX11_clears_42 : decode cX11_clears 42 = .ok (.bipush 8, 2) := by decide +kernel
theorem dX11_clears_44 : decode cX11_clears 44 = .ok (.iastore, 1) := by decide +kernel
theorem dX11_clears_45 : decode cX11_clears 45 = .ok (.return_, 1) := by decide +kernel
theorem dX11_copies_0 : decode cX11_copies 0 = .ok (.iconst 0, 1) := by decide +kernel
theorem dX11_copies_1 : decode cX11_copies 1 = .ok (.istore 4, 2) := by decide +kernel
theorem dX11_copies_3 : decode cX11_copies 3 = .ok (.iload 4, 2) := by decide +kernel
theorem dX11_copies_5 : decode cX11_copies 5 = .ok (.sipush 1062, 3) := by decide +kernel
theorem dX11_copies_8 : decode cX11_copies 8 = .ok (.if_icmp .ge 21, 3) := by decide +kernel
theorem dX11_copies_11 : decode cX11_copies 11 = .ok (.aload_n 2, 1) := by decide +kernel
theorem dX11_copies_12 : decode cX11_copies 12 = .ok (.iload_n 3, 1) := by decide +kernel
theorem dX11_copies_13 : decode cX11_copies 13 = .ok (.iload 4, 2) := by decide +kernel
theorem dX11_copies_15 : decode cX11_copies 15 = .ok (.iadd, 1) := by decide +kernel
theorem dX11_copies_16 : decode cX11_copies 16 = .ok (.aload_n 0, 1) := by decide +kernel
theorem dX11_copies_17 : decode cX11_copies 17 = .ok (.iload_n 1, 1) := by decide +kernel
theorem dX11_copies_18 : decode cX11_copies 18 = .ok (.iload 4, 2) := by decide +kernel
theorem dX11_copies_20 : decode cX11_copies 20 = .ok (.iadd, 1) := by decide +kernel
theorem dX11_copies_21 : decode cX11_copies 21 = .ok (.iaload, 1) := by decide +kernel
theorem dX11_copies_22 : decode cX11_copies 22 = .ok (.iastore, 1) := by decide +kernel
theorem dX11_copies_23 : decode cX11_copies 23 = .ok (.iinc 4 1, 3) := by decide +kernel
theorem dX11_copies_26 : decode cX11_copies 26 = .ok (.goto (-23), 3) := by decide +kernel
theorem dX11_copies_29 : decode cX11_copies 29 = .ok (.return_, 1) := by decide +kernel
theorem dX11_cameraOf_0 : decode cX11_cameraOf 0 = .ok (.aload_n 0, 1) := by decide +kernel
theorem dX11_cameraOf_1 : decode cX11_cameraOf 1 = .ok (.getfield 7, 3) := by decide +kernel
theorem dX11_cameraOf_4 : decode cX11_cameraOf 4 = .ok (.bipush 12, 2) := by decide +kernel
theorem dX11_cameraOf_6 : decode cX11_cameraOf 6 = .ok (.iconst 2, 1) := by decide +kernel
theorem dX11_cameraOf_7 : decode cX11_cameraOf 7 = .ok (.iload_n 1, 1) := by decide +kernel
theorem dX11_cameraOf_8 : decode cX11_cameraOf 8 = .ok (.imul, 1) := by decide +kernel
theorem dX11_cameraOf_9 : decode cX11_cameraOf 9 = .ok (.iadd, 1) := by decide +kernel
theorem dX11_cameraOf_10 : decode cX11_cameraOf 10 = .ok (.iaload, 1) := by decide +kernel
theorem dX11_cameraOf_11 : decode cX11_cameraOf 11 = .ok (.ireturn, 1) := by decide +kernel
theorem dX11_lengthOf_0 : decode cX11_lengthOf 0 = .ok (.aload_n 0, 1) := by decide +kernel
theorem dX11_lengthOf_1 : decode cX11_lengthOf 1 = .ok (.getfield 7, 3) := by decide +kernel
theorem dX11_lengthOf_4 : decode cX11_lengthOf 4 = .ok (.bipush 12, 2) := by decide +kernel
theorem dX11_lengthOf_6 : decode cX11_lengthOf 6 = .ok (.iconst 2, 1) := by decide +kernel
theorem dX11_lengthOf_7 : decode cX11_lengthOf 7 = .ok (.iload_n 1, 1) := by decide +kernel
theorem dX11_lengthOf_8 : decode cX11_lengthOf 8 = .ok (.imul, 1) := by decide +kernel
theorem dX11_lengthOf_9 : decode cX11_lengthOf 9 = .ok (.iadd, 1) := by decide +kernel
theorem dX11_lengthOf_10 : decode cX11_lengthOf 10 = .ok (.iconst 1, 1) := by decide +kernel
theorem dX11_lengthOf_11 : decode cX11_lengthOf 11 = .ok (.iadd, 1) := by decide +kernel
theorem dX11_lengthOf_12 : decode cX11_lengthOf 12 = .ok (.iaload, 1) := by decide +kernel
theorem dX11_lengthOf_13 : decode cX11_lengthOf 13 = .ok (.ireturn, 1) := by decide +kernel
theorem dX11_isBannedIn_0 : decode cX11_isBannedIn 0 = .ok (.iconst 0, 1) := by decide +kernel
theorem dX11_isBannedIn_1 : decode cX11_isBannedIn 1 = .ok (.istore_n 3, 1) := by decide +kernel
theorem dX11_isBannedIn_2 : decode cX11_isBannedIn 2 = .ok (.iconst 0, 1) := by decide +kernel
theorem dX11_isBannedIn_3 : decode cX11_isBannedIn 3 = .ok (.istore 4, 2) := by decide +kernel
theorem dX11_isBannedIn_5 : decode cX11_isBannedIn 5 = .ok (.iload 4, 2) := by decide +kernel
theorem dX11_isBannedIn_7 : decode cX11_isBannedIn 7 = .ok (.aload_n 0, 1) := by decide +kernel
theorem dX11_isBannedIn_8 : decode cX11_isBannedIn 8 = .ok (.getfield 7, 3) := by decide +kernel
theorem dX11_isBannedIn_11 : decode cX11_isBannedIn 11 = .ok (.bipush 7, 2) := by decide +kernel
theorem dX11_isBannedIn_13 : decode cX11_isBannedIn 13 = .ok (.iaload, 1) := by decide +kernel
theorem dX11_isBannedIn_14 : decode cX11_isBannedIn 14 = .ok (.if_icmp .ge 66, 3) := by decide +kernel
theorem dX11_isBannedIn_17 : decode cX11_isBannedIn 17 = .ok (.bipush 96, 2) := by decide +kernel
theorem dX11_isBannedIn_19 : decode cX11_isBannedIn 19 = .ok (.iconst 3, 1) := by decide +kernel
theorem dX11_isBannedIn_20 : decode cX11_isBannedIn 20 = .ok (.iload 4, 2) := by decide +kernel
theorem dX11_isBannedIn_22 : decode cX11_isBannedIn 22 = .ok (.imul, 1) := by decide +kernel
theorem dX11_isBannedIn_23 : decode cX11_isBannedIn 23 = .ok (.iadd, 1) := by decide +kernel
theorem dX11_isBannedIn_24 : decode cX11_isBannedIn 24 = .ok (.istore 5, 2) := by decide +kernel
theorem dX11_isBannedIn_26 : decode cX11_isBannedIn 26 = .ok (.iload_n 3, 1) := by decide +kernel
theorem dX11_isBannedIn_27 : decode cX11_isBannedIn 27 = .ok (.aload_n 0, 1) := by decide +kernel
theorem dX11_isBannedIn_28 : decode cX11_isBannedIn 28 = .ok (.getfield 7, 3) := by decide +kernel
theorem dX11_isBannedIn_31 : decode cX11_isBannedIn 31 = .ok (.iload 5, 2) := by decide +kernel
theorem dX11_isBannedIn_33 : decode cX11_isBannedIn 33 = .ok (.iaload, 1) := by decide +kernel
theorem dX11_isBannedIn_34 : decode cX11_isBannedIn 34 = .ok (.aload_n 0, 1) := by decide +kernel
theorem dX11_isBannedIn_35 : decode cX11_isBannedIn 35 = .ok (.iload_n 1, 1) := by decide +kernel
theorem dX11_isBannedIn_36 : decode cX11_isBannedIn 36 = .ok (.invokevirtual 108, 3) := by decide +kernel
theorem dX11_isBannedIn_39 : decode cX11_isBannedIn 39 = .ok (.if_icmp .ne 32, 3) := by decide +kernel
theorem dX11_isBannedIn_42 : decode cX11_isBannedIn 42 = .ok (.iload_n 2, 1) := by decide +kernel
theorem dX11_isBannedIn_43 : decode cX11_isBannedIn 43 = .ok (.aload_n 0, 1) := by decide +kernel
theorem dX11_isBannedIn_44 : decode cX11_isBannedIn 44 = .ok (.getfield 7, 3) := by decide +kernel
theorem dX11_isBannedIn_47 : decode cX11_isBannedIn 47 = .ok (.iload 5, 2) := by decide +kernel
theorem dX11_isBannedIn_49 : decode cX11_isBannedIn 49 = .ok (.iconst 1, 1) := by decide +kernel
theorem dX11_isBannedIn_50 : decode cX11_isBannedIn 50 = .ok (.iadd, 1) := by decide +kernel
theorem dX11_isBannedIn_51 : decode cX11_isBannedIn 51 = .ok (.iaload, 1) := by decide +kernel
theorem dX11_isBannedIn_52 : decode cX11_isBannedIn 52 = .ok (.aload_n 0, 1) := by decide +kernel
theorem dX11_isBannedIn_53 : decode cX11_isBannedIn 53 = .ok (.getfield 7, 3) := by decide +kernel
theorem dX11_isBannedIn_56 : decode cX11_isBannedIn 56 = .ok (.iload 5, 2) := by decide +kernel
theorem dX11_isBannedIn_58 : decode cX11_isBannedIn 58 = .ok (.iconst 2, 1) := by decide +kernel
theorem dX11_isBannedIn_59 : decode cX11_isBannedIn 59 = .ok (.iadd, 1) := by decide +kernel
theorem dX11_isBannedIn_60 : decode cX11_isBannedIn 60 = .ok (.iaload, 1) := by decide +kernel
theorem dX11_isBannedIn_61 : decode cX11_isBannedIn 61 = .ok (.invokestatic 112, 3) := by decide +kernel
theorem dX11_isBannedIn_64 : decode cX11_isBannedIn 64 = .ok (.ifCond .eq 7, 3) := by decide +kernel
theorem dX11_isBannedIn_67 : decode cX11_isBannedIn 67 = .ok (.iconst 1, 1) := by decide +kernel
theorem dX11_isBannedIn_68 : decode cX11_isBannedIn 68 = .ok (.goto 4, 3) := by decide +kernel
theorem dX11_isBannedIn_71 : decode cX11_isBannedIn 71 = .ok (.iconst 0, 1) := by decide +kernel
theorem dX11_isBannedIn_72 : decode cX11_isBannedIn 72 = .ok (.ior, 1) := by decide +kernel
theorem dX11_isBannedIn_73 : decode cX11_isBannedIn 73 = .ok (.istore_n 3, 1) := by decide +kernel
theorem dX11_isBannedIn_74 : decode cX11_isBannedIn 74 = .ok (.iinc 4 1, 3) := by decide +kernel
theorem dX11_isBannedIn_77 : decode cX11_isBannedIn 77 = .ok (.goto (-72), 3) := by decide +kernel
theorem dX11_isBannedIn_80 : decode cX11_isBannedIn 80 = .ok (.iload_n 3, 1) := by decide +kernel
theorem dX11_isBannedIn_81 : decode cX11_isBannedIn 81 = .ok (.ireturn, 1) := by decide +kernel
theorem dX11_isBanned_0 : decode cX11_isBanned 0 = .ok (.aload_n 0, 1) := by decide +kernel
theorem dX11_isBanned_1 : decode cX11_isBanned 1 = .ok (.iload_n 1, 1) := by decide +kernel
theorem dX11_isBanned_2 : decode cX11_isBanned 2 = .ok (.aload_n 0, 1) := by decide +kernel
theorem dX11_isBanned_3 : decode cX11_isBanned 3 = .ok (.getfield 7, 3) := by decide +kernel
theorem dX11_isBanned_6 : decode cX11_isBanned 6 = .ok (.iconst 0, 1) := by decide +kernel
theorem dX11_isBanned_7 : decode cX11_isBanned 7 = .ok (.iaload, 1) := by decide +kernel
theorem dX11_isBanned_8 : decode cX11_isBanned 8 = .ok (.invokevirtual 116, 3) := by decide +kernel
theorem dX11_isBanned_11 : decode cX11_isBanned 11 = .ok (.ireturn, 1) := by decide +kernel
theorem dX11_r_0 : decode cX11_r 0 = .ok (.aload_n 0, 1) := by decide +kernel
theorem dX11_r_1 : decode cX11_r 1 = .ok (.getfield 7, 3) := by decide +kernel
theorem dX11_r_4 : decode cX11_r 4 = .ok (.bipush 126, 2) := by decide +kernel
theorem dX11_r_6 : decode cX11_r 6 = .ok (.iconst 4, 1) := by decide +kernel
theorem dX11_r_7 : decode cX11_r 7 = .ok (.iload_n 1, 1) := by decide +kernel
theorem dX11_r_8 : decode cX11_r 8 = .ok (.imul, 1) := by decide +kernel
theorem dX11_r_9 : decode cX11_r 9 = .ok (.iadd, 1) := by decide +kernel
theorem dX11_r_10 : decode cX11_r 10 = .ok (.iload_n 2, 1) := by decide +kernel
theorem dX11_r_11 : decode cX11_r 11 = .ok (.iadd, 1) := by decide +kernel
theorem dX11_r_12 : decode cX11_r 12 = .ok (.iaload, 1) := by decide +kernel
theorem dX11_r_13 : decode cX11_r 13 = .ok (.ireturn, 1) := by decide +kernel
theorem dX11_lays_0 : decode cX11_lays 0 = .ok (.bipush 126, 2) := by decide +kernel
theorem dX11_lays_2 : decode cX11_lays 2 = .ok (.iconst 4, 1) := by decide +kernel
theorem dX11_lays_3 : decode cX11_lays 3 = .ok (.iload_n 1, 1) := by decide +kernel
theorem dX11_lays_4 : decode cX11_lays 4 = .ok (.imul, 1) := by decide +kernel
theorem dX11_lays_5 : decode cX11_lays 5 = .ok (.iadd, 1) := by decide +kernel
theorem dX11_lays_6 : decode cX11_lays 6 = .ok (.istore 6, 2) := by decide +kernel
theorem dX11_lays_8 : decode cX11_lays 8 = .ok (.aload_n 0, 1) := by decide +kernel
theorem dX11_lays_9 : decode cX11_lays 9 = .ok (.getfield 7, 3) := by decide +kernel
theorem dX11_lays_12 : decode cX11_lays 12 = .ok (.iload 6, 2) := by decide +kernel
theorem dX11_lays_14 : decode cX11_lays 14 = .ok (.iload_n 2, 1) := by decide +kernel
theorem dX11_lays_15 : decode cX11_lays 15 = .ok (.iastore, 1) := by decide +kernel
theorem dX11_lays_16 : decode cX11_lays 16 = .ok (.aload_n 0, 1) := by decide +kernel
theorem dX11_lays_17 : decode cX11_lays 17 = .ok (.getfield 7, 3) := by decide +kernel
theorem dX11_lays_20 : decode cX11_lays 20 = .ok (.iload 6, 2) := by decide +kernel
theorem dX11_lays_22 : decode cX11_lays 22 = .ok (.iconst 1, 1) := by decide +kernel
theorem dX11_lays_23 : decode cX11_lays 23 = .ok (.iadd, 1) := by decide +kernel
theorem dX11_lays_24 : decode cX11_lays 24 = .ok (.iload_n 3, 1) := by decide +kernel
theorem dX11_lays_25 : decode cX11_lays 25 = .ok (.iastore, 1) := by decide +kernel
theorem dX11_lays_26 : decode cX11_lays 26 = .ok (.aload_n 0, 1) := by decide +kernel
theorem dX11_lays_27 : decode cX11_lays 27 = .ok (.getfield 7, 3) := by decide +kernel
theorem dX11_lays_30 : decode cX11_lays 30 = .ok (.iload 6, 2) := by decide +kernel
theorem dX11_lays_32 : decode cX11_lays 32 = .ok (.iconst 2, 1) := by decide +kernel
theorem dX11_lays_33 : decode cX11_lays 33 = .ok (.iadd, 1) := by decide +kernel
theorem dX11_lays_34 : decode cX11_lays 34 = .ok (.iload 4, 2) := by decide +kernel
theorem dX11_lays_36 : decode cX11_lays 36 = .ok (.iastore, 1) := by decide +kernel
theorem dX11_lays_37 : decode cX11_lays 37 = .ok (.aload_n 0, 1) := by decide +kernel
theorem dX11_lays_38 : decode cX11_lays 38 = .ok (.getfield 7, 3) := by decide +kernel
theorem dX11_lays_41 : decode cX11_lays 41 = .ok (.iload 6, 2) := by decide +kernel
theorem dX11_lays_43 : decode cX11_lays 43 = .ok (.iconst 3, 1) := by decide +kernel
theorem dX11_lays_44 : decode cX11_lays 44 = .ok (.iadd, 1) := by decide +kernel
theorem dX11_lays_45 : decode cX11_lays 45 = .ok (.iload 5, 2) := by decide +kernel
theorem dX11_lays_47 : decode cX11_lays 47 = .ok (.iastore, 1) := by decide +kernel
theorem dX11_lays_48 : decode cX11_lays 48 = .ok (.return_, 1) := by decide +kernel
theorem dX11_opens_0 : decode cX11_opens 0 = .ok (.aload_n 0, 1) := by decide +kernel
theorem dX11_opens_1 : decode cX11_opens 1 = .ok (.getfield 56, 3) := by decide +kernel
theorem dX11_opens_4 : decode cX11_opens 4 = .ok (.aload_n 0, 1) := by decide +kernel
theorem dX11_opens_5 : decode cX11_opens 5 = .ok (.getfield 120, 3) := by decide +kernel
theorem dX11_opens_8 : decode cX11_opens 8 = .ok (.iload_n 1, 1) := by decide +kernel
theorem dX11_opens_9 : decode cX11_opens 9 = .ok (.iastore, 1) := by decide +kernel
theorem dX11_opens_10 : decode cX11_opens 10 = .ok (.aload_n 0, 1) := by decide +kernel
theorem dX11_opens_11 : decode cX11_opens 11 = .ok (.getfield 59, 3) := by decide +kernel
theorem dX11_opens_14 : decode cX11_opens 14 = .ok (.aload_n 0, 1) := by decide +kernel
theorem dX11_opens_15 : decode cX11_opens 15 = .ok (.getfield 120, 3) := by decide +kernel
theorem dX11_opens_18 : decode cX11_opens 18 = .ok (.iload_n 2, 1) := by decide +kernel
theorem dX11_opens_19 : decode cX11_opens 19 = .ok (.iastore, 1) := by decide +kernel
theorem dX11_opens_20 : decode cX11_opens 20 = .ok (.iload_n 3, 1) := by decide +kernel
theorem dX11_opens_21 : decode cX11_opens 21 = .ok (.ifCond .eq 13, 3) := by decide +kernel
theorem dX11_opens_24 : decode cX11_opens 24 = .ok (.aload_n 0, 1) := by decide +kernel
theorem dX11_opens_25 : decode cX11_opens 25 = .ok (.dup, 1) := by decide +kernel
theorem dX11_opens_26 : decode cX11_opens 26 = .ok (.getfield 123, 3) := by decide +kernel
theorem dX11_opens_29 : decode cX11_opens 29 = .ok (.iconst 1, 1) := by decide +kernel
theorem dX11_opens_30 : decode cX11_opens 30 = .ok (.iadd, 1) := by decide +kernel
theorem dX11_opens_31 : decode cX11_opens 31 = .ok (.putfield 123, 3) := by decide +kernel
theorem dX11_opens_34 : decode cX11_opens 34 = .ok (.aload_n 0, 1) := by decide +kernel
theorem dX11_opens_35 : decode cX11_opens 35 = .ok (.getfield 62, 3) := by decide +kernel
theorem dX11_opens_38 : decode cX11_opens 38 = .ok (.aload_n 0, 1) := by decide +kernel
theorem dX11_opens_39 : decode cX11_opens 39 = .ok (.getfield 120, 3) := by decide +kernel
theorem dX11_opens_42 : decode cX11_opens 42 = .ok (.iload_n 3, 1) := by decide +kernel
theorem dX11_opens_43 : decode cX11_opens 43 = .ok (.ifCond .eq 10, 3) := by decide +kernel
theorem dX11_opens_46 : decode cX11_opens 46 = .ok (.aload_n 0, 1) := by decide +kernel
theorem dX11_opens_47 : decode cX11_opens 47 = .ok (.getfield 123, 3) := by decide +kernel
theorem dX11_opens_50 : decode cX11_opens 50 = .ok (.goto 4, 3) := by decide +kernel
theorem dX11_opens_53 : decode cX11_opens 53 = .ok (.iconst 0, 1) := by decide +kernel
theorem dX11_opens_54 : decode cX11_opens 54 = .ok (.iastore, 1) := by decide +kernel
theorem dX11_opens_55 : decode cX11_opens 55 = .ok (.aload_n 0, 1) := by decide +kernel
theorem dX11_opens_56 : decode cX11_opens 56 = .ok (.dup, 1) := by decide +kernel
theorem dX11_opens_57 : decode cX11_opens 57 = .ok (.getfield 120, 3) := by decide +kernel
theorem dX11_opens_60 : decode cX11_opens 60 = .ok (.iconst 1, 1) := by decide +kernel
theorem dX11_opens_61 : decode cX11_opens 61 = .ok (.iadd, 1) := by decide +kernel
theorem dX11_opens_62 : decode cX11_opens 62 = .ok (.putfield 120, 3) := by decide +kernel
theorem dX11_opens_65 : decode cX11_opens 65 = .ok (.return_, 1) := by decide +kernel
theorem dX11_addsPiece_0 : decode cX11_addsPiece 0 = .ok (.aload_n 0, 1) := by decide +kernel
theorem dX11_addsPiece_1 : decode cX11_addsPiece 1 = .ok (.getfield 126, 3) := by decide +kernel
theorem dX11_addsPiece_4 : decode cX11_addsPiece 4 = .ok (.istore_n 2, 1) := by decide +kernel
theorem dX11_addsPiece_5 : decode cX11_addsPiece 5 = .ok (.aload_n 0, 1) := by decide +kernel
theorem dX11_addsPiece_6 : decode cX11_addsPiece 6 = .ok (.iload_n 1, 1) := by decide +kernel
theorem dX11_addsPiece_7 : decode cX11_addsPiece 7 = .ok (.iconst 0, 1) := by decide +kernel
theorem dX11_addsPiece_8 : decode cX11_addsPiece 8 = .ok (.invokevirtual 129, 3) := by decide +kernel
theorem dX11_addsPiece_11 : decode cX11_addsPiece 11 = .ok (.ifCond .ne 7, 3) := by decide +kernel
theorem dX11_addsPiece_14 : decode cX11_addsPiece 14 = .ok (.iconst 1, 1) := by decide +kernel
theorem dX11_addsPiece_15 : decode cX11_addsPiece 15 = .ok (.goto 4, 3) := by decide +kernel
theorem dX11_addsPiece_18 : decode cX11_addsPiece 18 = .ok (.iconst 0, 1) := by decide +kernel
theorem dX11_addsPiece_19 : decode cX11_addsPiece 19 = .ok (.istore_n 3, 1) := by decide +kernel
theorem dX11_addsPiece_20 : decode cX11_addsPiece 20 = .ok (.aload_n 0, 1) := by decide +kernel
theorem dX11_addsPiece_21 : decode cX11_addsPiece 21 = .ok (.getfield 29, 3) := by decide +kernel
theorem dX11_addsPiece_24 : decode cX11_addsPiece 24 = .ok (.iload_n 2, 1) := by decide +kernel
theorem dX11_addsPiece_25 : decode cX11_addsPiece 25 = .ok (.iload_n 3, 1) := by decide +kernel
theorem dX11_addsPiece_26 : decode cX11_addsPiece 26 = .ok (.ifCond .ne 7, 3) := by decide +kernel
theorem dX11_addsPiece_29 : decode cX11_addsPiece 29 = .ok (.iconst 1, 1) := by decide +kernel
theorem dX11_addsPiece_30 : decode cX11_addsPiece 30 = .ok (.goto 4, 3) := by decide +kernel
theorem dX11_addsPiece_33 : decode cX11_addsPiece 33 = .ok (.iconst 0, 1) := by decide +kernel
theorem dX11_addsPiece_34 : decode cX11_addsPiece 34 = .ok (.invokestatic 133, 3) := by decide +kernel
theorem dX11_addsPiece_37 : decode cX11_addsPiece 37 = .ok (.iastore, 1) := by decide +kernel
theorem dX11_addsPiece_38 : decode cX11_addsPiece 38 = .ok (.aload_n 0, 1) := by decide +kernel
theorem dX11_addsPiece_39 : decode cX11_addsPiece 39 = .ok (.getfield 32, 3) := by decide +kernel
theorem dX11_addsPiece_42 : decode cX11_addsPiece 42 = .ok (.iload_n 2, 1) := by decide +kernel
theorem dX11_addsPiece_43 : decode cX11_addsPiece 43 = .ok (.aload_n 0, 1) := by decide +kernel
theorem dX11_addsPiece_44 : decode cX11_addsPiece 44 = .ok (.iload_n 1, 1) := by decide +kernel
theorem dX11_addsPiece_45 : decode cX11_addsPiece 45 = .ok (.iconst 1, 1) := by decide +kernel
theorem dX11_addsPiece_46 : decode cX11_addsPiece 46 = .ok (.invokevirtual 129, 3) := by decide +kernel
theorem dX11_addsPiece_49 : decode cX11_addsPiece 49 = .ok (.iastore, 1) := by decide +kernel
theorem dX11_addsPiece_50 : decode cX11_addsPiece 50 = .ok (.aload_n 0, 1) := by decide +kernel
theorem dX11_addsPiece_51 : decode cX11_addsPiece 51 = .ok (.getfield 35, 3) := by decide +kernel
theorem dX11_addsPiece_54 : decode cX11_addsPiece 54 = .ok (.iload_n 2, 1) := by decide +kernel
theorem dX11_addsPiece_55 : decode cX11_addsPiece 55 = .ok (.iload_n 3, 1) := by decide +kernel
theorem dX11_addsPiece_56 : decode cX11_addsPiece 56 = .ok (.ifCond .eq 12, 3) := by decide +kernel
theorem dX11_addsPiece_59 : decode cX11_addsPiece 59 = .ok (.aload_n 0, 1) := by decide +kernel
theorem dX11_addsPiece_60 : decode cX11_addsPiece 60 = .ok (.iload_n 1, 1) := by decide +kernel
theorem dX11_addsPiece_61 : decode cX11_addsPiece 61 = .ok (.iconst 2, 1) := by decide +kernel
theorem dX11_addsPiece_62 : decode cX11_addsPiece 62 = .ok (.invokevirtual 129, 3) := by decide +kernel
theorem dX11_addsPiece_65 : decode cX11_addsPiece 65 = .ok (.goto 4, 3) := by decide +kernel
theorem dX11_addsPiece_68 : decode cX11_addsPiece 68 = .ok (.iconst 0, 1) := by decide +kernel
theorem dX11_addsPiece_69 : decode cX11_addsPiece 69 = .ok (.iastore, 1) := by decide +kernel
theorem dX11_addsPiece_70 : decode cX11_addsPiece 70 = .ok (.aload_n 0, 1) := by decide +kernel
theorem dX11_addsPiece_71 : decode cX11_addsPiece 71 = .ok (.getfield 38, 3) := by decide +kernel
theorem dX11_addsPiece_74 : decode cX11_addsPiece 74 = .ok (.iload_n 2, 1) := by decide +kernel
theorem dX11_addsPiece_75 : decode cX11_addsPiece 75 = .ok (.iload_n 3, 1) := by decide +kernel
theorem dX11_addsPiece_76 : decode cX11_addsPiece 76 = .ok (.ifCond .eq 21, 3) := by decide +kernel
theorem dX11_addsPiece_79 : decode cX11_addsPiece 79 = .ok (.aload_n 0, 1) := by decide +kernel
theorem dX11_addsPiece_80 : decode cX11_addsPiece 80 = .ok (.iload_n 1, 1) := by decide +kernel
theorem dX11_addsPiece_81 : decode cX11_addsPiece 81 = .ok (.iconst 3, 1) := by decide +kernel
theorem dX11_addsPiece_82 : decode cX11_addsPiece 82 = .ok (.invokevirtual 129, 3) := by decide +kernel
theorem dX11_addsPiece_85 : decode cX11_addsPiece 85 = .ok (.aload_n 0, 1) := by decide +kernel
theorem dX11_addsPiece_86 : decode cX11_addsPiece 86 = .ok (.iload_n 1, 1) := by decide +kernel
theorem dX11_addsPiece_87 : decode cX11_addsPiece 87 = .ok (.iconst 2, 1) := by decide +kernel
theorem dX11_addsPiece_88 : decode cX11_addsPiece 88 = .ok (.invokevirtual 129, 3) := by decide +kernel
theorem dX11_addsPiece_91 : decode cX11_addsPiece 91 = .ok (.isub, 1) := by decide +kernel
theorem dX11_addsPiece_92 : decode cX11_addsPiece 92 = .ok (.iconst 1, 1) := by decide +kernel
theorem dX11_addsPiece_93 : decode cX11_addsPiece 93 = .ok (.iadd, 1) := by decide +kernel
theorem dX11_addsPiece_94 : decode cX11_addsPiece 94 = .ok (.goto 9, 3) := by decide +kernel
theorem dX11_addsPiece_97 : decode cX11_addsPiece 97 = .ok (.aload_n 0, 1) := by decide +kernel
theorem dX11_addsPiece_98 : decode cX11_addsPiece 98 = .ok (.iload_n 1, 1) := by decide +kernel
theorem dX11_addsPiece_99 : decode cX11_addsPiece 99 = .ok (.iconst 2, 1) := by decide +kernel
theorem dX11_addsPiece_100 : decode cX11_addsPiece 100 = .ok (.invokevirtual 129, 3) := by decide +kernel
theorem dX11_addsPiece_103 : decode cX11_addsPiece 103 = .ok (.iastore, 1) := by decide +kernel
theorem dX11_addsPiece_104 : decode cX11_addsPiece 104 = .ok (.aload_n 0, 1) := by decide +kernel
theorem dX11_addsPiece_105 : decode cX11_addsPiece 105 = .ok (.getfield 47, 3) := by decide +kernel
theorem dX11_addsPiece_108 : decode cX11_addsPiece 108 = .ok (.iload_n 2, 1) := by decide +kernel
theorem dX11_addsPiece_109 : decode cX11_addsPiece 109 = .ok (.iconst 0, 1) := by decide +kernel
theorem dX11_addsPiece_110 : decode cX11_addsPiece 110 = .ok (.iastore, 1) := by decide +kernel
theorem dX11_addsPiece_111 : decode cX11_addsPiece 111 = .ok (.iconst 0, 1) := by decide +kernel
theorem dX11_addsPiece_112 : decode cX11_addsPiece 112 = .ok (.istore 4, 2) := by decide +kernel
theorem dX11_addsPiece_114 : decode cX11_addsPiece 114 = .ok (.iload 4, 2) := by decide +kernel
theorem dX11_addsPiece_116 : decode cX11_addsPiece 116 = .ok (.aload_n 0, 1) := by decide +kernel
theorem dX11_addsPiece_117 : decode cX11_addsPiece 117 = .ok (.getfield 120, 3) := by decide +kernel
theorem dX11_addsPiece_120 : decode cX11_addsPiece 120 = .ok (.if_icmp .ge 81, 3) := by decide +kernel
theorem dX11_addsPiece_123 : decode cX11_addsPiece 123 = .ok (.aload_n 0, 1) := by decide +kernel
theorem dX11_addsPiece_124 : decode cX11_addsPiece 124 = .ok (.getfield 62, 3) := by decide +kernel
theorem dX11_addsPiece_127 : decode cX11_addsPiece 127 = .ok (.iload 4, 2) := by decide +kernel
theorem dX11_addsPiece_129 : decode cX11_addsPiece 129 = .ok (.iaload, 1) := by decide +kernel
theorem dX11_addsPiece_130 : decode cX11_addsPiece 130 = .ok (.ifCond .ne 6, 3) := by decide +kernel
theorem dX11_addsPiece_133 : decode cX11_addsPiece 133 = .ok (.goto 62, 3) := by decide +kernel
theorem dX11_addsPiece_136 : decode cX11_addsPiece 136 = .ok (.aload_n 0, 1) := by decide +kernel
theorem dX11_addsPiece_137 : decode cX11_addsPiece 137 = .ok (.getfield 50, 3) := by decide +kernel
theorem dX11_addsPiece_140 : decode cX11_addsPiece 140 = .ok (.iconst 4, 1) := by decide +kernel
theorem dX11_addsPiece_141 : decode cX11_addsPiece 141 = .ok (.iload_n 2, 1) := by decide +kernel
theorem dX11_addsPiece_142 : decode cX11_addsPiece 142 = .ok (.imul, 1) := by decide +kernel
theorem dX11_addsPiece_143 : decode cX11_addsPiece 143 = .ok (.aload_n 0, 1) := by decide +kernel
theorem dX11_addsPiece_144 : decode cX11_addsPiece 144 = .ok (.getfield 47, 3) := by decide +kernel
theorem dX11_addsPiece_147 : decode cX11_addsPiece 147 = .ok (.iload_n 2, 1) := by decide +kernel
theorem dX11_addsPiece_148 : decode cX11_addsPiece 148 = .ok (.iaload, 1) := by decide +kernel
theorem dX11_addsPiece_149 : decode cX11_addsPiece 149 = .ok (.iadd, 1) := by decide +kernel
theorem dX11_addsPiece_150 : decode cX11_addsPiece 150 = .ok (.aload_n 0, 1) := by decide +kernel
theorem dX11_addsPiece_151 : decode cX11_addsPiece 151 = .ok (.getfield 62, 3) := by decide +kernel
theorem dX11_addsPiece_154 : decode cX11_addsPiece 154 = .ok (.iload 4, 2) := by decide +kernel
theorem dX11_addsPiece_156 : decode cX11_addsPiece 156 = .ok (.iaload, 1) := by decide +kernel
theorem dX11_addsPiece_157 : decode cX11_addsPiece 157 = .ok (.iastore, 1) := by decide +kernel
theorem dX11_addsPiece_158 : decode cX11_addsPiece 158 = .ok (.aload_n 0, 1) := by decide +kernel
theorem dX11_addsPiece_159 : decode cX11_addsPiece 159 = .ok (.getfield 53, 3) := by decide +kernel
theorem dX11_addsPiece_162 : decode cX11_addsPiece 162 = .ok (.iconst 4, 1) := by decide +kernel
theorem dX11_addsPiece_163 : decode cX11_addsPiece 163 = .ok (.iload_n 2, 1) := by decide +kernel
theorem dX11_addsPiece_164 : decode cX11_addsPiece 164 = .ok (.imul, 1) := by decide +kernel
theorem dX11_addsPiece_165 : decode cX11_addsPiece 165 = .ok (.aload_n 0, 1) := by decide +kernel
theorem dX11_addsPiece_166 : decode cX11_addsPiece 166 = .ok (.getfield 47, 3) := by decide +kernel
theorem dX11_addsPiece_169 : decode cX11_addsPiece 169 = .ok (.iload_n 2, 1) := by decide +kernel
theorem dX11_addsPiece_170 : decode cX11_addsPiece 170 = .ok (.iaload, 1) := by decide +kernel
theorem dX11_addsPiece_171 : decode cX11_addsPiece 171 = .ok (.iadd, 1) := by decide +kernel
theorem dX11_addsPiece_172 : decode cX11_addsPiece 172 = .ok (.aload_n 0, 1) := by decide +kernel
theorem dX11_addsPiece_173 : decode cX11_addsPiece 173 = .ok (.aload_n 0, 1) := by decide +kernel
theorem dX11_addsPiece_174 : decode cX11_addsPiece 174 = .ok (.getfield 56, 3) := by decide +kernel
theorem dX11_addsPiece_177 : decode cX11_addsPiece 177 = .ok (.iload 4, 2) := by decide +kernel
theorem dX11_addsPiece_179 : decode cX11_addsPiece 179 = .ok (.iaload, 1) := by decide +kernel
theorem dX11_addsPiece_180 : decode cX11_addsPiece 180 = .ok (.iconst 1, 1) := by decide +kernel
theorem dX11_addsPiece_181 : decode cX11_addsPiece 181 = .ok (.invokevirtual 129, 3) := by decide +kernel
theorem dX11_addsPiece_184 : decode cX11_addsPiece 184 = .ok (.iastore, 1) := by decide +kernel
theorem dX11_addsPiece_185 : decode cX11_addsPiece 185 = .ok (.aload_n 0, 1) := by decide +kernel
theorem dX11_addsPiece_186 : decode cX11_addsPiece 186 = .ok (.getfield 47, 3) := by decide +kernel
theorem dX11_addsPiece_189 : decode cX11_addsPiece 189 = .ok (.iload_n 2, 1) := by decide +kernel
theorem dX11_addsPiece_190 : decode cX11_addsPiece 190 = .ok (.dup2, 1) := by decide +kernel
theorem dX11_addsPiece_191 : decode cX11_addsPiece 191 = .ok (.iaload, 1) := by decide +kernel
theorem dX11_addsPiece_192 : decode cX11_addsPiece 192 = .ok (.iconst 1, 1) := by decide +kernel
theorem dX11_addsPiece_193 : decode cX11_addsPiece 193 = .ok (.iadd, 1) := by decide +kernel
theorem dX11_addsPiece_194 : decode cX11_addsPiece 194 = .ok (.iastore, 1) := by decide +kernel
theorem dX11_addsPiece_195 : decode cX11_addsPiece 195 = .ok (.iinc 4 1, 3) := by decide +kernel
theorem dX11_addsPiece_198 : decode cX11_addsPiece 198 = .ok (.goto (-84), 3) := by decide +kernel
theorem dX11_addsPiece_201 : decode cX11_addsPiece 201 = .ok (.aload_n 0, 1) := by decide +kernel
theorem dX11_addsPiece_202 : decode cX11_addsPiece 202 = .ok (.dup, 1) := by decide +kernel
theorem dX11_addsPiece_203 : decode cX11_addsPiece 203 = .ok (.getfield 126, 3) := by decide +kernel
theorem dX11_addsPiece_206 : decode cX11_addsPiece 206 = .ok (.iconst 1, 1) := by decide +kernel
theorem dX11_addsPiece_207 : decode cX11_addsPiece 207 = .ok (.iadd, 1) := by decide +kernel
theorem dX11_addsPiece_208 : decode cX11_addsPiece 208 = .ok (.putfield 126, 3) := by decide +kernel
theorem dX11_addsPiece_211 : decode cX11_addsPiece 211 = .ok (.return_, 1) := by decide +kernel
theorem dX11_commonOverlap_0 : decode cX11_commonOverlap 0 = .ok (.iconst 0, 1) := by decide +kernel
theorem dX11_commonOverlap_1 : decode cX11_commonOverlap 1 = .ok (.istore_n 2, 1) := by decide +kernel
theorem dX11_commonOverlap_2 : decode cX11_commonOverlap 2 = .ok (.iconst 0, 1) := by decide +kernel
theorem dX11_commonOverlap_3 : decode cX11_commonOverlap 3 = .ok (.istore_n 3, 1) := by decide +kernel
theorem dX11_commonOverlap_4 : decode cX11_commonOverlap 4 = .ok (.iload_n 3, 1) := by decide +kernel
theorem dX11_commonOverlap_5 : decode cX11_commonOverlap 5 = .ok (.aload_n 0, 1) := by decide +kernel
theorem dX11_commonOverlap_6 : decode cX11_commonOverlap 6 = .ok (.getfield 47, 3) := by decide +kernel
theorem dX11_commonOverlap_9 : decode cX11_commonOverlap 9 = .ok (.iload_n 1, 1) := by decide +kernel
theorem dX11_commonOverlap_10 : decode cX11_commonOverlap 10 = .ok (.iaload, 1) := by decide +kernel
theorem dX11_commonOverlap_11 : decode cX11_commonOverlap 11 = .ok (.if_icmp .ge 57, 3) := by decide +kernel
theorem dX11_commonOverlap_14 : decode cX11_commonOverlap 14 = .ok (.iload_n 3, 1) := by decide +kernel
theorem dX11_commonOverlap_15 : decode cX11_commonOverlap 15 = .ok (.aload_n 0, 1) := by decide +kernel
theorem dX11_commonOverlap_16 : decode cX11_commonOverlap 16 = .ok (.getfield 47, 3) := by decide +kernel
theorem dX11_commonOverlap_19 : decode cX11_commonOverlap 19 = .ok (.iload_n 1, 1) := by decide +kernel
theorem dX11_commonOverlap_20 : decode cX11_commonOverlap 20 = .ok (.iconst 1, 1) := by decide +kernel
theorem dX11_commonOverlap_21 : decode cX11_commonOverlap 21 = .ok (.isub, 1) := by decide +kernel
theorem dX11_commonOverlap_22 : decode cX11_commonOverlap 22 = .ok (.iaload, 1) := by decide +kernel
theorem dX11_commonOverlap_23 : decode cX11_commonOverlap 23 = .ok (.if_icmp .ge 45, 3) := by decide +kernel
theorem dX11_commonOverlap_26 : decode cX11_commonOverlap 26 = .ok (.aload_n 0, 1) := by decide +kernel
theorem dX11_commonOverlap_27 : decode cX11_commonOverlap 27 = .ok (.getfield 50, 3) := by decide +kernel
theorem dX11_commonOverlap_30 : decode cX11_commonOverlap 30 = .ok (.iconst 4, 1) := by decide +kernel
theorem dX11_commonOverlap_31 : decode cX11_commonOverlap 31 = .ok (.iload_n 1, 1) := by decide +kernel
theorem dX11_commonOverlap_32 : decode cX11_commonOverlap 32 = .ok (.imul, 1) := by decide +kernel
theorem dX11_commonOverlap_33 : decode cX11_commonOverlap 33 = .ok (.iload_n 3, 1) := by decide +kernel
theorem dX11_commonOverlap_34 : decode cX11_commonOverlap 34 = .ok (.iadd, 1) := by decide +kernel
theorem dX11_commonOverlap_35 : decode cX11_commonOverlap 35 = .ok (.iaload, 1) := by decide +kernel
theorem dX11_commonOverlap_36 : decode cX11_commonOverlap 36 = .ok (.aload_n 0, 1) := by decide +kernel
theorem dX11_commonOverlap_37 : decode cX11_commonOverlap 37 = .ok (.getfield 50, 3) := by decide +kernel
theorem dX11_commonOverlap_40 : decode cX11_commonOverlap 40 = .ok (.iconst 4, 1) := by decide +kernel
theorem dX11_commonOverlap_41 : decode cX11_commonOverlap 41 = .ok (.iload_n 1, 1) := by decide +kernel
theorem dX11_commonOverlap_42 : decode cX11_commonOverlap 42 = .ok (.iconst 1, 1) := by decide +kernel
theorem dX11_commonOverlap_43 : decode cX11_commonOverlap 43 = .ok (.isub, 1) := by decide +kernel
theorem dX11_commonOverlap_44 : decode cX11_commonOverlap 44 = .ok (.imul, 1) := by decide +kernel
theorem dX11_commonOverlap_45 : decode cX11_commonOverlap 45 = .ok (.iload_n 3, 1) := by decide +kernel
theorem dX11_commonOverlap_46 : decode cX11_commonOverlap 46 = .ok (.iadd, 1) := by decide +kernel
theorem dX11_commonOverlap_47 : decode cX11_commonOverlap 47 = .ok (.iaload, 1) := by decide +kernel
theorem dX11_commonOverlap_48 : decode cX11_commonOverlap 48 = .ok (.if_icmp .ne 20, 3) := by decide +kernel
theorem dX11_commonOverlap_51 : decode cX11_commonOverlap 51 = .ok (.aload_n 0, 1) := by decide +kernel
theorem dX11_commonOverlap_52 : decode cX11_commonOverlap 52 = .ok (.getfield 53, 3) := by decide +kernel
theorem dX11_commonOverlap_55 : decode cX11_commonOverlap 55 = .ok (.iconst 4, 1) := by decide +kernel
theorem dX11_commonOverlap_56 : decode cX11_commonOverlap 56 = .ok (.iload_n 1, 1) := by decide +kernel
theorem dX11_commonOverlap_57 : decode cX11_commonOverlap 57 = .ok (.imul, 1) := by decide +kernel
theorem dX11_commonOverlap_58 : decode cX11_commonOverlap 58 = .ok (.iload_n 3, 1) := by decide +kernel
theorem dX11_commonOverlap_59 : decode cX11_commonOverlap 59 = .ok (.iadd, 1) := by decide +kernel
theorem dX11_commonOverlap_60 : decode cX11_commonOverlap 60 = .ok (.iaload, 1) := by decide +kernel
theorem dX11_commonOverlap_61 : decode cX11_commonOverlap 61 = .ok (.istore_n 2, 1) := by decide +kernel
theorem dX11_commonOverlap_62 : decode cX11_commonOverlap 62 = .ok (.iinc 3 1, 3) := by decide +kernel
theorem dX11_commonOverlap_65 : decode cX11_commonOverlap 65 = .ok (.goto (-61), 3) := by decide +kernel
theorem dX11_commonOverlap_68 : decode cX11_commonOverlap 68 = .ok (.iload_n 2, 1) := by decide +kernel
theorem dX11_commonOverlap_69 : decode cX11_commonOverlap 69 = .ok (.ireturn, 1) := by decide +kernel
theorem dX11_closes_0 : decode cX11_closes 0 = .ok (.aload_n 0, 1) := by decide +kernel
theorem dX11_closes_1 : decode cX11_closes 1 = .ok (.getfield 120, 3) := by decide +kernel
theorem dX11_closes_4 : decode cX11_closes 4 = .ok (.iconst 1, 1) := by decide +kernel
theorem dX11_closes_5 : decode cX11_closes 5 = .ok (.isub, 1) := by decide +kernel
theorem dX11_closes_6 : decode cX11_closes 6 = .ok (.istore_n 2, 1) := by decide +kernel
theorem dX11_closes_7 : decode cX11_closes 7 = .ok (.aload_n 0, 1) := by decide +kernel
theorem dX11_closes_8 : decode cX11_closes 8 = .ok (.getfield 59, 3) := by decide +kernel
theorem dX11_closes_11 : decode cX11_closes 11 = .ok (.iload_n 2, 1) := by decide +kernel
theorem dX11_closes_12 : decode cX11_closes 12 = .ok (.dup2, 1) := by decide +kernel
theorem dX11_closes_13 : decode cX11_closes 13 = .ok (.iaload, 1) := by decide +kernel
theorem dX11_closes_14 : decode cX11_closes 14 = .ok (.iconst 1, 1) := by decide +kernel
theorem dX11_closes_15 : decode cX11_closes 15 = .ok (.isub, 1) := by decide +kernel
theorem dX11_closes_16 : decode cX11_closes 16 = .ok (.iastore, 1) := by decide +kernel
theorem dX11_closes_17 : decode cX11_closes 17 = .ok (.aload_n 0, 1) := by decide +kernel
theorem dX11_closes_18 : decode cX11_closes 18 = .ok (.getfield 59, 3) := by decide +kernel
theorem dX11_closes_21 : decode cX11_closes 21 = .ok (.iload_n 2, 1) := by decide +kernel
theorem dX11_closes_22 : decode cX11_closes 22 = .ok (.iaload, 1) := by decide +kernel
theorem dX11_closes_23 : decode cX11_closes 23 = .ok (.ifCond .le 12, 3) := by decide +kernel
theorem dX11_closes_26 : decode cX11_closes 26 = .ok (.aload_n 0, 1) := by decide +kernel
theorem dX11_closes_27 : decode cX11_closes 27 = .ok (.getfield 56, 3) := by decide +kernel
theorem dX11_closes_30 : decode cX11_closes 30 = .ok (.iload_n 2, 1) := by decide +kernel
theorem dX11_closes_31 : decode cX11_closes 31 = .ok (.iaload, 1) := by decide +kernel
theorem dX11_closes_32 : decode cX11_closes 32 = .ok (.iconst 1, 1) := by decide +kernel
theorem dX11_closes_33 : decode cX11_closes 33 = .ok (.iadd, 1) := by decide +kernel
theorem dX11_closes_34 : decode cX11_closes 34 = .ok (.ireturn, 1) := by decide +kernel
theorem dX11_closes_35 : decode cX11_closes 35 = .ok (.aload_n 0, 1) := by decide +kernel
theorem dX11_closes_36 : decode cX11_closes 36 = .ok (.dup, 1) := by decide +kernel
theorem dX11_closes_37 : decode cX11_closes 37 = .ok (.getfield 120, 3) := by decide +kernel
theorem dX11_closes_40 : decode cX11_closes 40 = .ok (.iconst 1, 1) := by decide +kernel
theorem dX11_closes_41 : decode cX11_closes 41 = .ok (.isub, 1) := by decide +kernel
theorem dX11_closes_42 : decode cX11_closes 42 = .ok (.putfield 120, 3) := by decide +kernel
theorem dX11_closes_45 : decode cX11_closes 45 = .ok (.iload_n 1, 1) := by decide +kernel
theorem dX11_closes_46 : decode cX11_closes 46 = .ok (.iconst 1, 1) := by decide +kernel
theorem dX11_closes_47 : decode cX11_closes 47 = .ok (.iadd, 1) := by decide +kernel
theorem dX11_closes_48 : decode cX11_closes 48 = .ok (.ireturn, 1) := by decide +kernel
theorem dX11_goesThrough_0 : decode cX11_goesThrough 0 = .ok (.aload_n 0, 1) := by decide +kernel
theorem dX11_goesThrough_1 : decode cX11_goesThrough 1 = .ok (.iload_n 1, 1) := by decide +kernel
theorem dX11_goesThrough_2 : decode cX11_goesThrough 2 = .ok (.iconst 0, 1) := by decide +kernel
theorem dX11_goesThrough_3 : decode cX11_goesThrough 3 = .ok (.invokevirtual 129, 3) := by decide +kernel
theorem dX11_goesThrough_6 : decode cX11_goesThrough 6 = .ok (.tableswitch 59 2 4 #[26, 42, 53], 26) := by decide +kernel
theorem dX11_goesThrough_32 : decode cX11_goesThrough 32 = .ok (.aload_n 0, 1) := by decide +kernel
theorem dX11_goesThrough_33 : decode cX11_goesThrough 33 = .ok (.iload_n 1, 1) := by decide +kernel
theorem dX11_goesThrough_34 : decode cX11_goesThrough 34 = .ok (.aload_n 0, 1) := by decide +kernel
theorem dX11_goesThrough_35 : decode cX11_goesThrough 35 = .ok (.iload_n 1, 1) := by decide +kernel
theorem dX11_goesThrough_36 : decode cX11_goesThrough 36 = .ok (.iconst 1, 1) := by decide +kernel
theorem dX11_goesThrough_37 : decode cX11_goesThrough 37 = .ok (.invokevirtual 129, 3) := by decide +kernel
theorem dX11_goesThrough_40 : decode cX11_goesThrough 40 = .ok (.iconst 0, 1) := by decide +kernel
theorem dX11_goesThrough_41 : decode cX11_goesThrough 41 = .ok (.invokevirtual 137, 3) := by decide +kernel
theorem dX11_goesThrough_44 : decode cX11_goesThrough 44 = .ok (.iload_n 1, 1) := by decide +kernel
theorem dX11_goesThrough_45 : decode cX11_goesThrough 45 = .ok (.iconst 1, 1) := by decide +kernel
theorem dX11_goesThrough_46 : decode cX11_goesThrough 46 = .ok (.iadd, 1) := by decide +kernel
theorem dX11_goesThrough_47 : decode cX11_goesThrough 47 = .ok (.ireturn, 1) := by decide +kernel
theorem dX11_goesThrough_48 : decode cX11_goesThrough 48 = .ok (.aload_n 0, 1) := by decide +kernel
theorem dX11_goesThrough_49 : decode cX11_goesThrough 49 = .ok (.iload_n 1, 1) := by decide +kernel
theorem dX11_goesThrough_50 : decode cX11_goesThrough 50 = .ok (.iconst 1, 1) := by decide +kernel
theorem dX11_goesThrough_51 : decode cX11_goesThrough 51 = .ok (.iconst 1, 1) := by decide +kernel
theorem dX11_goesThrough_52 : decode cX11_goesThrough 52 = .ok (.invokevirtual 137, 3) := by decide +kernel
theorem dX11_goesThrough_55 : decode cX11_goesThrough 55 = .ok (.iload_n 1, 1) := by decide +kernel
theorem dX11_goesThrough_56 : decode cX11_goesThrough 56 = .ok (.iconst 1, 1) := by decide +kernel
theorem dX11_goesThrough_57 : decode cX11_goesThrough 57 = .ok (.iadd, 1) := by decide +kernel
theorem dX11_goesThrough_58 : decode cX11_goesThrough 58 = .ok (.ireturn, 1) := by decide +kernel
theorem dX11_goesThrough_59 : decode cX11_goesThrough 59 = .ok (.aload_n 0, 1) := by decide +kernel
theorem dX11_goesThrough_60 : decode cX11_goesThrough 60 = .ok (.iload_n 1, 1) := by decide +kernel
theorem dX11_goesThrough_61 : decode cX11_goesThrough 61 = .ok (.invokevirtual 141, 3) := by decide +kernel
theorem dX11_goesThrough_64 : decode cX11_goesThrough 64 = .ok (.ireturn, 1) := by decide +kernel
theorem dX11_goesThrough_65 : decode cX11_goesThrough 65 = .ok (.aload_n 0, 1) := by decide +kernel
theorem dX11_goesThrough_66 : decode cX11_goesThrough 66 = .ok (.iload_n 1, 1) := by decide +kernel
theorem dX11_goesThrough_67 : decode cX11_goesThrough 67 = .ok (.invokevirtual 144, 3) := by decide +kernel
theorem dX11_goesThrough_70 : decode cX11_goesThrough 70 = .ok (.iload_n 1, 1) := by decide +kernel
theorem dX11_goesThrough_71 : decode cX11_goesThrough 71 = .ok (.iconst 1, 1) := by decide +kernel
theorem dX11_goesThrough_72 : decode cX11_goesThrough 72 = .ok (.iadd, 1) := by decide +kernel
theorem dX11_goesThrough_73 : decode cX11_goesThrough 73 = .ok (.ireturn, 1) := by decide +kernel
theorem dX11_laysPieces_0 : decode cX11_laysPieces 0 = .ok (.aload_n 0, 1) := by decide +kernel
theorem dX11_laysPieces_1 : decode cX11_laysPieces 1 = .ok (.iconst 0, 1) := by decide +kernel
theorem dX11_laysPieces_2 : decode cX11_laysPieces 2 = .ok (.putfield 126, 3) := by decide +kernel
theorem dX11_laysPieces_5 : decode cX11_laysPieces 5 = .ok (.aload_n 0, 1) := by decide +kernel
theorem dX11_laysPieces_6 : decode cX11_laysPieces 6 = .ok (.iconst 0, 1) := by decide +kernel
theorem dX11_laysPieces_7 : decode cX11_laysPieces 7 = .ok (.putfield 120, 3) := by decide +kernel
theorem dX11_laysPieces_10 : decode cX11_laysPieces 10 = .ok (.aload_n 0, 1) := by decide +kernel
theorem dX11_laysPieces_11 : decode cX11_laysPieces 11 = .ok (.iconst 0, 1) := by decide +kernel
theorem dX11_laysPieces_12 : decode cX11_laysPieces 12 = .ok (.putfield 123, 3) := by decide +kernel
theorem dX11_laysPieces_15 : decode cX11_laysPieces 15 = .ok (.iconst 0, 1) := by decide +kernel
theorem dX11_laysPieces_16 : decode cX11_laysPieces 16 = .ok (.istore_n 1, 1) := by decide +kernel
theorem dX11_laysPieces_17 : decode cX11_laysPieces 17 = .ok (.iload_n 1, 1) := by decide +kernel
theorem dX11_laysPieces_18 : decode cX11_laysPieces 18 = .ok (.aload_n 0, 1) := by decide +kernel
theorem dX11_laysPieces_19 : decode cX11_laysPieces 19 = .ok (.getfield 7, 3) := by decide +kernel
theorem dX11_laysPieces_22 : decode cX11_laysPieces 22 = .ok (.bipush 8, 2) := by decide +kernel
theorem dX11_laysPieces_24 : decode cX11_laysPieces 24 = .ok (.iaload, 1) := by decide +kernel
theorem dX11_laysPieces_25 : decode cX11_laysPieces 25 = .ok (.if_icmp .ge 21, 3) := by decide +kernel
theorem dX11_laysPieces_28 : decode cX11_laysPieces 28 = .ok (.aload_n 0, 1) := by decide +kernel
theorem dX11_laysPieces_29 : decode cX11_laysPieces 29 = .ok (.getfield 126, 3) := by decide +kernel
theorem dX11_laysPieces_32 : decode cX11_laysPieces 32 = .ok (.bipush 60, 2) := by decide +kernel
theorem dX11_laysPieces_34 : decode cX11_laysPieces 34 = .ok (.if_icmp .gt 12, 3) := by decide +kernel
theorem dX11_laysPieces_37 : decode cX11_laysPieces 37 = .ok (.aload_n 0, 1) := by decide +kernel
theorem dX11_laysPieces_38 : decode cX11_laysPieces 38 = .ok (.iload_n 1, 1) := by decide +kernel
theorem dX11_laysPieces_39 : decode cX11_laysPieces 39 = .ok (.invokevirtual 148, 3) := by decide +kernel
theorem dX11_laysPieces_42 : decode cX11_laysPieces 42 = .ok (.istore_n 1, 1) := by decide +kernel
theorem dX11_laysPieces_43 : decode cX11_laysPieces 43 = .ok (.goto (-26), 3) := by decide +kernel
theorem dX11_laysPieces_46 : decode cX11_laysPieces 46 = .ok (.iconst 0, 1) := by decide +kernel
theorem dX11_laysPieces_47 : decode cX11_laysPieces 47 = .ok (.istore_n 2, 1) := by decide +kernel
theorem dX11_laysPieces_48 : decode cX11_laysPieces 48 = .ok (.iload_n 2, 1) := by decide +kernel
theorem dX11_laysPieces_49 : decode cX11_laysPieces 49 = .ok (.aload_n 0, 1) := by decide +kernel
theorem dX11_laysPieces_50 : decode cX11_laysPieces 50 = .ok (.getfield 126, 3) := by decide +kernel
theorem dX11_laysPieces_53 : decode cX11_laysPieces 53 = .ok (.if_icmp .ge 78, 3) := by decide +kernel
theorem dX11_laysPieces_56 : decode cX11_laysPieces 56 = .ok (.aload_n 0, 1) := by decide +kernel
theorem dX11_laysPieces_57 : decode cX11_laysPieces 57 = .ok (.getfield 44, 3) := by decide +kernel
theorem dX11_laysPieces_60 : decode cX11_laysPieces 60 = .ok (.iload_n 2, 1) := by decide +kernel
theorem dX11_laysPieces_61 : decode cX11_laysPieces 61 = .ok (.iload_n 2, 1) := by decide +kernel
theorem dX11_laysPieces_62 : decode cX11_laysPieces 62 = .ok (.ifCond .ne 7, 3) := by decide +kernel
theorem dX11_laysPieces_65 : decode cX11_laysPieces 65 = .ok (.iconst 0, 1) := by decide +kernel
theorem dX11_laysPieces_66 : decode cX11_laysPieces 66 = .ok (.goto 30, 3) := by decide +kernel
theorem dX11_laysPieces_69 : decode cX11_laysPieces 69 = .ok (.aload_n 0, 1) := by decide +kernel
theorem dX11_laysPieces_70 : decode cX11_laysPieces 70 = .ok (.iload_n 2, 1) := by decide +kernel
theorem dX11_laysPieces_71 : decode cX11_laysPieces 71 = .ok (.invokevirtual 151, 3) := by decide +kernel
theorem dX11_laysPieces_74 : decode cX11_laysPieces 74 = .ok (.aload_n 0, 1) := by decide +kernel
theorem dX11_laysPieces_75 : decode cX11_laysPieces 75 = .ok (.getfield 38, 3) := by decide +kernel
theorem dX11_laysPieces_78 : decode cX11_laysPieces 78 = .ok (.iload_n 2, 1) := by decide +kernel
theorem dX11_laysPieces_79 : decode cX11_laysPieces 79 = .ok (.iaload, 1) := by decide +kernel
theorem dX11_laysPieces_80 : decode cX11_laysPieces 80 = .ok (.aload_n 0, 1) := by decide +kernel
theorem dX11_laysPieces_81 : decode cX11_laysPieces 81 = .ok (.getfield 38, 3) := by decide +kernel
theorem dX11_laysPieces_84 : decode cX11_laysPieces 84 = .ok (.iload_n 2, 1) := by decide +kernel
theorem dX11_laysPieces_85 : decode cX11_laysPieces 85 = .ok (.iconst 1, 1) := by decide +kernel
theorem dX11_laysPieces_86 : decode cX11_laysPieces 86 = .ok (.isub, 1) := by decide +kernel
theorem dX11_laysPieces_87 : decode cX11_laysPieces 87 = .ok (.iaload, 1) := by decide +kernel
theorem dX11_laysPieces_88 : decode cX11_laysPieces 88 = .ok (.invokestatic 154, 3) := by decide +kernel
theorem dX11_laysPieces_91 : decode cX11_laysPieces 91 = .ok (.iconst 2, 1) := by decide +kernel
theorem dX11_laysPieces_92 : decode cX11_laysPieces 92 = .ok (.idiv, 1) := by decide +kernel
theorem dX11_laysPieces_93 : decode cX11_laysPieces 93 = .ok (.invokestatic 154, 3) := by decide +kernel
theorem dX11_laysPieces_96 : decode cX11_laysPieces 96 = .ok (.iastore, 1) := by decide +kernel
theorem dX11_laysPieces_97 : decode cX11_laysPieces 97 = .ok (.aload_n 0, 1) := by decide +kernel
theorem dX11_laysPieces_98 : decode cX11_laysPieces 98 = .ok (.getfield 41, 3) := by decide +kernel
theorem dX11_laysPieces_101 : decode cX11_laysPieces 101 = .ok (.iload_n 2, 1) := by decide +kernel
theorem dX11_laysPieces_102 : decode cX11_laysPieces 102 = .ok (.iload_n 2, 1) := by decide +kernel
theorem dX11_laysPieces_103 : decode cX11_laysPieces 103 = .ok (.ifCond .ne 7, 3) := by decide +kernel
theorem dX11_laysPieces_106 : decode cX11_laysPieces 106 = .ok (.iconst 0, 1) := by decide +kernel
theorem dX11_laysPieces_107 : decode cX11_laysPieces 107 = .ok (.goto 17, 3) := by decide +kernel
theorem dX11_laysPieces_110 : decode cX11_laysPieces 110 = .ok (.aload_n 0, 1) := by decide +kernel
theorem dX11_laysPieces_111 : decode cX11_laysPieces 111 = .ok (.iload_n 2, 1) := by decide +kernel
theorem dX11_laysPieces_112 : decode cX11_laysPieces 112 = .ok (.iconst 1, 1) := by decide +kernel
theorem dX11_laysPieces_113 : decode cX11_laysPieces 113 = .ok (.isub, 1) := by decide +kernel
theorem dX11_laysPieces_114 : decode cX11_laysPieces 114 = .ok (.invokevirtual 159, 3) := by decide +kernel
theorem dX11_laysPieces_117 : decode cX11_laysPieces 117 = .ok (.aload_n 0, 1) := by decide +kernel
theorem dX11_laysPieces_118 : decode cX11_laysPieces 118 = .ok (.getfield 44, 3) := by decide +kernel
theorem dX11_laysPieces_121 : decode cX11_laysPieces 121 = .ok (.iload_n 2, 1) := by decide +kernel
theorem dX11_laysPieces_122 : decode cX11_laysPieces 122 = .ok (.iaload, 1) := by decide +kernel
theorem dX11_laysPieces_123 : decode cX11_laysPieces 123 = .ok (.isub, 1) := by decide +kernel
theorem dX11_laysPieces_124 : decode cX11_laysPieces 124 = .ok (.iastore, 1) := by decide +kernel
theorem dX11_laysPieces_125 : decode cX11_laysPieces 125 = .ok (.iinc 2 1, 3) := by decide +kernel
theorem dX11_laysPieces_128 : decode cX11_laysPieces 128 = .ok (.goto (-80), 3) := by decide +kernel
theorem dX11_laysPieces_131 : decode cX11_laysPieces 131 = .ok (.return_, 1) := by decide +kernel
theorem dX11_endOf_0 : decode cX11_endOf 0 = .ok (.aload_n 0, 1) := by decide +kernel
theorem dX11_endOf_1 : decode cX11_endOf 1 = .ok (.getfield 41, 3) := by decide +kernel
theorem dX11_endOf_4 : decode cX11_endOf 4 = .ok (.iload_n 1, 1) := by decide +kernel
theorem dX11_endOf_5 : decode cX11_endOf 5 = .ok (.iaload, 1) := by decide +kernel
theorem dX11_endOf_6 : decode cX11_endOf 6 = .ok (.aload_n 0, 1) := by decide +kernel
theorem dX11_endOf_7 : decode cX11_endOf 7 = .ok (.getfield 38, 3) := by decide +kernel
theorem dX11_endOf_10 : decode cX11_endOf 10 = .ok (.iload_n 1, 1) := by decide +kernel
theorem dX11_endOf_11 : decode cX11_endOf 11 = .ok (.iaload, 1) := by decide +kernel
theorem dX11_endOf_12 : decode cX11_endOf 12 = .ok (.iadd, 1) := by decide +kernel
theorem dX11_endOf_13 : decode cX11_endOf 13 = .ok (.ireturn, 1) := by decide +kernel
theorem dX11_theEnd_0 : decode cX11_theEnd 0 = .ok (.iconst 0, 1) := by decide +kernel
theorem dX11_theEnd_1 : decode cX11_theEnd 1 = .ok (.istore_n 1, 1) := by decide +kernel
theorem dX11_theEnd_2 : decode cX11_theEnd 2 = .ok (.iconst 0, 1) := by decide +kernel
theorem dX11_theEnd_3 : decode cX11_theEnd 3 = .ok (.istore_n 2, 1) := by decide +kernel
theorem dX11_theEnd_4 : decode cX11_theEnd 4 = .ok (.iload_n 2, 1) := by decide +kernel
theorem dX11_theEnd_5 : decode cX11_theEnd 5 = .ok (.aload_n 0, 1) := by decide +kernel
theorem dX11_theEnd_6 : decode cX11_theEnd 6 = .ok (.getfield 126, 3) := by decide +kernel
theorem dX11_theEnd_9 : decode cX11_theEnd 9 = .ok (.if_icmp .ge 19, 3) := by decide +kernel
theorem dX11_theEnd_12 : decode cX11_theEnd 12 = .ok (.iload_n 1, 1) := by decide +kernel
theorem dX11_theEnd_13 : decode cX11_theEnd 13 = .ok (.aload_n 0, 1) := by decide +kernel
theorem dX11_theEnd_14 : decode cX11_theEnd 14 = .ok (.iload_n 2, 1) := by decide +kernel
theorem dX11_theEnd_15 : decode cX11_theEnd 15 = .ok (.invokevirtual 159, 3) := by decide +kernel
theorem dX11_theEnd_18 : decode cX11_theEnd 18 = .ok (.invokestatic 162, 3) := by decide +kernel
theorem dX11_theEnd_21 : decode cX11_theEnd 21 = .ok (.istore_n 1, 1) := by decide +kernel
theorem dX11_theEnd_22 : decode cX11_theEnd 22 = .ok (.iinc 2 1, 3) := by decide +kernel
theorem dX11_theEnd_25 : decode cX11_theEnd 25 = .ok (.goto (-21), 3) := by decide +kernel
theorem dX11_theEnd_28 : decode cX11_theEnd 28 = .ok (.iload_n 1, 1) := by decide +kernel
theorem dX11_theEnd_29 : decode cX11_theEnd 29 = .ok (.ireturn, 1) := by decide +kernel
theorem dX11_screenIn_0 : decode cX11_screenIn 0 = .ok (.aload_n 0, 1) := by decide +kernel
theorem dX11_screenIn_1 : decode cX11_screenIn 1 = .ok (.getfield 126, 3) := by decide +kernel
theorem dX11_screenIn_4 : decode cX11_screenIn 4 = .ok (.iconst 1, 1) := by decide +kernel
theorem dX11_screenIn_5 : decode cX11_screenIn 5 = .ok (.isub, 1) := by decide +kernel
theorem dX11_screenIn_6 : decode cX11_screenIn 6 = .ok (.istore_n 2, 1) := by decide +kernel
theorem dX11_screenIn_7 : decode cX11_screenIn 7 = .ok (.iload_n 2, 1) := by decide +kernel
theorem dX11_screenIn_8 : decode cX11_screenIn 8 = .ok (.ifCond .lt 31, 3) := by decide +kernel
theorem dX11_screenIn_11 : decode cX11_screenIn 11 = .ok (.iload_n 1, 1) := by decide +kernel
theorem dX11_screenIn_12 : decode cX11_screenIn 12 = .ok (.aload_n 0, 1) := by decide +kernel
theorem dX11_screenIn_13 : decode cX11_screenIn 13 = .ok (.getfield 41, 3) := by decide +kernel
theorem dX11_screenIn_16 : decode cX11_screenIn 16 = .ok (.iload_n 2, 1) := by decide +kernel
theorem dX11_screenIn_17 : decode cX11_screenIn 17 = .ok (.iaload, 1) := by decide +kernel
theorem dX11_screenIn_18 : decode cX11_screenIn 18 = .ok (.aload_n 0, 1) := by decide +kernel
theorem dX11_screenIn_19 : decode cX11_screenIn 19 = .ok (.iload_n 2, 1) := by decide +kernel
theorem dX11_screenIn_20 : decode cX11_screenIn 20 = .ok (.invokevirtual 159, 3) := by decide +kernel
theorem dX11_screenIn_23 : decode cX11_screenIn 23 = .ok (.iconst 1, 1) := by decide +kernel
theorem dX11_screenIn_24 : decode cX11_screenIn 24 = .ok (.isub, 1) := by decide +kernel
theorem dX11_screenIn_25 : decode cX11_screenIn 25 = .ok (.invokestatic 112, 3) := by decide +kernel
theorem dX11_screenIn_28 : decode cX11_screenIn 28 = .ok (.ifCond .eq 5, 3) := by decide +kernel
theorem dX11_screenIn_31 : decode cX11_screenIn 31 = .ok (.iload_n 2, 1) := by decide +kernel
theorem dX11_screenIn_32 : decode cX11_screenIn 32 = .ok (.ireturn, 1) := by decide +kernel
theorem dX11_screenIn_33 : decode cX11_screenIn 33 = .ok (.iinc 2 (-1), 3) := by decide +kernel
theorem dX11_screenIn_36 : decode cX11_screenIn 36 = .ok (.goto (-29), 3) := by decide +kernel
theorem dX11_screenIn_39 : decode cX11_screenIn 39 = .ok (.iconst (-1), 1) := by decide +kernel
theorem dX11_screenIn_40 : decode cX11_screenIn 40 = .ok (.ireturn, 1) := by decide +kernel
theorem dX11_w_0 : decode cX11_w 0 = .ok (.aload_n 0, 1) := by decide +kernel
theorem dX11_w_1 : decode cX11_w 1 = .ok (.getfield 7, 3) := by decide +kernel
theorem dX11_w_4 : decode cX11_w 4 = .ok (.sipush 382, 3) := by decide +kernel
theorem dX11_w_7 : decode cX11_w 7 = .ok (.iconst 3, 1) := by decide +kernel
theorem dX11_w_8 : decode cX11_w 8 = .ok (.iload_n 1, 1) := by decide +kernel
theorem dX11_w_9 : decode cX11_w 9 = .ok (.imul, 1) := by decide +kernel
theorem dX11_w_10 : decode cX11_w 10 = .ok (.iadd, 1) := by decide +kernel
theorem dX11_w_11 : decode cX11_w 11 = .ok (.iload_n 2, 1) := by decide +kernel
theorem dX11_w_12 : decode cX11_w 12 = .ok (.iadd, 1) := by decide +kernel
theorem dX11_w_13 : decode cX11_w 13 = .ok (.iaload, 1) := by decide +kernel
theorem dX11_w_14 : decode cX11_w 14 = .ok (.ireturn, 1) := by decide +kernel
theorem dX11_letter_0 : decode cX11_letter 0 = .ok (.aload_n 0, 1) := by decide +kernel
theorem dX11_letter_1 : decode cX11_letter 1 = .ok (.getfield 7, 3) := by decide +kernel
theorem dX11_letter_4 : decode cX11_letter 4 = .ok (.sipush 562, 3) := by decide +kernel
theorem dX11_letter_7 : decode cX11_letter 7 = .ok (.aload_n 0, 1) := by decide +kernel
theorem dX11_letter_8 : decode cX11_letter 8 = .ok (.iload_n 1, 1) := by decide +kernel
theorem dX11_letter_9 : decode cX11_letter 9 = .ok (.iconst 0, 1) := by decide +kernel
theorem dX11_letter_10 : decode cX11_letter 10 = .ok (.invokevirtual 165, 3) := by decide +kernel
theorem dX11_letter_13 : decode cX11_letter 13 = .ok (.iadd, 1) := by decide +kernel
theorem dX11_letter_14 : decode cX11_letter 14 = .ok (.iload_n 2, 1) := by decide +kernel
theorem dX11_letter_15 : decode cX11_letter 15 = .ok (.iadd, 1) := by decide +kernel
theorem dX11_letter_16 : decode cX11_letter 16 = .ok (.iaload, 1) := by decide +kernel
theorem dX11_letter_17 : decode cX11_letter 17 = .ok (.ireturn, 1) := by decide +kernel
theorem dX11_isVowel_0 : decode cX11_isVowel 0 = .ok (.iload_n 0, 1) := by decide +kernel
theorem dX11_isVowel_1 : decode cX11_isVowel 1 = .ok (.bipush 97, 2) := by decide +kernel
theorem dX11_isVowel_3 : decode cX11_isVowel 3 = .ok (.if_icmp .eq 33, 3) := by decide +kernel
theorem dX11_isVowel_6 : decode cX11_isVowel 6 = .ok (.iload_n 0, 1) := by decide +kernel
theorem dX11_isVowel_7 : decode cX11_isVowel 7 = .ok (.bipush 101, 2) := by decide +kernel
theorem dX11_isVowel_9 : decode cX11_isVowel 9 = .ok (.if_icmp .eq 27, 3) := by decide +kernel
theorem dX11_isVowel_12 : decode cX11_isVowel 12 = .ok (.iload_n 0, 1) := by decide +kernel
theorem dX11_isVowel_13 : decode cX11_isVowel 13 = .ok (.bipush 105, 2) := by decide +kernel
theorem dX11_isVowel_15 : decode cX11_isVowel 15 = .ok (.if_icmp .eq 21, 3) := by decide +kernel
theorem dX11_isVowel_18 : decode cX11_isVowel 18 = .ok (.iload_n 0, 1) := by decide +kernel
theorem dX11_isVowel_19 : decode cX11_isVowel 19 = .ok (.bipush 111, 2) := by decide +kernel
theorem dX11_isVowel_21 : decode cX11_isVowel 21 = .ok (.if_icmp .eq 15, 3) := by decide +kernel
theorem dX11_isVowel_24 : decode cX11_isVowel 24 = .ok (.iload_n 0, 1) := by decide +kernel
theorem dX11_isVowel_25 : decode cX11_isVowel 25 = .ok (.bipush 117, 2) := by decide +kernel
theorem dX11_isVowel_27 : decode cX11_isVowel 27 = .ok (.if_icmp .eq 9, 3) := by decide +kernel
theorem dX11_isVowel_30 : decode cX11_isVowel 30 = .ok (.iload_n 0, 1) := by decide +kernel
theorem dX11_isVowel_31 : decode cX11_isVowel 31 = .ok (.bipush 121, 2) := by decide +kernel
theorem dX11_isVowel_33 : decode cX11_isVowel 33 = .ok (.if_icmp .ne 7, 3) := by decide +kernel
theorem dX11_isVowel_36 : decode cX11_isVowel 36 = .ok (.iconst 1, 1) := by decide +kernel
theorem dX11_isVowel_37 : decode cX11_isVowel 37 = .ok (.goto 4, 3) := by decide +kernel
theorem dX11_isVowel_40 : decode cX11_isVowel 40 = .ok (.iconst 0, 1) := by decide +kernel
theorem dX11_isVowel_41 : decode cX11_isVowel 41 = .ok (.ireturn, 1) := by decide +kernel
theorem dX11_syllables_0 : decode cX11_syllables 0 = .ok (.iconst 0, 1) := by decide +kernel
theorem dX11_syllables_1 : decode cX11_syllables 1 = .ok (.istore_n 2, 1) := by decide +kernel
theorem dX11_syllables_2 : decode cX11_syllables 2 = .ok (.iconst 0, 1) := by decide +kernel
theorem dX11_syllables_3 : decode cX11_syllables 3 = .ok (.istore_n 3, 1) := by decide +kernel
theorem dX11_syllables_4 : decode cX11_syllables 4 = .ok (.iload_n 3, 1) := by decide +kernel
theorem dX11_syllables_5 : decode cX11_syllables 5 = .ok (.aload_n 0, 1) := by decide +kernel
theorem dX11_syllables_6 : decode cX11_syllables 6 = .ok (.iload_n 1, 1) := by decide +kernel
theorem dX11_syllables_7 : decode cX11_syllables 7 = .ok (.iconst 1, 1) := by decide +kernel
theorem dX11_syllables_8 : decode cX11_syllables 8 = .ok (.invokevirtual 165, 3) := by decide +kernel
theorem dX11_syllables_11 : decode cX11_syllables 11 = .ok (.if_icmp .ge 50, 3) := by decide +kernel
theorem dX11_syllables_14 : decode cX11_syllables 14 = .ok (.iload_n 2, 1) := by decide +kernel
theorem dX11_syllables_15 : decode cX11_syllables 15 = .ok (.aload_n 0, 1) := by decide +kernel
theorem dX11_syllables_16 : decode cX11_syllables 16 = .ok (.iload_n 1, 1) := by decide +kernel
theorem dX11_syllables_17 : decode cX11_syllables 17 = .ok (.iload_n 3, 1) := by decide +kernel
theorem dX11_syllables_18 : decode cX11_syllables 18 = .ok (.invokevirtual 168, 3) := by decide +kernel
theorem dX11_syllables_21 : decode cX11_syllables 21 = .ok (.invokestatic 171, 3) := by decide +kernel
theorem dX11_syllables_24 : decode cX11_syllables 24 = .ok (.ifCond .eq 25, 3) := by decide +kernel
theorem dX11_syllables_27 : decode cX11_syllables 27 = .ok (.iload_n 3, 1) := by decide +kernel
theorem dX11_syllables_28 : decode cX11_syllables 28 = .ok (.ifCond .eq 17, 3) := by decide +kernel
theorem dX11_syllables_31 : decode cX11_syllables 31 = .ok (.aload_n 0, 1) := by decide +kernel
theorem dX11_syllables_32 : decode cX11_syllables 32 = .ok (.iload_n 1, 1) := by decide +kernel
theorem dX11_syllables_33 : decode cX11_syllables 33 = .ok (.iload_n 3, 1) := by decide +kernel
theorem dX11_syllables_34 : decode cX11_syllables 34 = .ok (.iconst 1, 1) := by decide +kernel
theorem dX11_syllables_35 : decode cX11_syllables 35 = .ok (.isub, 1) := by decide +kernel
theorem dX11_syllables_36 : decode cX11_syllables 36 = .ok (.invokevirtual 168, 3) := by decide +kernel
theorem dX11_syllables_39 : decode cX11_syllables 39 = .ok (.invokestatic 171, 3) := by decide +kernel
theorem dX11_syllables_42 : decode cX11_syllables 42 = .ok (.ifCond .ne 7, 3) := by decide +kernel
theorem dX11_syllables_45 : decode cX11_syllables 45 = .ok (.iconst 1, 1) := by decide +kernel
theorem dX11_syllables_46 : decode cX11_syllables 46 = .ok (.goto 4, 3) := by decide +kernel
theorem dX11_syllables_49 : decode cX11_syllables 49 = .ok (.iconst 0, 1) := by decide +kernel
theorem dX11_syllables_50 : decode cX11_syllables 50 = .ok (.invokestatic 133, 3) := by decide +kernel
theorem dX11_syllables_53 : decode cX11_syllables 53 = .ok (.iadd, 1) := by decide +kernel
theorem dX11_syllables_54 : decode cX11_syllables 54 = .ok (.istore_n 2, 1) := by decide +kernel
theorem dX11_syllables_55 : decode cX11_syllables 55 = .ok (.iinc 3 1, 3) := by decide +kernel
theorem dX11_syllables_58 : decode cX11_syllables 58 = .ok (.goto (-54), 3) := by decide +kernel
theorem dX11_syllables_61 : decode cX11_syllables 61 = .ok (.iconst 1, 1) := by decide +kernel
theorem dX11_syllables_62 : decode cX11_syllables 62 = .ok (.iload_n 2, 1) := by decide +kernel
theorem dX11_syllables_63 : decode cX11_syllables 63 = .ok (.invokestatic 162, 3) := by decide +kernel
theorem dX11_syllables_66 : decode cX11_syllables 66 = .ok (.ireturn, 1) := by decide +kernel
theorem dX11_allSyllables_0 : decode cX11_allSyllables 0 = .ok (.iconst 0, 1) := by decide +kernel
theorem dX11_allSyllables_1 : decode cX11_allSyllables 1 = .ok (.istore_n 1, 1) := by decide +kernel
theorem dX11_allSyllables_2 : decode cX11_allSyllables 2 = .ok (.iconst 0, 1) := by decide +kernel
theorem dX11_allSyllables_3 : decode cX11_allSyllables 3 = .ok (.istore_n 2, 1) := by decide +kernel
theorem dX11_allSyllables_4 : decode cX11_allSyllables 4 = .ok (.iload_n 2, 1) := by decide +kernel
theorem dX11_allSyllables_5 : decode cX11_allSyllables 5 = .ok (.aload_n 0, 1) := by decide +kernel
theorem dX11_allSyllables_6 : decode cX11_allSyllables 6 = .ok (.getfield 7, 3) := by decide +kernel
theorem dX11_allSyllables_9 : decode cX11_allSyllables 9 = .ok (.bipush 9, 2) := by decide +kernel
theorem dX11_allSyllables_11 : decode cX11_allSyllables 11 = .ok (.iaload, 1) := by decide +kernel
theorem dX11_allSyllables_12 : decode cX11_allSyllables 12 = .ok (.if_icmp .ge 17, 3) := by decide +kernel
theorem dX11_allSyllables_15 : decode cX11_allSyllables 15 = .ok (.iload_n 1, 1) := by decide +kernel
theorem dX11_allSyllables_16 : decode cX11_allSyllables 16 = .ok (.aload_n 0, 1) := by decide +kernel
theorem dX11_allSyllables_17 : decode cX11_allSyllables 17 = .ok (.iload_n 2, 1) := by decide +kernel
theorem dX11_allSyllables_18 : decode cX11_allSyllables 18 = .ok (.invokevirtual 175, 3) := by decide +kernel
theorem dX11_allSyllables_21 : decode cX11_allSyllables 21 = .ok (.iadd, 1) := by decide +kernel
theorem dX11_allSyllables_22 : decode cX11_allSyllables 22 = .ok (.istore_n 1, 1) := by decide +kernel
theorem dX11_allSyllables_23 : decode cX11_allSyllables 23 = .ok (.iinc 2 1, 3) := by decide +kernel
theorem dX11_allSyllables_26 : decode cX11_allSyllables 26 = .ok (.goto (-22), 3) := by decide +kernel
theorem dX11_allSyllables_29 : decode cX11_allSyllables 29 = .ok (.iload_n 1, 1) := by decide +kernel
theorem dX11_allSyllables_30 : decode cX11_allSyllables 30 = .ok (.ireturn, 1) := by decide +kernel
theorem dX11_sentencesAhead_0 : decode cX11_sentencesAhead 0 = .ok (.iconst 0, 1) := by decide +kernel
theorem dX11_sentencesAhead_1 : decode cX11_sentencesAhead 1 = .ok (.istore_n 2, 1) := by decide +kernel
theorem dX11_sentencesAhead_2 : decode cX11_sentencesAhead 2 = .ok (.iconst 0, 1) := by decide +kernel
theorem dX11_sentencesAhead_3 : decode cX11_sentencesAhead 3 = .ok (.istore_n 3, 1) := by decide +kernel
theorem dX11_sentencesAhead_4 : decode cX11_sentencesAhead 4 = .ok (.iload_n 3, 1) := by decide +kernel
theorem dX11_sentencesAhead_5 : decode cX11_sentencesAhead 5 = .ok (.iload_n 1, 1) := by decide +kernel
theorem dX11_sentencesAhead_6 : decode cX11_sentencesAhead 6 = .ok (.if_icmp .ge 18, 3) := by decide +kernel
theorem dX11_sentencesAhead_9 : decode cX11_sentencesAhead 9 = .ok (.iload_n 2, 1) := by decide +kernel
theorem dX11_sentencesAhead_10 : decode cX11_sentencesAhead 10 = .ok (.aload_n 0, 1) := by decide +kernel
theorem dX11_sentencesAhead_11 : decode cX11_sentencesAhead 11 = .ok (.iload_n 3, 1) := by decide +kernel
theorem dX11_sentencesAhead_12 : decode cX11_sentencesAhead 12 = .ok (.iconst 2, 1) := by decide +kernel
theorem dX11_sentencesAhead_13 : decode cX11_sentencesAhead 13 = .ok (.invokevirtual 165, 3) := by decide +kernel
theorem dX11_sentencesAhead_16 : decode cX11_sentencesAhead 16 = .ok (.iadd, 1) := by decide +kernel
theorem dX11_sentencesAhead_17 : decode cX11_sentencesAhead 17 = .ok (.istore_n 2, 1) := by decide +kernel
theorem dX11_sentencesAhead_18 : decode cX11_sentencesAhead 18 = .ok (.iinc 3 1, 3) := by decide +kernel
theorem dX11_sentencesAhead_21 : decode cX11_sentencesAhead 21 = .ok (.goto (-17), 3) := by decide +kernel
theorem dX11_sentencesAhead_24 : decode cX11_sentencesAhead 24 = .ok (.iload_n 2, 1) := by decide +kernel
theorem dX11_sentencesAhead_25 : decode cX11_sentencesAhead 25 = .ok (.ireturn, 1) := by decide +kernel
theorem dX11_laysWords_0 : decode cX11_laysWords 0 = .ok (.iconst 0, 1) := by decide +kernel
theorem dX11_laysWords_1 : decode cX11_laysWords 1 = .ok (.istore_n 1, 1) := by decide +kernel
theorem dX11_laysWords_2 : decode cX11_laysWords 2 = .ok (.iconst 0, 1) := by decide +kernel
theorem dX11_laysWords_3 : decode cX11_laysWords 3 = .ok (.istore_n 2, 1) := by decide +kernel
theorem dX11_laysWords_4 : decode cX11_laysWords 4 = .ok (.iload_n 2, 1) := by decide +kernel
theorem dX11_laysWords_5 : decode cX11_laysWords 5 = .ok (.aload_n 0, 1) := by decide +kernel
theorem dX11_laysWords_6 : decode cX11_laysWords 6 = .ok (.getfield 7, 3) := by decide +kernel
theorem dX11_laysWords_9 : decode cX11_laysWords 9 = .ok (.bipush 9, 2) := by decide +kernel
theorem dX11_laysWords_11 : decode cX11_laysWords 11 = .ok (.iaload, 1) := by decide +kernel
theorem dX11_laysWords_12 : decode cX11_laysWords 12 = .ok (.if_icmp .ge 67, 3) := by decide +kernel
theorem dX11_laysWords_15 : decode cX11_laysWords 15 = .ok (.iload_n 1, 1) := by decide +kernel
theorem dX11_laysWords_16 : decode cX11_laysWords 16 = .ok (.iload_n 2, 1) := by decide +kernel
theorem dX11_laysWords_17 : decode cX11_laysWords 17 = .ok (.ifCond .le 24, 3) := by decide +kernel
theorem dX11_laysWords_20 : decode cX11_laysWords 20 = .ok (.aload_n 0, 1) := by decide +kernel
theorem dX11_laysWords_21 : decode cX11_laysWords 21 = .ok (.iload_n 2, 1) := by decide +kernel
theorem dX11_laysWords_22 : decode cX11_laysWords 22 = .ok (.iconst 1, 1) := by decide +kernel
theorem dX11_laysWords_23 : decode cX11_laysWords 23 = .ok (.isub, 1) := by decide +kernel
theorem dX11_laysWords_24 : decode cX11_laysWords 24 = .ok (.iconst 2, 1) := by decide +kernel
theorem dX11_laysWords_25 : decode cX11_laysWords 25 = .ok (.invokevirtual 165, 3) := by decide +kernel
theorem dX11_laysWords_28 : decode cX11_laysWords 28 = .ok (.iconst 1, 1) := by decide +kernel
theorem dX11_laysWords_29 : decode cX11_laysWords 29 = .ok (.if_icmp .ne 12, 3) := by decide +kernel
theorem dX11_laysWords_32 : decode cX11_laysWords 32 = .ok (.aload_n 0, 1) := by decide +kernel
theorem dX11_laysWords_33 : decode cX11_laysWords 33 = .ok (.getfield 7, 3) := by decide +kernel
theorem dX11_laysWords_36 : decode cX11_laysWords 36 = .ok (.iconst 2, 1) := by decide +kernel
theorem dX11_laysWords_37 : decode cX11_laysWords 37 = .ok (.iaload, 1) := by decide +kernel
theorem dX11_laysWords_38 : decode cX11_laysWords 38 = .ok (.goto 4, 3) := by decide +kernel
theorem dX11_laysWords_41 : decode cX11_laysWords 41 = .ok (.iconst 0, 1) := by decide +kernel
theorem dX11_laysWords_42 : decode cX11_laysWords 42 = .ok (.iadd, 1) := by decide +kernel
theorem dX11_laysWords_43 : decode cX11_laysWords 43 = .ok (.istore_n 1, 1) := by decide +kernel
theorem dX11_laysWords_44 : decode cX11_laysWords 44 = .ok (.aload_n 0, 1) := by decide +kernel
theorem dX11_laysWords_45 : decode cX11_laysWords 45 = .ok (.getfield 65, 3) := by decide +kernel
theorem dX11_laysWords_48 : decode cX11_laysWords 48 = .ok (.iload_n 2, 1) := by decide +kernel
theorem dX11_laysWords_49 : decode cX11_laysWords 49 = .ok (.iload_n 1, 1) := by decide +kernel
theorem dX11_laysWords_50 : decode cX11_laysWords 50 = .ok (.iastore, 1) := by decide +kernel
theorem dX11_laysWords_51 : decode cX11_laysWords 51 = .ok (.iload_n 1, 1) := by decide +kernel
theorem dX11_laysWords_52 : decode cX11_laysWords 52 = .ok (.aload_n 0, 1) := by decide +kernel
theorem dX11_laysWords_53 : decode cX11_laysWords 53 = .ok (.getfield 7, 3) := by decide +kernel
theorem dX11_laysWords_56 : decode cX11_laysWords 56 = .ok (.iconst 1, 1) := by decide +kernel
theorem dX11_laysWords_57 : decode cX11_laysWords 57 = .ok (.iaload, 1) := by decide +kernel
theorem dX11_laysWords_58 : decode cX11_laysWords 58 = .ok (.aload_n 0, 1) := by decide +kernel
theorem dX11_laysWords_59 : decode cX11_laysWords 59 = .ok (.iload_n 2, 1) := by decide +kernel
theorem dX11_laysWords_60 : decode cX11_laysWords 60 = .ok (.invokevirtual 175, 3) := by decide +kernel
theorem dX11_laysWords_63 : decode cX11_laysWords 63 = .ok (.imul, 1) := by decide +kernel
theorem dX11_laysWords_64 : decode cX11_laysWords 64 = .ok (.iadd, 1) := by decide +kernel
theorem dX11_laysWords_65 : decode cX11_laysWords 65 = .ok (.istore_n 1, 1) := by decide +kernel
theorem dX11_laysWords_66 : decode cX11_laysWords 66 = .ok (.aload_n 0, 1) := by decide +kernel
theorem dX11_laysWords_67 : decode cX11_laysWords 67 = .ok (.getfield 68, 3) := by decide +kernel
theorem dX11_laysWords_70 : decode cX11_laysWords 70 = .ok (.iload_n 2, 1) := by decide +kernel
theorem dX11_laysWords_71 : decode cX11_laysWords 71 = .ok (.iload_n 1, 1) := by decide +kernel
theorem dX11_laysWords_72 : decode cX11_laysWords 72 = .ok (.iastore, 1) := by decide +kernel
theorem dX11_laysWords_73 : decode cX11_laysWords 73 = .ok (.iinc 2 1, 3) := by decide +kernel
theorem dX11_laysWords_76 : decode cX11_laysWords 76 = .ok (.goto (-72), 3) := by decide +kernel
theorem dX11_laysWords_79 : decode cX11_laysWords 79 = .ok (.iload_n 1, 1) := by decide +kernel
theorem dX11_laysWords_80 : decode cX11_laysWords 80 = .ok (.ireturn, 1) := by decide +kernel
theorem dX11_isNamed_0 : decode cX11_isNamed 0 = .ok (.bipush 36, 2) := by decide +kernel
theorem dX11_isNamed_2 : decode cX11_isNamed 2 = .ok (.bipush 10, 2) := by decide +kernel
theorem dX11_isNamed_4 : decode cX11_isNamed 4 = .ok (.iload_n 2, 1) := by decide +kernel
theorem dX11_isNamed_5 : decode cX11_isNamed 5 = .ok (.imul, 1) := by decide +kernel
theorem dX11_isNamed_6 : decode cX11_isNamed 6 = .ok (.iadd, 1) := by decide +kernel
theorem dX11_isNamed_7 : decode cX11_isNamed 7 = .ok (.istore_n 3, 1) := by decide +kernel
theorem dX11_isNamed_8 : decode cX11_isNamed 8 = .ok (.aload_n 0, 1) := by decide +kernel
theorem dX11_isNamed_9 : decode cX11_isNamed 9 = .ok (.getfield 7, 3) := by decide +kernel
theorem dX11_isNamed_12 : decode cX11_isNamed 12 = .ok (.iload_n 3, 1) := by decide +kernel
theorem dX11_isNamed_13 : decode cX11_isNamed 13 = .ok (.iaload, 1) := by decide +kernel
theorem dX11_isNamed_14 : decode cX11_isNamed 14 = .ok (.aload_n 0, 1) := by decide +kernel
theorem dX11_isNamed_15 : decode cX11_isNamed 15 = .ok (.iload_n 1, 1) := by decide +kernel
theorem dX11_isNamed_16 : decode cX11_isNamed 16 = .ok (.iconst 1, 1) := by decide +kernel
theorem dX11_isNamed_17 : decode cX11_isNamed 17 = .ok (.invokevirtual 165, 3) := by decide +kernel
theorem dX11_isNamed_20 : decode cX11_isNamed 20 = .ok (.if_icmp .ne 7, 3) := by decide +kernel
theorem dX11_isNamed_23 : decode cX11_isNamed 23 = .ok (.iconst 1, 1) := by decide +kernel
theorem dX11_isNamed_24 : decode cX11_isNamed 24 = .ok (.goto 4, 3) := by decide +kernel
theorem dX11_isNamed_27 : decode cX11_isNamed 27 = .ok (.iconst 0, 1) := by decide +kernel
theorem dX11_isNamed_28 : decode cX11_isNamed 28 = .ok (.istore 4, 2) := by decide +kernel
theorem dX11_isNamed_30 : decode cX11_isNamed 30 = .ok (.iconst 0, 1) := by decide +kernel
theorem dX11_isNamed_31 : decode cX11_isNamed 31 = .ok (.istore 5, 2) := by decide +kernel
theorem dX11_isNamed_33 : decode cX11_isNamed 33 = .ok (.iload 4, 2) := by decide +kernel
theorem dX11_isNamed_35 : decode cX11_isNamed 35 = .ok (.ifCond .eq 48, 3) := by decide +kernel
theorem dX11_isNamed_38 : decode cX11_isNamed 38 = .ok (.iload 5, 2) := by decide +kernel
theorem dX11_isNamed_40 : decode cX11_isNamed 40 = .ok (.aload_n 0, 1) := by decide +kernel
theorem dX11_isNamed_41 : decode cX11_isNamed 41 = .ok (.getfield 7, 3) := by decide +kernel
theorem dX11_isNamed_44 : decode cX11_isNamed 44 = .ok (.iload_n 3, 1) := by decide +kernel
theorem dX11_isNamed_45 : decode cX11_isNamed 45 = .ok (.iaload, 1) := by decide +kernel
theorem dX11_isNamed_46 : decode cX11_isNamed 46 = .ok (.if_icmp .ge 37, 3) := by decide +kernel
theorem dX11_isNamed_49 : decode cX11_isNamed 49 = .ok (.aload_n 0, 1) := by decide +kernel
theorem dX11_isNamed_50 : decode cX11_isNamed 50 = .ok (.getfield 7, 3) := by decide +kernel
theorem dX11_isNamed_53 : decode cX11_isNamed 53 = .ok (.iload_n 3, 1) := by decide +kernel
theorem dX11_isNamed_54 : decode cX11_isNamed 54 = .ok (.iconst 1, 1) := by decide +kernel
theorem dX11_isNamed_55 : decode cX11_isNamed 55 = .ok (.iadd, 1) := by decide +kernel
theorem dX11_isNamed_56 : decode cX11_isNamed 56 = .ok (.iload 5, 2) := by decide +kernel
theorem dX11_isNamed_58 : decode cX11_isNamed 58 = .ok (.iadd, 1) := by decide +kernel
theorem dX11_isNamed_59 : decode cX11_isNamed 59 = .ok (.iaload, 1) := by decide +kernel
theorem dX11_isNamed_60 : decode cX11_isNamed 60 = .ok (.aload_n 0, 1) := by decide +kernel
theorem dX11_isNamed_61 : decode cX11_isNamed 61 = .ok (.iload_n 1, 1) := by decide +kernel
theorem dX11_isNamed_62 : decode cX11_isNamed 62 = .ok (.iload 5, 2) := by decide +kernel
theorem dX11_isNamed_64 : decode cX11_isNamed 64 = .ok (.invokevirtual 168, 3) := by decide +kernel
theorem dX11_isNamed_67 : decode cX11_isNamed 67 = .ok (.if_icmp .ne 7, 3) := by decide +kernel
theorem dX11_isNamed_70 : decode cX11_isNamed 70 = .ok (.iconst 1, 1) := by decide +kernel
theorem dX11_isNamed_71 : decode cX11_isNamed 71 = .ok (.goto 4, 3) := by decide +kernel
theorem dX11_isNamed_74 : decode cX11_isNamed 74 = .ok (.iconst 0, 1) := by decide +kernel
theorem dX11_isNamed_75 : decode cX11_isNamed 75 = .ok (.istore 4, 2) := by decide +kernel
theorem dX11_isNamed_77 : decode cX11_isNamed 77 = .ok (.iinc 5 1, 3) := by decide +kernel
theorem dX11_isNamed_80 : decode cX11_isNamed 80 = .ok (.goto (-47), 3) := by decide +kernel
theorem dX11_isNamed_83 : decode cX11_isNamed 83 = .ok (.iload 4, 2) := by decide +kernel
theorem dX11_isNamed_85 : decode cX11_isNamed 85 = .ok (.ireturn, 1) := by decide +kernel
theorem dX11_mapOf_0 : decode cX11_mapOf 0 = .ok (.iconst 0, 1) := by decide +kernel
theorem dX11_mapOf_1 : decode cX11_mapOf 1 = .ok (.istore_n 2, 1) := by decide +kernel
theorem dX11_mapOf_2 : decode cX11_mapOf 2 = .ok (.iload_n 2, 1) := by decide +kernel
theorem dX11_mapOf_3 : decode cX11_mapOf 3 = .ok (.aload_n 0, 1) := by decide +kernel
theorem dX11_mapOf_4 : decode cX11_mapOf 4 = .ok (.getfield 7, 3) := by decide +kernel
theorem dX11_mapOf_7 : decode cX11_mapOf 7 = .ok (.bipush 6, 2) := by decide +kernel
theorem dX11_mapOf_9 : decode cX11_mapOf 9 = .ok (.iaload, 1) := by decide +kernel
theorem dX11_mapOf_10 : decode cX11_mapOf 10 = .ok (.if_icmp .ge 20, 3) := by decide +kernel
theorem dX11_mapOf_13 : decode cX11_mapOf 13 = .ok (.aload_n 0, 1) := by decide +kernel
theorem dX11_mapOf_14 : decode cX11_mapOf 14 = .ok (.iload_n 1, 1) := by decide +kernel
theorem dX11_mapOf_15 : decode cX11_mapOf 15 = .ok (.iload_n 2, 1) := by decide +kernel
theorem dX11_mapOf_16 : decode cX11_mapOf 16 = .ok (.invokevirtual 178, 3) := by decide +kernel
theorem dX11_mapOf_19 : decode cX11_mapOf 19 = .ok (.ifCond .eq 5, 3) := by decide +kernel
theorem dX11_mapOf_22 : decode cX11_mapOf 22 = .ok (.iload_n 2, 1) := by decide +kernel
theorem dX11_mapOf_23 : decode cX11_mapOf 23 = .ok (.ireturn, 1) := by decide +kernel
theorem dX11_mapOf_24 : decode cX11_mapOf 24 = .ok (.iinc 2 1, 3) := by decide +kernel
theorem dX11_mapOf_27 : decode cX11_mapOf 27 = .ok (.goto (-25), 3) := by decide +kernel
theorem dX11_mapOf_30 : decode cX11_mapOf 30 = .ok (.iconst (-1), 1) := by decide +kernel
theorem dX11_mapOf_31 : decode cX11_mapOf 31 = .ok (.ireturn, 1) := by decide +kernel
theorem dX11_isShown_0 : decode cX11_isShown 0 = .ok (.aload_n 0, 1) := by decide +kernel
theorem dX11_isShown_1 : decode cX11_isShown 1 = .ok (.aload_n 0, 1) := by decide +kernel
theorem dX11_isShown_2 : decode cX11_isShown 2 = .ok (.getfield 65, 3) := by decide +kernel
theorem dX11_isShown_5 : decode cX11_isShown 5 = .ok (.iload_n 2, 1) := by decide +kernel
theorem dX11_isShown_6 : decode cX11_isShown 6 = .ok (.iaload, 1) := by decide +kernel
theorem dX11_isShown_7 : decode cX11_isShown 7 = .ok (.invokevirtual 181, 3) := by decide +kernel
theorem dX11_isShown_10 : decode cX11_isShown 10 = .ok (.istore_n 3, 1) := by decide +kernel
theorem dX11_isShown_11 : decode cX11_isShown 11 = .ok (.iload_n 3, 1) := by decide +kernel
theorem dX11_isShown_12 : decode cX11_isShown 12 = .ok (.iconst (-1), 1) := by decide +kernel
theorem dX11_isShown_13 : decode cX11_isShown 13 = .ok (.if_icmp .eq 27, 3) := by decide +kernel
theorem dX11_isShown_16 : decode cX11_isShown 16 = .ok (.aload_n 0, 1) := by decide +kernel
theorem dX11_isShown_17 : decode cX11_isShown 17 = .ok (.getfield 29, 3) := by decide +kernel
theorem dX11_isShown_20 : decode cX11_isShown 20 = .ok (.iload_n 3, 1) := by decide +kernel
theorem dX11_isShown_21 : decode cX11_isShown 21 = .ok (.iaload, 1) := by decide +kernel
theorem dX11_isShown_22 : decode cX11_isShown 22 = .ok (.iconst 1, 1) := by decide +kernel
theorem dX11_isShown_23 : decode cX11_isShown 23 = .ok (.if_icmp .ne 17, 3) := by decide +kernel
theorem dX11_isShown_26 : decode cX11_isShown 26 = .ok (.aload_n 0, 1) := by decide +kernel
theorem dX11_isShown_27 : decode cX11_isShown 27 = .ok (.getfield 32, 3) := by decide +kernel
theorem dX11_isShown_30 : decode cX11_isShown 30 = .ok (.iload_n 3, 1) := by decide +kernel
theorem dX11_isShown_31 : decode cX11_isShown 31 = .ok (.iaload, 1) := by decide +kernel
theorem dX11_isShown_32 : decode cX11_isShown 32 = .ok (.iload_n 1, 1) := by decide +kernel
theorem dX11_isShown_33 : decode cX11_isShown 33 = .ok (.if_icmp .ne 7, 3) := by decide +kernel
theorem dX11_isShown_36 : decode cX11_isShown 36 = .ok (.iconst 1, 1) := by decide +kernel
theorem dX11_isShown_37 : decode cX11_isShown 37 = .ok (.goto 4, 3) := by decide +kernel
theorem dX11_isShown_40 : decode cX11_isShown 40 = .ok (.iconst 0, 1) := by decide +kernel
theorem dX11_isShown_41 : decode cX11_isShown 41 = .ok (.ireturn, 1) := by decide +kernel
theorem dX11_candidates_0 : decode cX11_candidates 0 = .ok (.iload_n 1, 1) := by decide +kernel
theorem dX11_candidates_1 : decode cX11_candidates 1 = .ok (.iconst 5, 1) := by decide +kernel
theorem dX11_candidates_2 : decode cX11_candidates 2 = .ok (.if_icmp .ne 7, 3) := by decide +kernel
theorem dX11_candidates_5 : decode cX11_candidates 5 = .ok (.iconst 1, 1) := by decide +kernel
theorem dX11_candidates_6 : decode cX11_candidates 6 = .ok (.goto 22, 3) := by decide +kernel
theorem dX11_candidates_9 : decode cX11_candidates 9 = .ok (.iload_n 1, 1) := by decide +kernel
theorem dX11_candidates_10 : decode cX11_candidates 10 = .ok (.iconst 2, 1) := by decide +kernel
theorem dX11_candidates_11 : decode cX11_candidates 11 = .ok (.if_icmp .ne 13, 3) := by decide +kernel
theorem dX11_candidates_14 : decode cX11_candidates 14 = .ok (.aload_n 0, 1) := by decide +kernel
theorem dX11_candidates_15 : decode cX11_candidates 15 = .ok (.getfield 7, 3) := by decide +kernel
theorem dX11_candidates_18 : decode cX11_candidates 18 = .ok (.bipush 9, 2) := by decide +kernel
theorem dX11_candidates_20 : decode cX11_candidates 20 = .ok (.iaload, 1) := by decide +kernel
theorem dX11_candidates_21 : decode cX11_candidates 21 = .ok (.goto 7, 3) := by decide +kernel
theorem dX11_candidates_24 : decode cX11_candidates 24 = .ok (.aload_n 0, 1) := by decide +kernel
theorem dX11_candidates_25 : decode cX11_candidates 25 = .ok (.getfield 126, 3) := by decide +kernel
theorem dX11_candidates_28 : decode cX11_candidates 28 = .ok (.ireturn, 1) := by decide +kernel
theorem dX11_isShot_0 : decode cX11_isShot 0 = .ok (.aload_n 0, 1) := by decide +kernel
theorem dX11_isShot_1 : decode cX11_isShot 1 = .ok (.getfield 29, 3) := by decide +kernel
theorem dX11_isShot_4 : decode cX11_isShot 4 = .ok (.iload_n 1, 1) := by decide +kernel
theorem dX11_isShot_5 : decode cX11_isShot 5 = .ok (.iaload, 1) := by decide +kernel
theorem dX11_isShot_6 : decode cX11_isShot 6 = .ok (.ifCond .ne 7, 3) := by decide +kernel
theorem dX11_isShot_9 : decode cX11_isShot 9 = .ok (.iconst 1, 1) := by decide +kernel
theorem dX11_isShot_10 : decode cX11_isShot 10 = .ok (.goto 4, 3) := by decide +kernel
theorem dX11_isShot_13 : decode cX11_isShot 13 = .ok (.iconst 0, 1) := by decide +kernel
theorem dX11_isShot_14 : decode cX11_isShot 14 = .ok (.ireturn, 1) := by decide +kernel
theorem dX11_isFault_0 : decode cX11_isFault 0 = .ok (.iload_n 1, 1) := by decide +kernel
theorem dX11_isFault_1 : decode cX11_isFault 1 = .ok (.tableswitch 160 1 4 #[31, 58, 86, 107], 31) := by decide +kernel
theorem dX11_isFault_32 : decode cX11_isFault 32 = .ok (.aload_n 0, 1) := by decide +kernel
theorem dX11_isFault_33 : decode cX11_isFault 33 = .ok (.iload_n 2, 1) := by decide +kernel
theorem dX11_isFault_34 : decode cX11_isFault 34 = .ok (.invokevirtual 184, 3) := by decide +kernel
theorem dX11_isFault_37 : decode cX11_isFault 37 = .ok (.ifCond .eq 20, 3) := by decide +kernel
theorem dX11_isFault_40 : decode cX11_isFault 40 = .ok (.aload_n 0, 1) := by decide +kernel
theorem dX11_isFault_41 : decode cX11_isFault 41 = .ok (.aload_n 0, 1) := by decide +kernel
theorem dX11_isFault_42 : decode cX11_isFault 42 = .ok (.getfield 32, 3) := by decide +kernel
theorem dX11_isFault_45 : decode cX11_isFault 45 = .ok (.iload_n 2, 1) := by decide +kernel
theorem dX11_isFault_46 : decode cX11_isFault 46 = .ok (.iaload, 1) := by decide +kernel
theorem dX11_isFault_47 : decode cX11_isFault 47 = .ok (.invokevirtual 187, 3) := by decide +kernel
theorem dX11_isFault_50 : decode cX11_isFault 50 = .ok (.ifCond .eq 7, 3) := by decide +kernel
theorem dX11_isFault_53 : decode cX11_isFault 53 = .ok (.iconst 1, 1) := by decide +kernel
theorem dX11_isFault_54 : decode cX11_isFault 54 = .ok (.goto 4, 3) := by decide +kernel
theorem dX11_isFault_57 : decode cX11_isFault 57 = .ok (.iconst 0, 1) := by decide +kernel
theorem dX11_isFault_58 : decode cX11_isFault 58 = .ok (.ireturn, 1) := by decide +kernel
theorem dX11_isFault_59 : decode cX11_isFault 59 = .ok (.aload_n 0, 1) := by decide +kernel
theorem dX11_isFault_60 : decode cX11_isFault 60 = .ok (.iload_n 2, 1) := by decide +kernel
theorem dX11_isFault_61 : decode cX11_isFault 61 = .ok (.invokevirtual 190, 3) := by decide +kernel
theorem dX11_isFault_64 : decode cX11_isFault 64 = .ok (.iconst (-1), 1) := by decide +kernel
theorem dX11_isFault_65 : decode cX11_isFault 65 = .ok (.if_icmp .eq 20, 3) := by decide +kernel
theorem dX11_isFault_68 : decode cX11_isFault 68 = .ok (.aload_n 0, 1) := by decide +kernel
theorem dX11_isFault_69 : decode cX11_isFault 69 = .ok (.aload_n 0, 1) := by decide +kernel
theorem dX11_isFault_70 : decode cX11_isFault 70 = .ok (.iload_n 2, 1) := by decide +kernel
theorem dX11_isFault_71 : decode cX11_isFault 71 = .ok (.invokevirtual 190, 3) := by decide +kernel
theorem dX11_isFault_74 : decode cX11_isFault 74 = .ok (.iload_n 2, 1) := by decide +kernel
theorem dX11_isFault_75 : decode cX11_isFault 75 = .ok (.invokevirtual 193, 3) := by decide +kernel
theorem dX11_isFault_78 : decode cX11_isFault 78 = .ok (.ifCond .ne 7, 3) := by decide +kernel
theorem dX11_isFault_81 : decode cX11_isFault 81 = .ok (.iconst 1, 1) := by decide +kernel
theorem dX11_isFault_82 : decode cX11_isFault 82 = .ok (.goto 4, 3) := by decide +kernel
theorem dX11_isFault_85 : decode cX11_isFault 85 = .ok (.iconst 0, 1) := by decide +kernel
theorem dX11_isFault_86 : decode cX11_isFault 86 = .ok (.ireturn, 1) := by decide +kernel
theorem dX11_isFault_87 : decode cX11_isFault 87 = .ok (.aload_n 0, 1) := by decide +kernel
theorem dX11_isFault_88 : decode cX11_isFault 88 = .ok (.getfield 38, 3) := by decide +kernel
theorem dX11_isFault_91 : decode cX11_isFault 91 = .ok (.iload_n 2, 1) := by decide +kernel
theorem dX11_isFault_92 : decode cX11_isFault 92 = .ok (.iaload, 1) := by decide +kernel
theorem dX11_isFault_93 : decode cX11_isFault 93 = .ok (.aload_n 0, 1) := by decide +kernel
theorem dX11_isFault_94 : decode cX11_isFault 94 = .ok (.getfield 7, 3) := by decide +kernel
theorem dX11_isFault_97 : decode cX11_isFault 97 = .ok (.iconst 3, 1) := by decide +kernel
theorem dX11_isFault_98 : decode cX11_isFault 98 = .ok (.iaload, 1) := by decide +kernel
theorem dX11_isFault_99 : decode cX11_isFault 99 = .ok (.if_icmp .ge 7, 3) := by decide +kernel
theorem dX11_isFault_102 : decode cX11_isFault 102 = .ok (.iconst 1, 1) := by decide +kernel
theorem dX11_isFault_103 : decode cX11_isFault 103 = .ok (.goto 4, 3) := by decide +kernel
theorem dX11_isFault_106 : decode cX11_isFault 106 = .ok (.iconst 0, 1) := by decide +kernel
theorem dX11_isFault_107 : decode cX11_isFault 107 = .ok (.ireturn, 1) := by decide +kernel
theorem dX11_isFault_108 : decode cX11_isFault 108 = .ok (.iload_n 2, 1) := by decide +kernel
theorem dX11_isFault_109 : decode cX11_isFault 109 = .ok (.ifCond .le 50, 3) := by decide +kernel
theorem dX11_isFault_112 : decode cX11_isFault 112 = .ok (.aload_n 0, 1) := by decide +kernel
theorem dX11_isFault_113 : decode cX11_isFault 113 = .ok (.iload_n 2, 1) := by decide +kernel
theorem dX11_isFault_114 : decode cX11_isFault 114 = .ok (.invokevirtual 184, 3) := by decide +kernel
theorem dX11_isFault_117 : decode cX11_isFault 117 = .ok (.ifCond .eq 42, 3) := by decide +kernel
theorem dX11_isFault_120 : decode cX11_isFault 120 = .ok (.aload_n 0, 1) := by decide +kernel
theorem dX11_isFault_121 : decode cX11_isFault 121 = .ok (.iload_n 2, 1) := by decide +kernel
theorem dX11_isFault_122 : decode cX11_isFault 122 = .ok (.iconst 1, 1) := by decide +kernel
theorem dX11_isFault_123 : decode cX11_isFault 123 = .ok (.isub, 1) := by decide +kernel
theorem dX11_isFault_124 : decode cX11_isFault 124 = .ok (.invokevirtual 184, 3) := by decide +kernel
theorem dX11_isFault_127 : decode cX11_isFault 127 = .ok (.ifCond .eq 32, 3) := by decide +kernel
theorem dX11_isFault_130 : decode cX11_isFault 130 = .ok (.aload_n 0, 1) := by decide +kernel
theorem dX11_isFault_131 : decode cX11_isFault 131 = .ok (.aload_n 0, 1) := by decide +kernel
theorem dX11_isFault_132 : decode cX11_isFault 132 = .ok (.getfield 32, 3) := by decide +kernel
theorem dX11_isFault_135 : decode cX11_isFault 135 = .ok (.iload_n 2, 1) := by decide +kernel
theorem dX11_isFault_136 : decode cX11_isFault 136 = .ok (.iaload, 1) := by decide +kernel
theorem dX11_isFault_137 : decode cX11_isFault 137 = .ok (.invokevirtual 108, 3) := by decide +kernel
theorem dX11_isFault_140 : decode cX11_isFault 140 = .ok (.aload_n 0, 1) := by decide +kernel
theorem dX11_isFault_141 : decode cX11_isFault 141 = .ok (.aload_n 0, 1) := by decide +kernel
theorem dX11_isFault_142 : decode cX11_isFault 142 = .ok (.getfield 32, 3) := by decide +kernel
theorem dX11_isFault_145 : decode cX11_isFault 145 = .ok (.iload_n 2, 1) := by decide +kernel
theorem dX11_isFault_146 : decode cX11_isFault 146 = .ok (.iconst 1, 1) := by decide +kernel
theorem dX11_isFault_147 : decode cX11_isFault 147 = .ok (.isub, 1) := by decide +kernel
theorem dX11_isFault_148 : decode cX11_isFault 148 = .ok (.iaload, 1) := by decide +kernel
theorem dX11_isFault_149 : decode cX11_isFault 149 = .ok (.invokevirtual 108, 3) := by decide +kernel
theorem dX11_isFault_152 : decode cX11_isFault 152 = .ok (.if_icmp .ne 7, 3) := by decide +kernel
theorem dX11_isFault_155 : decode cX11_isFault 155 = .ok (.iconst 1, 1) := by decide +kernel
theorem dX11_isFault_156 : decode cX11_isFault 156 = .ok (.goto 4, 3) := by decide +kernel
theorem dX11_isFault_159 : decode cX11_isFault 159 = .ok (.iconst 0, 1) := by decide +kernel
theorem dX11_isFault_160 : decode cX11_isFault 160 = .ok (.ireturn, 1) := by decide +kernel
theorem dX11_isFault_161 : decode cX11_isFault 161 = .ok (.aload_n 0, 1) := by decide +kernel
theorem dX11_isFault_162 : decode cX11_isFault 162 = .ok (.invokevirtual 196, 3) := by decide +kernel
theorem dX11_isFault_165 : decode cX11_isFault 165 = .ok (.iload_n 3, 1) := by decide +kernel
theorem dX11_isFault_166 : decode cX11_isFault 166 = .ok (.isub, 1) := by decide +kernel
theorem dX11_isFault_167 : decode cX11_isFault 167 = .ok (.invokestatic 200, 3) := by decide +kernel
theorem dX11_isFault_170 : decode cX11_isFault 170 = .ok (.aload_n 0, 1) := by decide +kernel
theorem dX11_isFault_171 : decode cX11_isFault 171 = .ok (.getfield 7, 3) := by decide +kernel
theorem dX11_isFault_174 : decode cX11_isFault 174 = .ok (.iconst 4, 1) := by decide +kernel
theorem dX11_isFault_175 : decode cX11_isFault 175 = .ok (.iaload, 1) := by decide +kernel
theorem dX11_isFault_176 : decode cX11_isFault 176 = .ok (.if_icmp .le 7, 3) := by decide +kernel
theorem dX11_isFault_179 : decode cX11_isFault 179 = .ok (.iconst 1, 1) := by decide +kernel
theorem dX11_isFault_180 : decode cX11_isFault 180 = .ok (.goto 4, 3) := by decide +kernel
theorem dX11_isFault_183 : decode cX11_isFault 183 = .ok (.iconst 0, 1) := by decide +kernel
theorem dX11_isFault_184 : decode cX11_isFault 184 = .ok (.ireturn, 1) := by decide +kernel
theorem dX11_faultsOf_0 : decode cX11_faultsOf 0 = .ok (.iconst 0, 1) := by decide +kernel
theorem dX11_faultsOf_1 : decode cX11_faultsOf 1 = .ok (.istore_n 3, 1) := by decide +kernel
theorem dX11_faultsOf_2 : decode cX11_faultsOf 2 = .ok (.iconst 0, 1) := by decide +kernel
theorem dX11_faultsOf_3 : decode cX11_faultsOf 3 = .ok (.istore 4, 2) := by decide +kernel
theorem dX11_faultsOf_5 : decode cX11_faultsOf 5 = .ok (.iload 4, 2) := by decide +kernel
theorem dX11_faultsOf_7 : decode cX11_faultsOf 7 = .ok (.aload_n 0, 1) := by decide +kernel
theorem dX11_faultsOf_8 : decode cX11_faultsOf 8 = .ok (.iload_n 1, 1) := by decide +kernel
theorem dX11_faultsOf_9 : decode cX11_faultsOf 9 = .ok (.invokevirtual 203, 3) := by decide +kernel
theorem dX11_faultsOf_12 : decode cX11_faultsOf 12 = .ok (.if_icmp .ge 23, 3) := by decide +kernel
theorem dX11_faultsOf_15 : decode cX11_faultsOf 15 = .ok (.iload_n 3, 1) := by decide +kernel
theorem dX11_faultsOf_16 : decode cX11_faultsOf 16 = .ok (.aload_n 0, 1) := by decide +kernel
theorem dX11_faultsOf_17 : decode cX11_faultsOf 17 = .ok (.iload_n 1, 1) := by decide +kernel
theorem dX11_faultsOf_18 : decode cX11_faultsOf 18 = .ok (.iload 4, 2) := by decide +kernel
theorem dX11_faultsOf_20 : decode cX11_faultsOf 20 = .ok (.iload_n 2, 1) := by decide +kernel
theorem dX11_faultsOf_21 : decode cX11_faultsOf 21 = .ok (.invokevirtual 206, 3) := by decide +kernel
theorem dX11_faultsOf_24 : decode cX11_faultsOf 24 = .ok (.invokestatic 133, 3) := by decide +kernel
theorem dX11_faultsOf_27 : decode cX11_faultsOf 27 = .ok (.iadd, 1) := by decide +kernel
theorem dX11_faultsOf_28 : decode cX11_faultsOf 28 = .ok (.istore_n 3, 1) := by decide +kernel
theorem dX11_faultsOf_29 : decode cX11_faultsOf 29 = .ok (.iinc 4 1, 3) := by decide +kernel
theorem dX11_faultsOf_32 : decode cX11_faultsOf 32 = .ok (.goto (-27), 3) := by decide +kernel
theorem dX11_faultsOf_35 : decode cX11_faultsOf 35 = .ok (.iload_n 3, 1) := by decide +kernel
theorem dX11_faultsOf_36 : decode cX11_faultsOf 36 = .ok (.ireturn, 1) := by decide +kernel
theorem dX11_allFaults_0 : decode cX11_allFaults 0 = .ok (.aload_n 0, 1) := by decide +kernel
theorem dX11_allFaults_1 : decode cX11_allFaults 1 = .ok (.invokevirtual 209, 3) := by decide +kernel
theorem dX11_allFaults_4 : decode cX11_allFaults 4 = .ok (.aload_n 0, 1) := by decide +kernel
theorem dX11_allFaults_5 : decode cX11_allFaults 5 = .ok (.invokevirtual 212, 3) := by decide +kernel
theorem dX11_allFaults_8 : decode cX11_allFaults 8 = .ok (.istore_n 1, 1) := by decide +kernel
theorem dX11_allFaults_9 : decode cX11_allFaults 9 = .ok (.iconst 0, 1) := by decide +kernel
theorem dX11_allFaults_10 : decode cX11_allFaults 10 = .ok (.istore_n 2, 1) := by decide +kernel
theorem dX11_allFaults_11 : decode cX11_allFaults 11 = .ok (.iconst 1, 1) := by decide +kernel
theorem dX11_allFaults_12 : decode cX11_allFaults 12 = .ok (.istore_n 3, 1) := by decide +kernel
theorem dX11_allFaults_13 : decode cX11_allFaults 13 = .ok (.iload_n 3, 1) := by decide +kernel
theorem dX11_allFaults_14 : decode cX11_allFaults 14 = .ok (.iconst 5, 1) := by decide +kernel
theorem dX11_allFaults_15 : decode cX11_allFaults 15 = .ok (.if_icmp .gt 18, 3) := by decide +kernel
theorem dX11_allFaults_18 : decode cX11_allFaults 18 = .ok (.iload_n 2, 1) := by decide +kernel
theorem dX11_allFaults_19 : decode cX11_allFaults 19 = .ok (.aload_n 0, 1) := by decide +kernel
theorem dX11_allFaults_20 : decode cX11_allFaults 20 = .ok (.iload_n 3, 1) := by decide +kernel
theorem dX11_allFaults_21 : decode cX11_allFaults 21 = .ok (.iload_n 1, 1) := by decide +kernel
theorem dX11_allFaults_22 : decode cX11_allFaults 22 = .ok (.invokevirtual 215, 3) := by decide +kernel
theorem dX11_allFaults_25 : decode cX11_allFaults 25 = .ok (.iadd, 1) := by decide +kernel
theorem dX11_allFaults_26 : decode cX11_allFaults 26 = .ok (.istore_n 2, 1) := by decide +kernel
theorem dX11_allFaults_27 : decode cX11_allFaults 27 = .ok (.iinc 3 1, 3) := by decide +kernel
theorem dX11_allFaults_30 : decode cX11_allFaults 30 = .ok (.goto (-17), 3) := by decide +kernel
theorem dX11_allFaults_33 : decode cX11_allFaults 33 = .ok (.iload_n 2, 1) := by decide +kernel
theorem dX11_allFaults_34 : decode cX11_allFaults 34 = .ok (.ireturn, 1) := by decide +kernel
theorem dX11_laysSums_0 : decode cX11_laysSums 0 = .ok (.aload_n 0, 1) := by decide +kernel
theorem dX11_laysSums_1 : decode cX11_laysSums 1 = .ok (.getfield 71, 3) := by decide +kernel
theorem dX11_laysSums_4 : decode cX11_laysSums 4 = .ok (.iconst 0, 1) := by decide +kernel
theorem dX11_laysSums_5 : decode cX11_laysSums 5 = .ok (.iconst 0, 1) := by decide +kernel
theorem dX11_laysSums_6 : decode cX11_laysSums 6 = .ok (.iastore, 1) := by decide +kernel
theorem dX11_laysSums_7 : decode cX11_laysSums 7 = .ok (.iconst 0, 1) := by decide +kernel
theorem dX11_laysSums_8 : decode cX11_laysSums 8 = .ok (.istore_n 1, 1) := by decide +kernel
theorem dX11_laysSums_9 : decode cX11_laysSums 9 = .ok (.iload_n 1, 1) := by decide +kernel
theorem dX11_laysSums_10 : decode cX11_laysSums 10 = .ok (.aload_n 0, 1) := by decide +kernel
theorem dX11_laysSums_11 : decode cX11_laysSums 11 = .ok (.getfield 7, 3) := by decide +kernel
theorem dX11_laysSums_14 : decode cX11_laysSums 14 = .ok (.iconst 5, 1) := by decide +kernel
theorem dX11_laysSums_15 : decode cX11_laysSums 15 = .ok (.iaload, 1) := by decide +kernel
theorem dX11_laysSums_16 : decode cX11_laysSums 16 = .ok (.if_icmp .ge 46, 3) := by decide +kernel
theorem dX11_laysSums_19 : decode cX11_laysSums 19 = .ok (.iconst 1, 1) := by decide +kernel
theorem dX11_laysSums_20 : decode cX11_laysSums 20 = .ok (.iload_n 1, 1) := by decide +kernel
theorem dX11_laysSums_21 : decode cX11_laysSums 21 = .ok (.ishl, 1) := by decide +kernel
theorem dX11_laysSums_22 : decode cX11_laysSums 22 = .ok (.istore_n 2, 1) := by decide +kernel
theorem dX11_laysSums_23 : decode cX11_laysSums 23 = .ok (.iconst 0, 1) := by decide +kernel
theorem dX11_laysSums_24 : decode cX11_laysSums 24 = .ok (.istore_n 3, 1) := by decide +kernel
theorem dX11_laysSums_25 : decode cX11_laysSums 25 = .ok (.iload_n 3, 1) := by decide +kernel
theorem dX11_laysSums_26 : decode cX11_laysSums 26 = .ok (.iload_n 2, 1) := by decide +kernel
theorem dX11_laysSums_27 : decode cX11_laysSums 27 = .ok (.if_icmp .ge 29, 3) := by decide +kernel
theorem dX11_laysSums_30 : decode cX11_laysSums 30 = .ok (.aload_n 0, 1) := by decide +kernel
theorem dX11_laysSums_31 : decode cX11_laysSums 31 = .ok (.getfield 71, 3) := by decide +kernel
theorem dX11_laysSums_34 : decode cX11_laysSums 34 = .ok (.iload_n 2, 1) := by decide +kernel
theorem dX11_laysSums_35 : decode cX11_laysSums 35 = .ok (.iload_n 3, 1) := by decide +kernel
theorem dX11_laysSums_36 : decode cX11_laysSums 36 = .ok (.iadd, 1) := by decide +kernel
theorem dX11_laysSums_37 : decode cX11_laysSums 37 = .ok (.aload_n 0, 1) := by decide +kernel
theorem dX11_laysSums_38 : decode cX11_laysSums 38 = .ok (.getfield 71, 3) := by decide +kernel
theorem dX11_laysSums_41 : decode cX11_laysSums 41 = .ok (.iload_n 3, 1) := by decide +kernel
theorem dX11_laysSums_42 : decode cX11_laysSums 42 = .ok (.iaload, 1) := by decide +kernel
theorem dX11_laysSums_43 : decode cX11_laysSums 43 = .ok (.aload_n 0, 1) := by decide +kernel
theorem dX11_laysSums_44 : decode cX11_laysSums 44 = .ok (.iload_n 1, 1) := by decide +kernel
theorem dX11_laysSums_45 : decode cX11_laysSums 45 = .ok (.invokevirtual 218, 3) := by decide +kernel
theorem dX11_laysSums_48 : decode cX11_laysSums 48 = .ok (.iadd, 1) := by decide +kernel
theorem dX11_laysSums_49 : decode cX11_laysSums 49 = .ok (.iastore, 1) := by decide +kernel
theorem dX11_laysSums_50 : decode cX11_laysSums 50 = .ok (.iinc 3 1, 3) := by decide +kernel
theorem dX11_laysSums_53 : decode cX11_laysSums 53 = .ok (.goto (-28), 3) := by decide +kernel
theorem dX11_laysSums_56 : decode cX11_laysSums 56 = .ok (.iinc 1 1, 3) := by decide +kernel
theorem dX11_laysSums_59 : decode cX11_laysSums 59 = .ok (.goto (-50), 3) := by decide +kernel
theorem dX11_laysSums_62 : decode cX11_laysSums 62 = .ok (.return_, 1) := by decide +kernel
theorem dX11_bannedIn_0 : decode cX11_bannedIn 0 = .ok (.iconst 0, 1) := by decide +kernel
theorem dX11_bannedIn_1 : decode cX11_bannedIn 1 = .ok (.istore_n 2, 1) := by decide +kernel
theorem dX11_bannedIn_2 : decode cX11_bannedIn 2 = .ok (.iconst 0, 1) := by decide +kernel
theorem dX11_bannedIn_3 : decode cX11_bannedIn 3 = .ok (.istore_n 3, 1) := by decide +kernel
theorem dX11_bannedIn_4 : decode cX11_bannedIn 4 = .ok (.iload_n 3, 1) := by decide +kernel
theorem dX11_bannedIn_5 : decode cX11_bannedIn 5 = .ok (.aload_n 0, 1) := by decide +kernel
theorem dX11_bannedIn_6 : decode cX11_bannedIn 6 = .ok (.getfield 7, 3) := by decide +kernel
theorem dX11_bannedIn_9 : decode cX11_bannedIn 9 = .ok (.iconst 5, 1) := by decide +kernel
theorem dX11_bannedIn_10 : decode cX11_bannedIn 10 = .ok (.iaload, 1) := by decide +kernel
theorem dX11_bannedIn_11 : decode cX11_bannedIn 11 = .ok (.if_icmp .ge 23, 3) := by decide +kernel
theorem dX11_bannedIn_14 : decode cX11_bannedIn 14 = .ok (.iload_n 2, 1) := by decide +kernel
theorem dX11_bannedIn_15 : decode cX11_bannedIn 15 = .ok (.aload_n 0, 1) := by decide +kernel
theorem dX11_bannedIn_16 : decode cX11_bannedIn 16 = .ok (.iload_n 3, 1) := by decide +kernel
theorem dX11_bannedIn_17 : decode cX11_bannedIn 17 = .ok (.iload_n 1, 1) := by decide +kernel
theorem dX11_bannedIn_18 : decode cX11_bannedIn 18 = .ok (.invokevirtual 116, 3) := by decide +kernel
theorem dX11_bannedIn_21 : decode cX11_bannedIn 21 = .ok (.invokestatic 133, 3) := by decide +kernel
theorem dX11_bannedIn_24 : decode cX11_bannedIn 24 = .ok (.iload_n 3, 1) := by decide +kernel
theorem dX11_bannedIn_25 : decode cX11_bannedIn 25 = .ok (.ishl, 1) := by decide +kernel
theorem dX11_bannedIn_26 : decode cX11_bannedIn 26 = .ok (.ior, 1) := by decide +kernel
theorem dX11_bannedIn_27 : decode cX11_bannedIn 27 = .ok (.istore_n 2, 1) := by decide +kernel
theorem dX11_bannedIn_28 : decode cX11_bannedIn 28 = .ok (.iinc 3 1, 3) := by decide +kernel
theorem dX11_bannedIn_31 : decode cX11_bannedIn 31 = .ok (.goto (-27), 3) := by decide +kernel
theorem dX11_bannedIn_34 : decode cX11_bannedIn 34 = .ok (.iload_n 2, 1) := by decide +kernel
theorem dX11_bannedIn_35 : decode cX11_bannedIn 35 = .ok (.ireturn, 1) := by decide +kernel
theorem dX11_isBetter_0 : decode cX11_isBetter 0 = .ok (.aload_n 0, 1) := by decide +kernel
theorem dX11_isBetter_1 : decode cX11_isBetter 1 = .ok (.getfield 221, 3) := by decide +kernel
theorem dX11_isBetter_4 : decode cX11_isBetter 4 = .ok (.ifCond .eq 11, 3) := by decide +kernel
theorem dX11_isBetter_7 : decode cX11_isBetter 7 = .ok (.iload_n 2, 1) := by decide +kernel
theorem dX11_isBetter_8 : decode cX11_isBetter 8 = .ok (.aload_n 0, 1) := by decide +kernel
theorem dX11_isBetter_9 : decode cX11_isBetter 9 = .ok (.getfield 224, 3) := by decide +kernel
theorem dX11_isBetter_12 : decode cX11_isBetter 12 = .ok (.if_icmp .eq 24, 3) := by decide +kernel
theorem dX11_isBetter_15 : decode cX11_isBetter 15 = .ok (.aload_n 0, 1) := by decide +kernel
theorem dX11_isBetter_16 : decode cX11_isBetter 16 = .ok (.getfield 221, 3) := by decide +kernel
theorem dX11_isBetter_19 : decode cX11_isBetter 19 = .ok (.ifCond .eq 11, 3) := by decide +kernel
theorem dX11_isBetter_22 : decode cX11_isBetter 22 = .ok (.iload_n 2, 1) := by decide +kernel
theorem dX11_isBetter_23 : decode cX11_isBetter 23 = .ok (.aload_n 0, 1) := by decide +kernel
theorem dX11_isBetter_24 : decode cX11_isBetter 24 = .ok (.getfield 224, 3) := by decide +kernel
theorem dX11_isBetter_27 : decode cX11_isBetter 27 = .ok (.if_icmp .ge 7, 3) := by decide +kernel
theorem dX11_isBetter_30 : decode cX11_isBetter 30 = .ok (.iconst 1, 1) := by decide +kernel
theorem dX11_isBetter_31 : decode cX11_isBetter 31 = .ok (.goto 4, 3) := by decide +kernel
theorem dX11_isBetter_34 : decode cX11_isBetter 34 = .ok (.iconst 0, 1) := by decide +kernel
theorem dX11_isBetter_35 : decode cX11_isBetter 35 = .ok (.ireturn, 1) := by decide +kernel
theorem dX11_isBetter_36 : decode cX11_isBetter 36 = .ok (.iload_n 1, 1) := by decide +kernel
theorem dX11_isBetter_37 : decode cX11_isBetter 37 = .ok (.invokestatic 227, 3) := by decide +kernel
theorem dX11_isBetter_40 : decode cX11_isBetter 40 = .ok (.aload_n 0, 1) := by decide +kernel
theorem dX11_isBetter_41 : decode cX11_isBetter 41 = .ok (.getfield 221, 3) := by decide +kernel
theorem dX11_isBetter_44 : decode cX11_isBetter 44 = .ok (.invokestatic 227, 3) := by decide +kernel
theorem dX11_isBetter_47 : decode cX11_isBetter 47 = .ok (.if_icmp .ge 7, 3) := by decide +kernel
theorem dX11_isBetter_50 : decode cX11_isBetter 50 = .ok (.iconst 1, 1) := by decide +kernel
theorem dX11_isBetter_51 : decode cX11_isBetter 51 = .ok (.goto 4, 3) := by decide +kernel
theorem dX11_isBetter_54 : decode cX11_isBetter 54 = .ok (.iconst 0, 1) := by decide +kernel
theorem dX11_isBetter_55 : decode cX11_isBetter 55 = .ok (.ireturn, 1) := by decide +kernel
theorem dX11_chooses_0 : decode cX11_chooses 0 = .ok (.aload_n 0, 1) := by decide +kernel
theorem dX11_chooses_1 : decode cX11_chooses 1 = .ok (.iload_n 1, 1) := by decide +kernel
theorem dX11_chooses_2 : decode cX11_chooses 2 = .ok (.invokevirtual 230, 3) := by decide +kernel
theorem dX11_chooses_5 : decode cX11_chooses 5 = .ok (.istore_n 3, 1) := by decide +kernel
theorem dX11_chooses_6 : decode cX11_chooses 6 = .ok (.aload_n 0, 1) := by decide +kernel
theorem dX11_chooses_7 : decode cX11_chooses 7 = .ok (.iconst 0, 1) := by decide +kernel
theorem dX11_chooses_8 : decode cX11_chooses 8 = .ok (.putfield 221, 3) := by decide +kernel
theorem dX11_chooses_11 : decode cX11_chooses 11 = .ok (.aload_n 0, 1) := by decide +kernel
theorem dX11_chooses_12 : decode cX11_chooses 12 = .ok (.iconst 0, 1) := by decide +kernel
theorem dX11_chooses_13 : decode cX11_chooses 13 = .ok (.putfield 224, 3) := by decide +kernel
theorem dX11_chooses_16 : decode cX11_chooses 16 = .ok (.iconst 0, 1) := by decide +kernel
theorem dX11_chooses_17 : decode cX11_chooses 17 = .ok (.istore 4, 2) := by decide +kernel
theorem dX11_chooses_19 : decode cX11_chooses 19 = .ok (.iconst 1, 1) := by decide +kernel
theorem dX11_chooses_20 : decode cX11_chooses 20 = .ok (.istore 5, 2) := by decide +kernel
theorem dX11_chooses_22 : decode cX11_chooses 22 = .ok (.iload 5, 2) := by decide +kernel
theorem dX11_chooses_24 : decode cX11_chooses 24 = .ok (.iconst 1, 1) := by decide +kernel
theorem dX11_chooses_25 : decode cX11_chooses 25 = .ok (.aload_n 0, 1) := by decide +kernel
theorem dX11_chooses_26 : decode cX11_chooses 26 = .ok (.getfield 7, 3) := by decide +kernel
theorem dX11_chooses_29 : decode cX11_chooses 29 = .ok (.iconst 5, 1) := by decide +kernel
theorem dX11_chooses_30 : decode cX11_chooses 30 = .ok (.iaload, 1) := by decide +kernel
theorem dX11_chooses_31 : decode cX11_chooses 31 = .ok (.ishl, 1) := by decide +kernel
theorem dX11_chooses_32 : decode cX11_chooses 32 = .ok (.if_icmp .ge 108, 3) := by decide +kernel
theorem dX11_chooses_35 : decode cX11_chooses 35 = .ok (.iload 4, 2) := by decide +kernel
theorem dX11_chooses_37 : decode cX11_chooses 37 = .ok (.iload 5, 2) := by decide +kernel
theorem dX11_chooses_39 : decode cX11_chooses 39 = .ok (.iload 4, 2) := by decide +kernel
theorem dX11_chooses_41 : decode cX11_chooses 41 = .ok (.iconst 1, 1) := by decide +kernel
theorem dX11_chooses_42 : decode cX11_chooses 42 = .ok (.iadd, 1) := by decide +kernel
theorem dX11_chooses_43 : decode cX11_chooses 43 = .ok (.ishr, 1) := by decide +kernel
theorem dX11_chooses_44 : decode cX11_chooses 44 = .ok (.ifCond .le 7, 3) := by decide +kernel
theorem dX11_chooses_47 : decode cX11_chooses 47 = .ok (.iconst 1, 1) := by decide +kernel
theorem dX11_chooses_48 : decode cX11_chooses 48 = .ok (.goto 4, 3) := by decide +kernel
theorem dX11_chooses_51 : decode cX11_chooses 51 = .ok (.iconst 0, 1) := by decide +kernel
theorem dX11_chooses_52 : decode cX11_chooses 52 = .ok (.invokestatic 133, 3) := by decide +kernel
theorem dX11_chooses_55 : decode cX11_chooses 55 = .ok (.iadd, 1) := by decide +kernel
theorem dX11_chooses_56 : decode cX11_chooses 56 = .ok (.istore 4, 2) := by decide +kernel
theorem dX11_chooses_58 : decode cX11_chooses 58 = .ok (.aload_n 0, 1) := by decide +kernel
theorem dX11_chooses_59 : decode cX11_chooses 59 = .ok (.getfield 71, 3) := by decide +kernel
theorem dX11_chooses_62 : decode cX11_chooses 62 = .ok (.iload 5, 2) := by decide +kernel
theorem dX11_chooses_64 : decode cX11_chooses 64 = .ok (.iaload, 1) := by decide +kernel
theorem dX11_chooses_65 : decode cX11_chooses 65 = .ok (.iload_n 2, 1) := by decide +kernel
theorem dX11_chooses_66 : decode cX11_chooses 66 = .ok (.isub, 1) := by decide +kernel
theorem dX11_chooses_67 : decode cX11_chooses 67 = .ok (.istore 6, 2) := by decide +kernel
theorem dX11_chooses_69 : decode cX11_chooses 69 = .ok (.iload 5, 2) := by decide +kernel
theorem dX11_chooses_71 : decode cX11_chooses 71 = .ok (.iload_n 3, 1) := by decide +kernel
theorem dX11_chooses_72 : decode cX11_chooses 72 = .ok (.iand, 1) := by decide +kernel
theorem dX11_chooses_73 : decode cX11_chooses 73 = .ok (.ifCond .ne 30, 3) := by decide +kernel
theorem dX11_chooses_76 : decode cX11_chooses 76 = .ok (.iload 6, 2) := by decide +kernel
theorem dX11_chooses_78 : decode cX11_chooses 78 = .ok (.ifCond .lt 25, 3) := by decide +kernel
theorem dX11_chooses_81 : decode cX11_chooses 81 = .ok (.aload_n 0, 1) := by decide +kernel
theorem dX11_chooses_82 : decode cX11_chooses 82 = .ok (.iload 4, 2) := by decide +kernel
theorem dX11_chooses_84 : decode cX11_chooses 84 = .ok (.invokevirtual 218, 3) := by decide +kernel
theorem dX11_chooses_87 : decode cX11_chooses 87 = .ok (.iload 6, 2) := by decide +kernel
theorem dX11_chooses_89 : decode cX11_chooses 89 = .ok (.isub, 1) := by decide +kernel
theorem dX11_chooses_90 : decode cX11_chooses 90 = .ok (.aload_n 0, 1) := by decide +kernel
theorem dX11_chooses_91 : decode cX11_chooses 91 = .ok (.getfield 7, 3) := by decide +kernel
theorem dX11_chooses_94 : decode cX11_chooses 94 = .ok (.iconst 3, 1) := by decide +kernel
theorem dX11_chooses_95 : decode cX11_chooses 95 = .ok (.iaload, 1) := by decide +kernel
theorem dX11_chooses_96 : decode cX11_chooses 96 = .ok (.if_icmp .lt 7, 3) := by decide +kernel
theorem dX11_chooses_99 : decode cX11_chooses 99 = .ok (.iconst 1, 1) := by decide +kernel
theorem dX11_chooses_100 : decode cX11_chooses 100 = .ok (.goto 4, 3) := by decide +kernel
theorem dX11_chooses_103 : decode cX11_chooses 103 = .ok (.iconst 0, 1) := by decide +kernel
theorem dX11_chooses_104 : decode cX11_chooses 104 = .ok (.istore 7, 2) := by decide +kernel
theorem dX11_chooses_106 : decode cX11_chooses 106 = .ok (.iload 7, 2) := by decide +kernel
theorem dX11_chooses_108 : decode cX11_chooses 108 = .ok (.ifCond .eq 26, 3) := by decide +kernel
theorem dX11_chooses_111 : decode cX11_chooses 111 = .ok (.aload_n 0, 1) := by decide +kernel
theorem dX11_chooses_112 : decode cX11_chooses 112 = .ok (.iload 5, 2) := by decide +kernel
theorem dX11_chooses_114 : decode cX11_chooses 114 = .ok (.iload 6, 2) := by decide +kernel
theorem dX11_chooses_116 : decode cX11_chooses 116 = .ok (.invokevirtual 233, 3) := by decide +kernel
theorem dX11_chooses_119 : decode cX11_chooses 119 = .ok (.ifCond .eq 15, 3) := by decide +kernel
theorem dX11_chooses_122 : decode cX11_chooses 122 = .ok (.aload_n 0, 1) := by decide +kernel
theorem dX11_chooses_123 : decode cX11_chooses 123 = .ok (.iload 5, 2) := by decide +kernel
theorem dX11_chooses_125 : decode cX11_chooses 125 = .ok (.putfield 221, 3) := by decide +kernel
theorem dX11_chooses_128 : decode cX11_chooses 128 = .ok (.aload_n 0, 1) := by decide +kernel
theorem dX11_chooses_129 : decode cX11_chooses 129 = .ok (.iload 6, 2) := by decide +kernel
theorem dX11_chooses_131 : decode cX11_chooses 131 = .ok (.putfield 224, 3) := by decide +kernel
theorem dX11_chooses_134 : decode cX11_chooses 134 = .ok (.iinc 5 1, 3) := by decide +kernel
theorem dX11_chooses_137 : decode cX11_chooses 137 = .ok (.goto (-115), 3) := by decide +kernel
theorem dX11_chooses_140 : decode cX11_chooses 140 = .ok (.aload_n 0, 1) := by decide +kernel
theorem dX11_chooses_141 : decode cX11_chooses 141 = .ok (.getfield 221, 3) := by decide +kernel
theorem dX11_chooses_144 : decode cX11_chooses 144 = .ok (.ifCond .eq 7, 3) := by decide +kernel
theorem dX11_chooses_147 : decode cX11_chooses 147 = .ok (.iconst 1, 1) := by decide +kernel
theorem dX11_chooses_148 : decode cX11_chooses 148 = .ok (.goto 4, 3) := by decide +kernel
theorem dX11_chooses_151 : decode cX11_chooses 151 = .ok (.iconst 0, 1) := by decide +kernel
theorem dX11_chooses_152 : decode cX11_chooses 152 = .ok (.ireturn, 1) := by decide +kernel
theorem dX11_appendText_0 : decode cX11_appendText 0 = .ok (.aload_n 0, 1) := by decide +kernel
theorem dX11_appendText_1 : decode cX11_appendText 1 = .ok (.aload_n 0, 1) := by decide +kernel
theorem dX11_appendText_2 : decode cX11_appendText 2 = .ok (.getfield 236, 3) := by decide +kernel
theorem dX11_appendText_5 : decode cX11_appendText 5 = .ok (.iconst 4, 1) := by decide +kernel
theorem dX11_appendText_6 : decode cX11_appendText 6 = .ok (.iadd, 1) := by decide +kernel
theorem dX11_appendText_7 : decode cX11_appendText 7 = .ok (.sipush 500, 3) := by decide +kernel
theorem dX11_appendText_10 : decode cX11_appendText 10 = .ok (.if_icmp .gt 7, 3) := by decide +kernel
theorem dX11_appendText_13 : decode cX11_appendText 13 = .ok (.iconst 1, 1) := by decide +kernel
theorem dX11_appendText_14 : decode cX11_appendText 14 = .ok (.goto 4, 3) := by decide +kernel
theorem dX11_appendText_17 : decode cX11_appendText 17 = .ok (.iconst 0, 1) := by decide +kernel
theorem dX11_appendText_18 : decode cX11_appendText 18 = .ok (.invokevirtual 239, 3) := by decide +kernel
theorem dX11_appendText_21 : decode cX11_appendText 21 = .ok (.ifCond .ne 5, 3) := by decide +kernel
theorem dX11_appendText_24 : decode cX11_appendText 24 = .ok (.iconst 0, 1) := by decide +kernel
theorem dX11_appendText_25 : decode cX11_appendText 25 = .ok (.ireturn, 1) := by decide +kernel
theorem dX11_appendText_26 : decode cX11_appendText 26 = .ok (.bipush 24, 2) := by decide +kernel
theorem dX11_appendText_28 : decode cX11_appendText 28 = .ok (.istore_n 2, 1) := by decide +kernel
theorem dX11_appendText_29 : decode cX11_appendText 29 = .ok (.iload_n 2, 1) := by decide +kernel
theorem dX11_appendText_30 : decode cX11_appendText 30 = .ok (.ifCond .lt 35, 3) := by decide +kernel
theorem dX11_appendText_33 : decode cX11_appendText 33 = .ok (.aload_n 0, 1) := by decide +kernel
theorem dX11_appendText_34 : decode cX11_appendText 34 = .ok (.getfield 74, 3) := by decide +kernel
theorem dX11_appendText_37 : decode cX11_appendText 37 = .ok (.aload_n 0, 1) := by decide +kernel
theorem dX11_appendText_38 : decode cX11_appendText 38 = .ok (.getfield 236, 3) := by decide +kernel
theorem dX11_appendText_41 : decode cX11_appendText 41 = .ok (.iload_n 1, 1) := by decide +kernel
theorem dX11_appendText_42 : decode cX11_appendText 42 = .ok (.iload_n 2, 1) := by decide +kernel
theorem dX11_appendText_43 : decode cX11_appendText 43 = .ok (.ishr, 1) := by decide +kernel
theorem dX11_appendText_44 : decode cX11_appendText 44 = .ok (.sipush 255, 3) := by decide +kernel
theorem dX11_appendText_47 : decode cX11_appendText 47 = .ok (.iand, 1) := by decide +kernel
theorem dX11_appendText_48 : decode cX11_appendText 48 = .ok (.iastore, 1) := by decide +kernel
theorem dX11_appendText_49 : decode cX11_appendText 49 = .ok (.aload_n 0, 1) := by decide +kernel
theorem dX11_appendText_50 : decode cX11_appendText 50 = .ok (.dup, 1) := by decide +kernel
theorem dX11_appendText_51 : decode cX11_appendText 51 = .ok (.getfield 236, 3) := by decide +kernel
theorem dX11_appendText_54 : decode cX11_appendText 54 = .ok (.iconst 1, 1) := by decide +kernel
theorem dX11_appendText_55 : decode cX11_appendText 55 = .ok (.iadd, 1) := by decide +kernel
theorem dX11_appendText_56 : decode cX11_appendText 56 = .ok (.putfield 236, 3) := by decide +kernel
theorem dX11_appendText_59 : decode cX11_appendText 59 = .ok (.iinc 2 (-8), 3) := by decide +kernel
theorem dX11_appendText_62 : decode cX11_appendText 62 = .ok (.goto (-33), 3) := by decide +kernel
theorem dX11_appendText_65 : decode cX11_appendText 65 = .ok (.aload_n 0, 1) := by decide +kernel
theorem dX11_appendText_66 : decode cX11_appendText 66 = .ok (.getfield 236, 3) := by decide +kernel
theorem dX11_appendText_69 : decode cX11_appendText 69 = .ok (.ireturn, 1) := by decide +kernel
theorem dX11_truncateText_0 : decode cX11_truncateText 0 = .ok (.aload_n 0, 1) := by decide +kernel
theorem dX11_truncateText_1 : decode cX11_truncateText 1 = .ok (.iload_n 1, 1) := by decide +kernel
theorem dX11_truncateText_2 : decode cX11_truncateText 2 = .ok (.iconst 0, 1) := by decide +kernel
theorem dX11_truncateText_3 : decode cX11_truncateText 3 = .ok (.aload_n 0, 1) := by decide +kernel
theorem dX11_truncateText_4 : decode cX11_truncateText 4 = .ok (.getfield 236, 3) := by decide +kernel
theorem dX11_truncateText_7 : decode cX11_truncateText 7 = .ok (.invokestatic 112, 3) := by decide +kernel
theorem dX11_truncateText_10 : decode cX11_truncateText 10 = .ok (.invokevirtual 239, 3) := by decide +kernel
theorem dX11_truncateText_13 : decode cX11_truncateText 13 = .ok (.ifCond .ne 5, 3) := by decide +kernel
theorem dX11_truncateText_16 : decode cX11_truncateText 16 = .ok (.iconst 0, 1) := by decide +kernel
theorem dX11_truncateText_17 : decode cX11_truncateText 17 = .ok (.ireturn, 1) := by decide +kernel
theorem dX11_truncateText_18 : decode cX11_truncateText 18 = .ok (.aload_n 0, 1) := by decide +kernel
theorem dX11_truncateText_19 : decode cX11_truncateText 19 = .ok (.iload_n 1, 1) := by decide +kernel
theorem dX11_truncateText_20 : decode cX11_truncateText 20 = .ok (.putfield 236, 3) := by decide +kernel
theorem dX11_truncateText_23 : decode cX11_truncateText 23 = .ok (.aload_n 0, 1) := by decide +kernel
theorem dX11_truncateText_24 : decode cX11_truncateText 24 = .ok (.getfield 236, 3) := by decide +kernel
theorem dX11_truncateText_27 : decode cX11_truncateText 27 = .ok (.ireturn, 1) := by decide +kernel
theorem dX11_errorCode_0 : decode cX11_errorCode 0 = .ok (.aload_n 0, 1) := by decide +kernel
theorem dX11_errorCode_1 : decode cX11_errorCode 1 = .ok (.iconst 0, 1) := by decide +kernel
theorem dX11_errorCode_2 : decode cX11_errorCode 2 = .ok (.putfield 105, 3) := by decide +kernel
theorem dX11_errorCode_5 : decode cX11_errorCode 5 = .ok (.aload_n 0, 1) := by decide +kernel
theorem dX11_errorCode_6 : decode cX11_errorCode 6 = .ok (.getfield 243, 3) := by decide +kernel
theorem dX11_errorCode_9 : decode cX11_errorCode 9 = .ok (.ireturn, 1) := by decide +kernel
theorem dX11_errorPosition_0 : decode cX11_errorPosition 0 = .ok (.aload_n 0, 1) := by decide +kernel
theorem dX11_errorPosition_1 : decode cX11_errorPosition 1 = .ok (.iconst 0, 1) := by decide +kernel
theorem dX11_errorPosition_2 : decode cX11_errorPosition 2 = .ok (.putfield 105, 3) := by decide +kernel
theorem dX11_errorPosition_5 : decode cX11_errorPosition 5 = .ok (.aload_n 0, 1) := by decide +kernel
theorem dX11_errorPosition_6 : decode cX11_errorPosition 6 = .ok (.getfield 77, 3) := by decide +kernel
theorem dX11_errorPosition_9 : decode cX11_errorPosition 9 = .ok (.ireturn, 1) := by decide +kernel
theorem dX11_byteAt_0 : decode cX11_byteAt 0 = .ok (.iload_n 1, 1) := by decide +kernel
theorem dX11_byteAt_1 : decode cX11_byteAt 1 = .ok (.aload_n 0, 1) := by decide +kernel
theorem dX11_byteAt_2 : decode cX11_byteAt 2 = .ok (.getfield 236, 3) := by decide +kernel
theorem dX11_byteAt_5 : decode cX11_byteAt 5 = .ok (.if_icmp .ge 12, 3) := by decide +kernel
theorem dX11_byteAt_8 : decode cX11_byteAt 8 = .ok (.aload_n 0, 1) := by decide +kernel
theorem dX11_byteAt_9 : decode cX11_byteAt 9 = .ok (.getfield 74, 3) := by decide +kernel
theorem dX11_byteAt_12 : decode cX11_byteAt 12 = .ok (.iload_n 1, 1) := by decide +kernel
theorem dX11_byteAt_13 : decode cX11_byteAt 13 = .ok (.iaload, 1) := by decide +kernel
theorem dX11_byteAt_14 : decode cX11_byteAt 14 = .ok (.goto 4, 3) := by decide +kernel
theorem dX11_byteAt_17 : decode cX11_byteAt 17 = .ok (.iconst (-1), 1) := by decide +kernel
theorem dX11_byteAt_18 : decode cX11_byteAt 18 = .ok (.ireturn, 1) := by decide +kernel
theorem dX11_isLetter_0 : decode cX11_isLetter 0 = .ok (.aload_n 0, 1) := by decide +kernel
theorem dX11_isLetter_1 : decode cX11_isLetter 1 = .ok (.iload_n 1, 1) := by decide +kernel
theorem dX11_isLetter_2 : decode cX11_isLetter 2 = .ok (.invokevirtual 246, 3) := by decide +kernel
theorem dX11_isLetter_5 : decode cX11_isLetter 5 = .ok (.bipush 97, 2) := by decide +kernel
theorem dX11_isLetter_7 : decode cX11_isLetter 7 = .ok (.bipush 122, 2) := by decide +kernel
theorem dX11_isLetter_9 : decode cX11_isLetter 9 = .ok (.invokestatic 112, 3) := by decide +kernel
theorem dX11_isLetter_12 : decode cX11_isLetter 12 = .ok (.ireturn, 1) := by decide +kernel
theorem dX11_isDigit_0 : decode cX11_isDigit 0 = .ok (.aload_n 0, 1) := by decide +kernel
theorem dX11_isDigit_1 : decode cX11_isDigit 1 = .ok (.iload_n 1, 1) := by decide +kernel
theorem dX11_isDigit_2 : decode cX11_isDigit 2 = .ok (.invokevirtual 246, 3) := by decide +kernel
theorem dX11_isDigit_5 : decode cX11_isDigit 5 = .ok (.bipush 48, 2) := by decide +kernel
theorem dX11_isDigit_7 : decode cX11_isDigit 7 = .ok (.bipush 57, 2) := by decide +kernel
theorem dX11_isDigit_9 : decode cX11_isDigit 9 = .ok (.invokestatic 112, 3) := by decide +kernel
theorem dX11_isDigit_12 : decode cX11_isDigit 12 = .ok (.ireturn, 1) := by decide +kernel
theorem dX11_isSymbol_0 : decode cX11_isSymbol 0 = .ok (.iload_n 0, 1) := by decide +kernel
theorem dX11_isSymbol_1 : decode cX11_isSymbol 1 = .ok (.bipush 59, 2) := by decide +kernel
theorem dX11_isSymbol_3 : decode cX11_isSymbol 3 = .ok (.if_icmp .eq 21, 3) := by decide +kernel
theorem dX11_isSymbol_6 : decode cX11_isSymbol 6 = .ok (.iload_n 0, 1) := by decide +kernel
theorem dX11_isSymbol_7 : decode cX11_isSymbol 7 = .ok (.bipush 123, 2) := by decide +kernel
theorem dX11_isSymbol_9 : decode cX11_isSymbol 9 = .ok (.if_icmp .eq 15, 3) := by decide +kernel
theorem dX11_isSymbol_12 : decode cX11_isSymbol 12 = .ok (.iload_n 0, 1) := by decide +kernel
theorem dX11_isSymbol_13 : decode cX11_isSymbol 13 = .ok (.bipush 125, 2) := by decide +kernel
theorem dX11_isSymbol_15 : decode cX11_isSymbol 15 = .ok (.if_icmp .eq 9, 3) := by decide +kernel
theorem dX11_isSymbol_18 : decode cX11_isSymbol 18 = .ok (.iload_n 0, 1) := by decide +kernel
theorem dX11_isSymbol_19 : decode cX11_isSymbol 19 = .ok (.bipush 46, 2) := by decide +kernel
theorem dX11_isSymbol_21 : decode cX11_isSymbol 21 = .ok (.if_icmp .ne 7, 3) := by decide +kernel
theorem dX11_isSymbol_24 : decode cX11_isSymbol 24 = .ok (.iconst 1, 1) := by decide +kernel
theorem dX11_isSymbol_25 : decode cX11_isSymbol 25 = .ok (.goto 4, 3) := by decide +kernel
theorem dX11_isSymbol_28 : decode cX11_isSymbol 28 = .ok (.iconst 0, 1) := by decide +kernel
theorem dX11_isSymbol_29 : decode cX11_isSymbol 29 = .ok (.ireturn, 1) := by decide +kernel
theorem dX11_scans_0 : decode cX11_scans 0 = .ok (.aload_n 0, 1) := by decide +kernel
theorem dX11_scans_1 : decode cX11_scans 1 = .ok (.aload_n 0, 1) := by decide +kernel
theorem dX11_scans_2 : decode cX11_scans 2 = .ok (.getfield 249, 3) := by decide +kernel
theorem dX11_scans_5 : decode cX11_scans 5 = .ok (.invokevirtual 246, 3) := by decide +kernel
theorem dX11_scans_8 : decode cX11_scans 8 = .ok (.bipush 32, 2) := by decide +kernel
theorem dX11_scans_10 : decode cX11_scans 10 = .ok (.if_icmp .eq 16, 3) := by decide +kernel
theorem dX11_scans_13 : decode cX11_scans 13 = .ok (.aload_n 0, 1) := by decide +kernel
theorem dX11_scans_14 : decode cX11_scans 14 = .ok (.aload_n 0, 1) := by decide +kernel
theorem dX11_scans_15 : decode cX11_scans 15 = .ok (.getfield 249, 3) := by decide +kernel
theorem dX11_scans_18 : decode cX11_scans 18 = .ok (.invokevirtual 246, 3) := by decide +kernel
theorem dX11_scans_21 : decode cX11_scans 21 = .ok (.bipush 10, 2) := by decide +kernel
theorem dX11_scans_23 : decode cX11_scans 23 = .ok (.if_icmp .ne 16, 3) := by decide +kernel
theorem dX11_scans_26 : decode cX11_scans 26 = .ok (.aload_n 0, 1) := by decide +kernel
theorem dX11_scans_27 : decode cX11_scans 27 = .ok (.dup, 1) := by decide +kernel
theorem dX11_scans_28 : decode cX11_scans 28 = .ok (.getfield 249, 3) := by decide +kernel
theorem dX11_scans_31 : decode cX11_scans 31 = .ok (.iconst 1, 1) := by decide +kernel
theorem dX11_scans_32 : decode cX11_scans 32 = .ok (.iadd, 1) := by decide +kernel
theorem dX11_scans_33 : decode cX11_scans 33 = .ok (.putfield 249, 3) := by decide +kernel
theorem dX11_scans_36 : decode cX11_scans 36 = .ok (.goto (-36), 3) := by decide +kernel
theorem dX11_scans_39 : decode cX11_scans 39 = .ok (.aload_n 0, 1) := by decide +kernel
theorem dX11_scans_40 : decode cX11_scans 40 = .ok (.aload_n 0, 1) := by decide +kernel
theorem dX11_scans_41 : decode cX11_scans 41 = .ok (.getfield 249, 3) := by decide +kernel
theorem dX11_scans_44 : decode cX11_scans 44 = .ok (.putfield 252, 3) := by decide +kernel
theorem dX11_scans_47 : decode cX11_scans 47 = .ok (.aload_n 0, 1) := by decide +kernel
theorem dX11_scans_48 : decode cX11_scans 48 = .ok (.aload_n 0, 1) := by decide +kernel
theorem dX11_scans_49 : decode cX11_scans 49 = .ok (.getfield 249, 3) := by decide +kernel
theorem dX11_scans_52 : decode cX11_scans 52 = .ok (.invokevirtual 246, 3) := by decide +kernel
theorem dX11_scans_55 : decode cX11_scans 55 = .ok (.iconst (-1), 1) := by decide +kernel
theorem dX11_scans_56 : decode cX11_scans 56 = .ok (.if_icmp .ne 11, 3) := by decide +kernel
theorem dX11_scans_59 : decode cX11_scans 59 = .ok (.aload_n 0, 1) := by decide +kernel
theorem dX11_scans_60 : decode cX11_scans 60 = .ok (.iconst 0, 1) := by decide +kernel
theorem dX11_scans_61 : decode cX11_scans 61 = .ok (.putfield 255, 3) := by decide +kernel
theorem dX11_scans_64 : decode cX11_scans 64 = .ok (.goto 158, 3) := by decide +kernel
theorem dX11_scans_67 : decode cX11_scans 67 = .ok (.aload_n 0, 1) := by decide +kernel
theorem dX11_scans_68 : decode cX11_scans 68 = .ok (.aload_n 0, 1) := by decide +kernel
theorem dX11_scans_69 : decode cX11_scans 69 = .ok (.getfield 249, 3) := by decide +kernel
theorem dX11_scans_72 : decode cX11_scans 72 = .ok (.invokevirtual 258, 3) := by decide +kernel
theorem dX11_scans_75 : decode cX11_scans 75 = .ok (.ifCond .eq 35, 3) := by decide +kernel
theorem dX11_scans_78 : decode cX11_scans 78 = .ok (.aload_n 0, 1) := by decide +kernel
theorem dX11_scans_79 : decode cX11_scans 79 = .ok (.aload_n 0, 1) := by decide +kernel
theorem dX11_scans_80 : decode cX11_scans 80 = .ok (.getfield 249, 3) := by decide +kernel
theorem dX11_scans_83 : decode cX11_scans 83 = .ok (.invokevirtual 258, 3) := by decide +kernel
theorem dX11_scans_86 : decode cX11_scans 86 = .ok (.ifCond .eq 16, 3) := by decide +kernel
theorem dX11_scans_89 : decode cX11_scans 89 = .ok (.aload_n 0, 1) := by decide +kernel
theorem dX11_scans_90 : decode cX11_scans 90 = .ok (.dup, 1) := by decide +kernel
theorem dX11_scans_91 : decode cX11_scans 91 = .ok (.getfield 249, 3) := by decide +kernel
theorem dX11_scans_94 : decode cX11_scans 94 = .ok (.iconst 1, 1) := by decide +kernel
theorem dX11_scans_95 : decode cX11_scans 95 = .ok (.iadd, 1) := by decide +kernel
theorem dX11_scans_96 : decode cX11_scans 96 = .ok (.putfield 249, 3) := by decide +kernel
theorem dX11_scans_99 : decode cX11_scans 99 = .ok (.goto (-21), 3) := by decide +kernel
theorem dX11_scans_102 : decode cX11_scans 102 = .ok (.aload_n 0, 1) := by decide +kernel
theorem dX11_scans_103 : decode cX11_scans 103 = .ok (.iconst 1, 1) := by decide +kernel
theorem dX11_scans_104 : decode cX11_scans 104 = .ok (.putfield 255, 3) := by decide +kernel
theorem dX11_scans_107 : decode cX11_scans 107 = .ok (.goto 115, 3) := by decide +kernel
theorem dX11_scans_110 : decode cX11_scans 110 = .ok (.aload_n 0, 1) := by decide +kernel
theorem dX11_scans_111 : decode cX11_scans 111 = .ok (.aload_n 0, 1) := by decide +kernel
theorem dX11_scans_112 : decode cX11_scans 112 = .ok (.getfield 249, 3) := by decide +kernel
theorem dX11_scans_115 : decode cX11_scans 115 = .ok (.invokevirtual 261, 3) := by decide +kernel
theorem dX11_scans_118 : decode cX11_scans 118 = .ok (.ifCond .eq 70, 3) := by decide +kernel
theorem dX11_scans_121 : decode cX11_scans 121 = .ok (.aload_n 0, 1) := by decide +kernel
theorem dX11_scans_122 : decode cX11_scans 122 = .ok (.iconst 0, 1) := by decide +kernel
theorem dX11_scans_123 : decode cX11_scans 123 = .ok (.putfield 264, 3) := by decide +kernel
theorem dX11_scans_126 : decode cX11_scans 126 = .ok (.aload_n 0, 1) := by decide +kernel
theorem dX11_scans_127 : decode cX11_scans 127 = .ok (.aload_n 0, 1) := by decide +kernel
theorem dX11_scans_128 : decode cX11_scans 128 = .ok (.getfield 249, 3) := by decide +kernel
theorem dX11_scans_131 : decode cX11_scans 131 = .ok (.invokevirtual 261, 3) := by decide +kernel
theorem dX11_scans_134 : decode cX11_scans 134 = .ok (.ifCond .eq 46, 3) := by decide +kernel
theorem dX11_scans_137 : decode cX11_scans 137 = .ok (.aload_n 0, 1) := by decide +kernel
theorem dX11_scans_138 : decode cX11_scans 138 = .ok (.ldc_w 267, 3) := by decide +kernel
theorem dX11_scans_141 : decode cX11_scans 141 = .ok (.bipush 10, 2) := by decide +kernel
theorem dX11_scans_143 : decode cX11_scans 143 = .ok (.aload_n 0, 1) := by decide +kernel
theorem dX11_scans_144 : decode cX11_scans 144 = .ok (.getfield 264, 3) := by decide +kernel
theorem dX11_scans_147 : decode cX11_scans 147 = .ok (.imul, 1) := by decide +kernel
theorem dX11_scans_148 : decode cX11_scans 148 = .ok (.aload_n 0, 1) := by decide +kernel
theorem dX11_scans_149 : decode cX11_scans 149 = .ok (.getfield 74, 3) := by decide +kernel
theorem dX11_scans_152 : decode cX11_scans 152 = .ok (.aload_n 0, 1) := by decide +kernel
theorem dX11_scans_153 : decode cX11_scans 153 = .ok (.getfield 249, 3) := by decide +kernel
theorem dX11_scans_156 : decode cX11_scans 156 = .ok (.iaload, 1) := by decide +kernel
theorem dX11_scans_157 : decode cX11_scans 157 = .ok (.iadd, 1) := by decide +kernel
theorem dX11_scans_158 : decode cX11_scans 158 = .ok (.bipush 48, 2) := by decide +kernel
theorem dX11_scans_160 : decode cX11_scans 160 = .ok (.isub, 1) := by decide +kernel
theorem dX11_scans_161 : decode cX11_scans 161 = .ok (.invokestatic 154, 3) := by decide +kernel
theorem dX11_scans_164 : decode cX11_scans 164 = .ok (.putfield 264, 3) := by decide +kernel
theorem dX11_scans_167 : decode cX11_scans 167 = .ok (.aload_n 0, 1) := by decide +kernel
theorem dX11_scans_168 : decode cX11_scans 168 = .ok (.dup, 1) := by decide +kernel
theorem dX11_scans_169 : decode cX11_scans 169 = .ok (.getfield 249, 3) := by decide +kernel
theorem dX11_scans_172 : decode cX11_scans 172 = .ok (.iconst 1, 1) := by decide +kernel
theorem dX11_scans_173 : decode cX11_scans 173 = .ok (.iadd, 1) := by decide +kernel
theorem dX11_scans_174 : decode cX11_scans 174 = .ok (.putfield 249, 3) := by decide +kernel
theorem dX11_scans_177 : decode cX11_scans 177 = .ok (.goto (-51), 3) := by decide +kernel
theorem dX11_scans_180 : decode cX11_scans 180 = .ok (.aload_n 0, 1) := by decide +kernel
theorem dX11_scans_181 : decode cX11_scans 181 = .ok (.iconst 2, 1) := by decide +kernel
theorem dX11_scans_182 : decode cX11_scans 182 = .ok (.putfield 255, 3) := by decide +kernel
theorem dX11_scans_185 : decode cX11_scans 185 = .ok (.goto 37, 3) := by decide +kernel
theorem dX11_scans_188 : decode cX11_scans 188 = .ok (.aload_n 0, 1) := by decide +kernel
theorem dX11_scans_189 : decode cX11_scans 189 = .ok (.aload_n 0, 1) := by decide +kernel
theorem dX11_scans_190 : decode cX11_scans 190 = .ok (.getfield 74, 3) := by decide +kernel
theorem dX11_scans_193 : decode cX11_scans 193 = .ok (.aload_n 0, 1) := by decide +kernel
theorem dX11_scans_194 : decode cX11_scans 194 = .ok (.getfield 249, 3) := by decide +kernel
theorem dX11_scans_197 : decode cX11_scans 197 = .ok (.iaload, 1) := by decide +kernel
theorem dX11_scans_198 : decode cX11_scans 198 = .ok (.invokestatic 268, 3) := by decide +kernel
theorem dX11_scans_201 : decode cX11_scans 201 = .ok (.ifCond .eq 7, 3) := by decide +kernel
theorem dX11_scans_204 : decode cX11_scans 204 = .ok (.iconst 3, 1) := by decide +kernel
theorem dX11_scans_205 : decode cX11_scans 205 = .ok (.goto 4, 3) := by decide +kernel
theorem dX11_scans_208 : decode cX11_scans 208 = .ok (.iconst 4, 1) := by decide +kernel
theorem dX11_scans_209 : decode cX11_scans 209 = .ok (.putfield 255, 3) := by decide +kernel
theorem dX11_scans_212 : decode cX11_scans 212 = .ok (.aload_n 0, 1) := by decide +kernel
theorem dX11_scans_213 : decode cX11_scans 213 = .ok (.dup, 1) := by decide +kernel
theorem dX11_scans_214 : decode cX11_scans 214 = .ok (.getfield 249, 3) := by decide +kernel
theorem dX11_scans_217 : decode cX11_scans 217 = .ok (.iconst 1, 1) := by decide +kernel
theorem dX11_scans_218 : decode cX11_scans 218 = .ok (.iadd, 1) := by decide +kernel
theorem dX11_scans_219 : decode cX11_scans 219 = .ok (.putfield 249, 3) := by decide +kernel
theorem dX11_scans_222 : decode cX11_scans 222 = .ok (.return_, 1) := by decide +kernel
theorem dX11_fails_0 : decode cX11_fails 0 = .ok (.aload_n 0, 1) := by decide +kernel
theorem dX11_fails_1 : decode cX11_fails 1 = .ok (.getfield 271, 3) := by decide +kernel
theorem dX11_fails_4 : decode cX11_fails 4 = .ok (.ifCond .eq 4, 3) := by decide +kernel
theorem dX11_fails_7 : decode cX11_fails 7 = .ok (.return_, 1) := by decide +kernel
theorem dX11_fails_8 : decode cX11_fails 8 = .ok (.aload_n 0, 1) := by decide +kernel
theorem dX11_fails_9 : decode cX11_fails 9 = .ok (.iload_n 1, 1) := by decide +kernel
theorem dX11_fails_10 : decode cX11_fails 10 = .ok (.putfield 271, 3) := by decide +kernel
theorem dX11_fails_13 : decode cX11_fails 13 = .ok (.aload_n 0, 1) := by decide +kernel
theorem dX11_fails_14 : decode cX11_fails 14 = .ok (.aload_n 0, 1) := by decide +kernel
theorem dX11_fails_15 : decode cX11_fails 15 = .ok (.getfield 252, 3) := by decide +kernel
theorem dX11_fails_18 : decode cX11_fails 18 = .ok (.putfield 274, 3) := by decide +kernel
theorem dX11_fails_21 : decode cX11_fails 21 = .ok (.return_, 1) := by decide +kernel
theorem dX11_isGood_0 : decode cX11_isGood 0 = .ok (.aload_n 0, 1) := by decide +kernel
theorem dX11_isGood_1 : decode cX11_isGood 1 = .ok (.getfield 271, 3) := by decide +kernel
theorem dX11_isGood_4 : decode cX11_isGood 4 = .ok (.ifCond .ne 7, 3) := by decide +kernel
theorem dX11_isGood_7 : decode cX11_isGood 7 = .ok (.iconst 1, 1) := by decide +kernel
theorem dX11_isGood_8 : decode cX11_isGood 8 = .ok (.goto 4, 3) := by decide +kernel
theorem dX11_isGood_11 : decode cX11_isGood 11 = .ok (.iconst 0, 1) := by decide +kernel
theorem dX11_isGood_12 : decode cX11_isGood 12 = .ok (.ireturn, 1) := by decide +kernel
theorem dX11_goesOn_0 : decode cX11_goesOn 0 = .ok (.aload_n 0, 1) := by decide +kernel
theorem dX11_goesOn_1 : decode cX11_goesOn 1 = .ok (.invokevirtual 277, 3) := by decide +kernel
theorem dX11_goesOn_4 : decode cX11_goesOn 4 = .ok (.ifCond .eq 7, 3) := by decide +kernel
theorem dX11_goesOn_7 : decode cX11_goesOn 7 = .ok (.aload_n 0, 1) := by decide +kernel
theorem dX11_goesOn_8 : decode cX11_goesOn 8 = .ok (.invokevirtual 281, 3) := by decide +kernel
theorem dX11_goesOn_11 : decode cX11_goesOn 11 = .ok (.return_, 1) := by decide +kernel
theorem dX11_isWord_0 : decode cX11_isWord 0 = .ok (.aload_n 0, 1) := by decide +kernel
theorem dX11_isWord_1 : decode cX11_isWord 1 = .ok (.invokevirtual 277, 3) := by decide +kernel
theorem dX11_isWord_4 : decode cX11_isWord 4 = .ok (.ifCond .eq 31, 3) := by decide +kernel
theorem dX11_isWord_7 : decode cX11_isWord 7 = .ok (.aload_n 0, 1) := by decide +kernel
theorem dX11_isWord_8 : decode cX11_isWord 8 = .ok (.getfield 255, 3) := by decide +kernel
theorem dX11_isWord_11 : decode cX11_isWord 11 = .ok (.iconst 1, 1) := by decide +kernel
theorem dX11_isWord_12 : decode cX11_isWord 12 = .ok (.if_icmp .ne 23, 3) := by decide +kernel
theorem dX11_isWord_15 : decode cX11_isWord 15 = .ok (.aload_n 0, 1) := by decide +kernel
theorem dX11_isWord_16 : decode cX11_isWord 16 = .ok (.getfield 249, 3) := by decide +kernel
theorem dX11_isWord_19 : decode cX11_isWord 19 = .ok (.aload_n 0, 1) := by decide +kernel
theorem dX11_isWord_20 : decode cX11_isWord 20 = .ok (.getfield 252, 3) := by decide +kernel
theorem dX11_isWord_23 : decode cX11_isWord 23 = .ok (.isub, 1) := by decide +kernel
theorem dX11_isWord_24 : decode cX11_isWord 24 = .ok (.aload_n 1, 1) := by decide +kernel
theorem dX11_isWord_25 : decode cX11_isWord 25 = .ok (.invokevirtual 284, 3) := by decide +kernel
theorem dX11_isWord_28 : decode cX11_isWord 28 = .ok (.if_icmp .ne 7, 3) := by decide +kernel
theorem dX11_isWord_31 : decode cX11_isWord 31 = .ok (.iconst 1, 1) := by decide +kernel
theorem dX11_isWord_32 : decode cX11_isWord 32 = .ok (.goto 4, 3) := by decide +kernel
theorem dX11_isWord_35 : decode cX11_isWord 35 = .ok (.iconst 0, 1) := by decide +kernel
theorem dX11_isWord_36 : decode cX11_isWord 36 = .ok (.istore_n 2, 1) := by decide +kernel
theorem dX11_isWord_37 : decode cX11_isWord 37 = .ok (.iconst 0, 1) := by decide +kernel
theorem dX11_isWord_38 : decode cX11_isWord 38 = .ok (.istore_n 3, 1) := by decide +kernel
theorem dX11_isWord_39 : decode cX11_isWord 39 = .ok (.iload_n 2, 1) := by decide +kernel
theorem dX11_isWord_40 : decode cX11_isWord 40 = .ok (.ifCond .eq 42, 3) := by decide +kernel
theorem dX11_isWord_43 : decode cX11_isWord 43 = .ok (.iload_n 3, 1) := by decide +kernel
theorem dX11_isWord_44 : decode cX11_isWord 44 = .ok (.aload_n 1, 1) := by decide +kernel
theorem dX11_isWord_45 : decode cX11_isWord 45 = .ok (.invokevirtual 284, 3) := by decide +kernel
theorem dX11_isWord_48 : decode cX11_isWord 48 = .ok (.if_icmp .ge 34, 3) := by decide +kernel
theorem dX11_isWord_51 : decode cX11_isWord 51 = .ok (.aload_n 0, 1) := by decide +kernel
theorem dX11_isWord_52 : decode cX11_isWord 52 = .ok (.getfield 74, 3) := by decide +kernel
theorem dX11_isWord_55 : decode cX11_isWord 55 = .ok (.aload_n 0, 1) := by decide +kernel
theorem dX11_isWord_56 : decode cX11_isWord 56 = .ok (.getfield 252, 3) := by decide +kernel
theorem dX11_isWord_59 : decode cX11_isWord 59 = .ok (.iload_n 3, 1) := by decide +kernel
theorem dX11_isWord_60 : decode cX11_isWord 60 = .ok (.iadd, 1) := by decide +kernel
theorem dX11_isWord_61 : decode cX11_isWord 61 = .ok (.iaload, 1) := by decide +kernel
theorem dX11_isWord_62 : decode cX11_isWord 62 = .ok (.aload_n 1, 1) := by decide +kernel
theorem dX11_isWord_63 : decode cX11_isWord 63 = .ok (.iload_n 3, 1) := by decide +kernel
theorem dX11_isWord_64 : decode cX11_isWord 64 = .ok (.invokevirtual 288, 3) := by decide +kernel
theorem dX11_isWord_67 : decode cX11_isWord 67 = .ok (.if_icmp .ne 7, 3) := by decide +kernel
theorem dX11_isWord_70 : decode cX11_isWord 70 = .ok (.iconst 1, 1) := by decide +kernel
theorem dX11_isWord_71 : decode cX11_isWord 71 = .ok (.goto 4, 3) := by decide +kernel
theorem dX11_isWord_74 : decode cX11_isWord 74 = .ok (.iconst 0, 1) := by decide +kernel
theorem dX11_isWord_75 : decode cX11_isWord 75 = .ok (.istore_n 2, 1) := by decide +kernel
theorem dX11_isWord_76 : decode cX11_isWord 76 = .ok (.iinc 3 1, 3) := by decide +kernel
theorem dX11_isWord_79 : decode cX11_isWord 79 = .ok (.goto (-40), 3) := by decide +kernel
theorem dX11_isWord_82 : decode cX11_isWord 82 = .ok (.iload_n 2, 1) := by decide +kernel
theorem dX11_isWord_83 : decode cX11_isWord 83 = .ok (.ireturn, 1) := by decide +kernel
theorem dX11_isSign_0 : decode cX11_isSign 0 = .ok (.aload_n 0, 1) := by decide +kernel
theorem dX11_isSign_1 : decode cX11_isSign 1 = .ok (.invokevirtual 277, 3) := by decide +kernel
theorem dX11_isSign_4 : decode cX11_isSign 4 = .ok (.ifCond .eq 28, 3) := by decide +kernel
theorem dX11_isSign_7 : decode cX11_isSign 7 = .ok (.aload_n 0, 1) := by decide +kernel
theorem dX11_isSign_8 : decode cX11_isSign 8 = .ok (.getfield 255, 3) := by decide +kernel
theorem dX11_isSign_11 : decode cX11_isSign 11 = .ok (.iconst 3, 1) := by decide +kernel
theorem dX11_isSign_12 : decode cX11_isSign 12 = .ok (.if_icmp .ne 20, 3) := by decide +kernel
theorem dX11_isSign_15 : decode cX11_isSign 15 = .ok (.aload_n 0, 1) := by decide +kernel
theorem dX11_isSign_16 : decode cX11_isSign 16 = .ok (.getfield 74, 3) := by decide +kernel
theorem dX11_isSign_19 : decode cX11_isSign 19 = .ok (.aload_n 0, 1) := by decide +kernel
theorem dX11_isSign_20 : decode cX11_isSign 20 = .ok (.getfield 252, 3) := by decide +kernel
theorem dX11_isSign_23 : decode cX11_isSign 23 = .ok (.iaload, 1) := by decide +kernel
theorem dX11_isSign_24 : decode cX11_isSign 24 = .ok (.iload_n 1, 1) := by decide +kernel
theorem dX11_isSign_25 : decode cX11_isSign 25 = .ok (.if_icmp .ne 7, 3) := by decide +kernel
theorem dX11_isSign_28 : decode cX11_isSign 28 = .ok (.iconst 1, 1) := by decide +kernel
theorem dX11_isSign_29 : decode cX11_isSign 29 = .ok (.goto 4, 3) := by decide +kernel
theorem dX11_isSign_32 : decode cX11_isSign 32 = .ok (.iconst 0, 1) := by decide +kernel
theorem dX11_isSign_33 : decode cX11_isSign 33 = .ok (.ireturn, 1) := by decide +kernel
theorem dX11_needsSign_0 : decode cX11_needsSign 0 = .ok (.aload_n 0, 1) := by decide +kernel
theorem dX11_needsSign_1 : decode cX11_needsSign 1 = .ok (.iload_n 1, 1) := by decide +kernel
theorem dX11_needsSign_2 : decode cX11_needsSign 2 = .ok (.invokevirtual 292, 3) := by decide +kernel
theorem dX11_needsSign_5 : decode cX11_needsSign 5 = .ok (.ifCond .ne 8, 3) := by decide +kernel
theorem dX11_needsSign_8 : decode cX11_needsSign 8 = .ok (.aload_n 0, 1) := by decide +kernel
theorem dX11_needsSign_9 : decode cX11_needsSign 9 = .ok (.iconst 1, 1) := by decide +kernel
theorem dX11_needsSign_10 : decode cX11_needsSign 10 = .ok (.invokevirtual 295, 3) := by decide +kernel
theorem dX11_needsSign_13 : decode cX11_needsSign 13 = .ok (.aload_n 0, 1) := by decide +kernel
theorem dX11_needsSign_14 : decode cX11_needsSign 14 = .ok (.invokevirtual 298, 3) := by decide +kernel
theorem dX11_needsSign_17 : decode cX11_needsSign 17 = .ok (.return_, 1) := by decide +kernel
theorem dX11_needs_0 : decode cX11_needs 0 = .ok (.aload_n 0, 1) := by decide +kernel
theorem dX11_needs_1 : decode cX11_needs 1 = .ok (.aload_n 1, 1) := by decide +kernel
theorem dX11_needs_2 : decode cX11_needs 2 = .ok (.invokevirtual 301, 3) := by decide +kernel
theorem dX11_needs_5 : decode cX11_needs 5 = .ok (.ifCond .ne 8, 3) := by decide +kernel
theorem dX11_needs_8 : decode cX11_needs 8 = .ok (.aload_n 0, 1) := by decide +kernel
theorem dX11_needs_9 : decode cX11_needs 9 = .ok (.iconst 1, 1) := by decide +kernel
theorem dX11_needs_10 : decode cX11_needs 10 = .ok (.invokevirtual 295, 3) := by decide +kernel
theorem dX11_needs_13 : decode cX11_needs 13 = .ok (.aload_n 0, 1) := by decide +kernel
theorem dX11_needs_14 : decode cX11_needs 14 = .ok (.invokevirtual 298, 3) := by decide +kernel
theorem dX11_needs_17 : decode cX11_needs 17 = .ok (.return_, 1) := by decide +kernel
theorem dX11_reads_0 : decode cX11_reads 0 = .ok (.aload_n 0, 1) := by decide +kernel
theorem dX11_reads_1 : decode cX11_reads 1 = .ok (.getfield 255, 3) := by decide +kernel
theorem dX11_reads_4 : decode cX11_reads 4 = .ok (.iconst 2, 1) := by decide +kernel
theorem dX11_reads_5 : decode cX11_reads 5 = .ok (.if_icmp .eq 8, 3) := by decide +kernel
theorem dX11_reads_8 : decode cX11_reads 8 = .ok (.aload_n 0, 1) := by decide +kernel
theorem dX11_reads_9 : decode cX11_reads 9 = .ok (.iconst 1, 1) := by decide +kernel
theorem dX11_reads_10 : decode cX11_reads 10 = .ok (.invokevirtual 295, 3) := by decide +kernel
theorem dX11_reads_13 : decode cX11_reads 13 = .ok (.aload_n 0, 1) := by decide +kernel
theorem dX11_reads_14 : decode cX11_reads 14 = .ok (.getfield 264, 3) := by decide +kernel
theorem dX11_reads_17 : decode cX11_reads 17 = .ok (.iload_n 1, 1) := by decide +kernel
theorem dX11_reads_18 : decode cX11_reads 18 = .ok (.iload_n 2, 1) := by decide +kernel
theorem dX11_reads_19 : decode cX11_reads 19 = .ok (.invokestatic 112, 3) := by decide +kernel
theorem dX11_reads_22 : decode cX11_reads 22 = .ok (.ifCond .ne 8, 3) := by decide +kernel
theorem dX11_reads_25 : decode cX11_reads 25 = .ok (.aload_n 0, 1) := by decide +kernel
theorem dX11_reads_26 : decode cX11_reads 26 = .ok (.iconst 2, 1) := by decide +kernel
theorem dX11_reads_27 : decode cX11_reads 27 = .ok (.invokevirtual 295, 3) := by decide +kernel
theorem dX11_reads_30 : decode cX11_reads 30 = .ok (.aload_n 0, 1) := by decide +kernel
theorem dX11_reads_31 : decode cX11_reads 31 = .ok (.getfield 264, 3) := by decide +kernel
theorem dX11_reads_34 : decode cX11_reads 34 = .ok (.istore_n 3, 1) := by decide +kernel
theorem dX11_reads_35 : decode cX11_reads 35 = .ok (.aload_n 0, 1) := by decide +kernel
theorem dX11_reads_36 : decode cX11_reads 36 = .ok (.invokevirtual 298, 3) := by decide +kernel
theorem dX11_reads_39 : decode cX11_reads 39 = .ok (.aload_n 0, 1) := by decide +kernel
theorem dX11_reads_40 : decode cX11_reads 40 = .ok (.invokevirtual 277, 3) := by decide +kernel
theorem dX11_reads_43 : decode cX11_reads 43 = .ok (.ifCond .eq 7, 3) := by decide +kernel
theorem dX11_reads_46 : decode cX11_reads 46 = .ok (.iload_n 3, 1) := by decide +kernel
theorem dX11_reads_47 : decode cX11_reads 47 = .ok (.goto 4, 3) := by decide +kernel
theorem dX11_reads_50 : decode cX11_reads 50 = .ok (.iload_n 1, 1) := by decide +kernel
theorem dX11_reads_51 : decode cX11_reads 51 = .ok (.ireturn, 1) := by decide +kernel
theorem dX11_beginsText_0 : decode cX11_beginsText 0 = .ok (.aload_n 0, 1) := by decide +kernel
theorem dX11_beginsText_1 : decode cX11_beginsText 1 = .ok (.iconst 0, 1) := by decide +kernel
theorem dX11_beginsText_2 : decode cX11_beginsText 2 = .ok (.putfield 249, 3) := by decide +kernel
theorem dX11_beginsText_5 : decode cX11_beginsText 5 = .ok (.aload_n 0, 1) := by decide +kernel
theorem dX11_beginsText_6 : decode cX11_beginsText 6 = .ok (.iconst 0, 1) := by decide +kernel
theorem dX11_beginsText_7 : decode cX11_beginsText 7 = .ok (.putfield 271, 3) := by decide +kernel
theorem dX11_beginsText_10 : decode cX11_beginsText 10 = .ok (.aload_n 0, 1) := by decide +kernel
theorem dX11_beginsText_11 : decode cX11_beginsText 11 = .ok (.iconst (-1), 1) := by decide +kernel
theorem dX11_beginsText_12 : decode cX11_beginsText 12 = .ok (.putfield 274, 3) := by decide +kernel
theorem dX11_beginsText_15 : decode cX11_beginsText 15 = .ok (.aload_n 0, 1) := by decide +kernel
theorem dX11_beginsText_16 : decode cX11_beginsText 16 = .ok (.invokevirtual 281, 3) := by decide +kernel
theorem dX11_beginsText_19 : decode cX11_beginsText 19 = .ok (.return_, 1) := by decide +kernel
theorem dX11_endsText_0 : decode cX11_endsText 0 = .ok (.aload_n 0, 1) := by decide +kernel
theorem dX11_endsText_1 : decode cX11_endsText 1 = .ok (.iconst 0, 1) := by decide +kernel
theorem dX11_endsText_2 : decode cX11_endsText 2 = .ok (.putfield 236, 3) := by decide +kernel
theorem dX11_endsText_5 : decode cX11_endsText 5 = .ok (.aload_n 0, 1) := by decide +kernel
theorem dX11_endsText_6 : decode cX11_endsText 6 = .ok (.aload_n 0, 1) := by decide +kernel
theorem dX11_endsText_7 : decode cX11_endsText 7 = .ok (.getfield 271, 3) := by decide +kernel
theorem dX11_endsText_10 : decode cX11_endsText 10 = .ok (.putfield 243, 3) := by decide +kernel
theorem dX11_endsText_13 : decode cX11_endsText 13 = .ok (.aload_n 0, 1) := by decide +kernel
theorem dX11_endsText_14 : decode cX11_endsText 14 = .ok (.aload_n 0, 1) := by decide +kernel
theorem dX11_endsText_15 : decode cX11_endsText 15 = .ok (.getfield 274, 3) := by decide +kernel
theorem dX11_endsText_18 : decode cX11_endsText 18 = .ok (.putfield 77, 3) := by decide +kernel
theorem dX11_endsText_21 : decode cX11_endsText 21 = .ok (.return_, 1) := by decide +kernel
theorem dX11_readsValue_0 : decode cX11_readsValue 0 = .ok (.aload_n 0, 1) := by decide +kernel
theorem dX11_readsValue_1 : decode cX11_readsValue 1 = .ok (.getfield 305, 3) := by decide +kernel
theorem dX11_readsValue_4 : decode cX11_readsValue 4 = .ok (.iload_n 1, 1) := by decide +kernel
theorem dX11_readsValue_5 : decode cX11_readsValue 5 = .ok (.ishr, 1) := by decide +kernel
theorem dX11_readsValue_6 : decode cX11_readsValue 6 = .ok (.iconst 1, 1) := by decide +kernel
theorem dX11_readsValue_7 : decode cX11_readsValue 7 = .ok (.iand, 1) := by decide +kernel
theorem dX11_readsValue_8 : decode cX11_readsValue 8 = .ok (.iconst 1, 1) := by decide +kernel
theorem dX11_readsValue_9 : decode cX11_readsValue 9 = .ok (.if_icmp .ne 8, 3) := by decide +kernel
theorem dX11_readsValue_12 : decode cX11_readsValue 12 = .ok (.aload_n 0, 1) := by decide +kernel
theorem dX11_readsValue_13 : decode cX11_readsValue 13 = .ok (.iconst 3, 1) := by decide +kernel
theorem dX11_readsValue_14 : decode cX11_readsValue 14 = .ok (.invokevirtual 295, 3) := by decide +kernel
theorem dX11_readsValue_17 : decode cX11_readsValue 17 = .ok (.aload_n 0, 1) := by decide +kernel
theorem dX11_readsValue_18 : decode cX11_readsValue 18 = .ok (.dup, 1) := by decide +kernel
theorem dX11_readsValue_19 : decode cX11_readsValue 19 = .ok (.getfield 305, 3) := by decide +kernel
theorem dX11_readsValue_22 : decode cX11_readsValue 22 = .ok (.iconst 1, 1) := by decide +kernel
theorem dX11_readsValue_23 : decode cX11_readsValue 23 = .ok (.iload_n 1, 1) := by decide +kernel
theorem dX11_readsValue_24 : decode cX11_readsValue 24 = .ok (.ishl, 1) := by decide +kernel
theorem dX11_readsValue_25 : decode cX11_readsValue 25 = .ok (.ior, 1) := by decide +kernel
theorem dX11_readsValue_26 : decode cX11_readsValue 26 = .ok (.putfield 305, 3) := by decide +kernel
theorem dX11_readsValue_29 : decode cX11_readsValue 29 = .ok (.aload_n 0, 1) := by decide +kernel
theorem dX11_readsValue_30 : decode cX11_readsValue 30 = .ok (.invokevirtual 298, 3) := by decide +kernel
theorem dX11_readsValue_33 : decode cX11_readsValue 33 = .ok (.aload_n 0, 1) := by decide +kernel
theorem dX11_readsValue_34 : decode cX11_readsValue 34 = .ok (.getfield 7, 3) := by decide +kernel
theorem dX11_readsValue_37 : decode cX11_readsValue 37 = .ok (.iload_n 1, 1) := by decide +kernel
theorem dX11_readsValue_38 : decode cX11_readsValue 38 = .ok (.aload_n 0, 1) := by decide +kernel
theorem dX11_readsValue_39 : decode cX11_readsValue 39 = .ok (.iload_n 2, 1) := by decide +kernel
theorem dX11_readsValue_40 : decode cX11_readsValue 40 = .ok (.iload_n 3, 1) := by decide +kernel
theorem dX11_readsValue_41 : decode cX11_readsValue 41 = .ok (.invokevirtual 308, 3) := by decide +kernel
theorem dX11_readsValue_44 : decode cX11_readsValue 44 = .ok (.iastore, 1) := by decide +kernel
theorem dX11_readsValue_45 : decode cX11_readsValue 45 = .ok (.return_, 1) := by decide +kernel
theorem dX11_readsShot_0 : decode cX11_readsShot 0 = .ok (.aload_n 0, 1) := by decide +kernel
theorem dX11_readsShot_1 : decode cX11_readsShot 1 = .ok (.getfield 7, 3) := by decide +kernel
theorem dX11_readsShot_4 : decode cX11_readsShot 4 = .ok (.iconst 5, 1) := by decide +kernel
theorem dX11_readsShot_5 : decode cX11_readsShot 5 = .ok (.iaload, 1) := by decide +kernel
theorem dX11_readsShot_6 : decode cX11_readsShot 6 = .ok (.bipush 12, 2) := by decide +kernel
theorem dX11_readsShot_8 : decode cX11_readsShot 8 = .ok (.if_icmp .ne 8, 3) := by decide +kernel
theorem dX11_readsShot_11 : decode cX11_readsShot 11 = .ok (.aload_n 0, 1) := by decide +kernel
theorem dX11_readsShot_12 : decode cX11_readsShot 12 = .ok (.iconst 4, 1) := by decide +kernel
theorem dX11_readsShot_13 : decode cX11_readsShot 13 = .ok (.invokevirtual 295, 3) := by decide +kernel
theorem dX11_readsShot_16 : decode cX11_readsShot 16 = .ok (.aload_n 0, 1) := by decide +kernel
theorem dX11_readsShot_17 : decode cX11_readsShot 17 = .ok (.invokevirtual 298, 3) := by decide +kernel
theorem dX11_readsShot_20 : decode cX11_readsShot 20 = .ok (.aload_n 0, 1) := by decide +kernel
theorem dX11_readsShot_21 : decode cX11_readsShot 21 = .ok (.iconst 0, 1) := by decide +kernel
theorem dX11_readsShot_22 : decode cX11_readsShot 22 = .ok (.iconst 5, 1) := by decide +kernel
theorem dX11_readsShot_23 : decode cX11_readsShot 23 = .ok (.invokevirtual 308, 3) := by decide +kernel
theorem dX11_readsShot_26 : decode cX11_readsShot 26 = .ok (.istore_n 1, 1) := by decide +kernel
theorem dX11_readsShot_27 : decode cX11_readsShot 27 = .ok (.aload_n 0, 1) := by decide +kernel
theorem dX11_readsShot_28 : decode cX11_readsShot 28 = .ok (.iconst 1, 1) := by decide +kernel
theorem dX11_readsShot_29 : decode cX11_readsShot 29 = .ok (.sipush 400, 3) := by decide +kernel
theorem dX11_readsShot_32 : decode cX11_readsShot 32 = .ok (.invokevirtual 308, 3) := by decide +kernel
theorem dX11_readsShot_35 : decode cX11_readsShot 35 = .ok (.istore_n 2, 1) := by decide +kernel
theorem dX11_readsShot_36 : decode cX11_readsShot 36 = .ok (.aload_n 0, 1) := by decide +kernel
theorem dX11_readsShot_37 : decode cX11_readsShot 37 = .ok (.invokevirtual 277, 3) := by decide +kernel
theorem dX11_readsShot_40 : decode cX11_readsShot 40 = .ok (.ifCond .ne 4, 3) := by decide +kernel
theorem dX11_readsShot_43 : decode cX11_readsShot 43 = .ok (.return_, 1) := by decide +kernel
theorem dX11_readsShot_44 : decode cX11_readsShot 44 = .ok (.aload_n 0, 1) := by decide +kernel
theorem dX11_readsShot_45 : decode cX11_readsShot 45 = .ok (.getfield 7, 3) := by decide +kernel
theorem dX11_readsShot_48 : decode cX11_readsShot 48 = .ok (.bipush 12, 2) := by decide +kernel
theorem dX11_readsShot_50 : decode cX11_readsShot 50 = .ok (.iconst 2, 1) := by decide +kernel
theorem dX11_readsShot_51 : decode cX11_readsShot 51 = .ok (.aload_n 0, 1) := by decide +kernel
theorem dX11_readsShot_52 : decode cX11_readsShot 52 = .ok (.getfield 7, 3) := by decide +kernel
theorem dX11_readsShot_55 : decode cX11_readsShot 55 = .ok (.iconst 5, 1) := by decide +kernel
theorem dX11_readsShot_56 : decode cX11_readsShot 56 = .ok (.iaload, 1) := by decide +kernel
theorem dX11_readsShot_57 : decode cX11_readsShot 57 = .ok (.imul, 1) := by decide +kernel
theorem dX11_readsShot_58 : decode cX11_readsShot 58 = .ok (.iadd, 1) := by decide +kernel
theorem dX11_readsShot_59 : decode cX11_readsShot 59 = .ok (.iload_n 1, 1) := by decide +kernel
theorem dX11_readsShot_60 : decode cX11_readsShot 60 = .ok (.iastore, 1) := by decide +kernel
theorem dX11_readsShot_61 : decode cX11_readsShot 61 = .ok (.aload_n 0, 1) := by decide +kernel
theorem dX11_readsShot_62 : decode cX11_readsShot 62 = .ok (.getfield 7, 3) := by decide +kernel
theorem dX11_readsShot_65 : decode cX11_readsShot 65 = .ok (.bipush 12, 2) := by decide +kernel
theorem dX11_readsShot_67 : decode cX11_readsShot 67 = .ok (.iconst 2, 1) := by decide +kernel
theorem dX11_readsShot_68 : decode cX11_readsShot 68 = .ok (.aload_n 0, 1) := by decide +kernel
theorem dX11_readsShot_69 : decode cX11_readsShot 69 = .ok (.getfield 7, 3) := by decide +kernel
theorem dX11_readsShot_72 : decode cX11_readsShot 72 = .ok (.iconst 5, 1) := by decide +kernel
theorem dX11_readsShot_73 : decode cX11_readsShot 73 = .ok (.iaload, 1) := by decide +kernel
theorem dX11_readsShot_74 : decode cX11_readsShot 74 = .ok (.imul, 1) := by decide +kernel
theorem dX11_readsShot_75 : decode cX11_readsShot 75 = .ok (.iadd, 1) := by decide +kernel
theorem dX11_readsShot_76 : decode cX11_readsShot 76 = .ok (.iconst 1, 1) := by decide +kernel
theorem dX11_readsShot_77 : decode cX11_readsShot 77 = .ok (.iadd, 1) := by decide +kernel
theorem dX11_readsShot_78 : decode cX11_readsShot 78 = .ok (.iload_n 2, 1) := by decide +kernel
theorem dX11_readsShot_79 : decode cX11_readsShot 79 = .ok (.iastore, 1) := by decide +kernel
theorem dX11_readsShot_80 : decode cX11_readsShot 80 = .ok (.aload_n 0, 1) := by decide +kernel
theorem dX11_readsShot_81 : decode cX11_readsShot 81 = .ok (.getfield 7, 3) := by decide +kernel
theorem dX11_readsShot_84 : decode cX11_readsShot 84 = .ok (.iconst 5, 1) := by decide +kernel
theorem dX11_readsShot_85 : decode cX11_readsShot 85 = .ok (.dup2, 1) := by decide +kernel
theorem dX11_readsShot_86 : decode cX11_readsShot 86 = .ok (.iaload, 1) := by decide +kernel
theorem dX11_readsShot_87 : decode cX11_readsShot 87 = .ok (.iconst 1, 1) := by decide +kernel
theorem dX11_readsShot_88 : decode cX11_readsShot 88 = .ok (.iadd, 1) := by decide +kernel
theorem dX11_readsShot_89 : decode cX11_readsShot 89 = .ok (.iastore, 1) := by decide +kernel
theorem dX11_readsShot_90 : decode cX11_readsShot 90 = .ok (.return_, 1) := by decide +kernel
theorem dX11_isTold_0 : decode cX11_isTold 0 = .ok (.bipush 36, 2) := by decide +kernel
theorem dX11_isTold_2 : decode cX11_isTold 2 = .ok (.bipush 10, 2) := by decide +kernel
theorem dX11_isTold_4 : decode cX11_isTold 4 = .ok (.iload_n 1, 1) := by decide +kernel
theorem dX11_isTold_5 : decode cX11_isTold 5 = .ok (.imul, 1) := by decide +kernel
theorem dX11_isTold_6 : decode cX11_isTold 6 = .ok (.iadd, 1) := by decide +kernel
theorem dX11_isTold_7 : decode cX11_isTold 7 = .ok (.istore_n 2, 1) := by decide +kernel
theorem dX11_isTold_8 : decode cX11_isTold 8 = .ok (.aload_n 0, 1) := by decide +kernel
theorem dX11_isTold_9 : decode cX11_isTold 9 = .ok (.getfield 7, 3) := by decide +kernel
theorem dX11_isTold_12 : decode cX11_isTold 12 = .ok (.iload_n 2, 1) := by decide +kernel
theorem dX11_isTold_13 : decode cX11_isTold 13 = .ok (.iaload, 1) := by decide +kernel
theorem dX11_isTold_14 : decode cX11_isTold 14 = .ok (.aload_n 0, 1) := by decide +kernel
theorem dX11_isTold_15 : decode cX11_isTold 15 = .ok (.getfield 249, 3) := by decide +kernel
theorem dX11_isTold_18 : decode cX11_isTold 18 = .ok (.aload_n 0, 1) := by decide +kernel
theorem dX11_isTold_19 : decode cX11_isTold 19 = .ok (.getfield 252, 3) := by decide +kernel
theorem dX11_isTold_22 : decode cX11_isTold 22 = .ok (.isub, 1) := by decide +kernel
theorem dX11_isTold_23 : decode cX11_isTold 23 = .ok (.if_icmp .ne 7, 3) := by decide +kernel
theorem dX11_isTold_26 : decode cX11_isTold 26 = .ok (.iconst 1, 1) := by decide +kernel
theorem dX11_isTold_27 : decode cX11_isTold 27 = .ok (.goto 4, 3) := by decide +kernel
theorem dX11_isTold_30 : decode cX11_isTold 30 = .ok (.iconst 0, 1) := by decide +kernel
theorem dX11_isTold_31 : decode cX11_isTold 31 = .ok (.istore_n 3, 1) := by decide +kernel
theorem dX11_isTold_32 : decode cX11_isTold 32 = .ok (.iconst 0, 1) := by decide +kernel
theorem dX11_isTold_33 : decode cX11_isTold 33 = .ok (.istore 4, 2) := by decide +kernel
theorem dX11_isTold_35 : decode cX11_isTold 35 = .ok (.iload_n 3, 1) := by decide +kernel
theorem dX11_isTold_36 : decode cX11_isTold 36 = .ok (.ifCond .eq 52, 3) := by decide +kernel
theorem dX11_isTold_39 : decode cX11_isTold 39 = .ok (.iload 4, 2) := by decide +kernel
theorem dX11_isTold_41 : decode cX11_isTold 41 = .ok (.aload_n 0, 1) := by decide +kernel
theorem dX11_isTold_42 : decode cX11_isTold 42 = .ok (.getfield 7, 3) := by decide +kernel
theorem dX11_isTold_45 : decode cX11_isTold 45 = .ok (.iload_n 2, 1) := by decide +kernel
theorem dX11_isTold_46 : decode cX11_isTold 46 = .ok (.iaload, 1) := by decide +kernel
theorem dX11_isTold_47 : decode cX11_isTold 47 = .ok (.if_icmp .ge 41, 3) := by decide +kernel
theorem dX11_isTold_50 : decode cX11_isTold 50 = .ok (.aload_n 0, 1) := by decide +kernel
theorem dX11_isTold_51 : decode cX11_isTold 51 = .ok (.getfield 7, 3) := by decide +kernel
theorem dX11_isTold_54 : decode cX11_isTold 54 = .ok (.iload_n 2, 1) := by decide +kernel
theorem dX11_isTold_55 : decode cX11_isTold 55 = .ok (.iconst 1, 1) := by decide +kernel
theorem dX11_isTold_56 : decode cX11_isTold 56 = .ok (.iadd, 1) := by decide +kernel
theorem dX11_isTold_57 : decode cX11_isTold 57 = .ok (.iload 4, 2) := by decide +kernel
theorem dX11_isTold_59 : decode cX11_isTold 59 = .ok (.iadd, 1) := by decide +kernel
theorem dX11_isTold_60 : decode cX11_isTold 60 = .ok (.iaload, 1) := by decide +kernel
theorem dX11_isTold_61 : decode cX11_isTold 61 = .ok (.aload_n 0, 1) := by decide +kernel
theorem dX11_isTold_62 : decode cX11_isTold 62 = .ok (.getfield 74, 3) := by decide +kernel
theorem dX11_isTold_65 : decode cX11_isTold 65 = .ok (.aload_n 0, 1) := by decide +kernel
theorem dX11_isTold_66 : decode cX11_isTold 66 = .ok (.getfield 252, 3) := by decide +kernel
theorem dX11_isTold_69 : decode cX11_isTold 69 = .ok (.iload 4, 2) := by decide +kernel
theorem dX11_isTold_71 : decode cX11_isTold 71 = .ok (.iadd, 1) := by decide +kernel
theorem dX11_isTold_72 : decode cX11_isTold 72 = .ok (.iaload, 1) := by decide +kernel
theorem dX11_isTold_73 : decode cX11_isTold 73 = .ok (.if_icmp .ne 7, 3) := by decide +kernel
theorem dX11_isTold_76 : decode cX11_isTold 76 = .ok (.iconst 1, 1) := by decide +kernel
theorem dX11_isTold_77 : decode cX11_isTold 77 = .ok (.goto 4, 3) := by decide +kernel
theorem dX11_isTold_80 : decode cX11_isTold 80 = .ok (.iconst 0, 1) := by decide +kernel
theorem dX11_isTold_81 : decode cX11_isTold 81 = .ok (.istore_n 3, 1) := by decide +kernel
theorem dX11_isTold_82 : decode cX11_isTold 82 = .ok (.iinc 4 1, 3) := by decide +kernel
theorem dX11_isTold_85 : decode cX11_isTold 85 = .ok (.goto (-50), 3) := by decide +kernel
theorem dX11_isTold_88 : decode cX11_isTold 88 = .ok (.iload_n 3, 1) := by decide +kernel
theorem dX11_isTold_89 : decode cX11_isTold 89 = .ok (.ireturn, 1) := by decide +kernel
theorem dX11_readsMap_0 : decode cX11_readsMap 0 = .ok (.aload_n 0, 1) := by decide +kernel
theorem dX11_readsMap_1 : decode cX11_readsMap 1 = .ok (.getfield 7, 3) := by decide +kernel
theorem dX11_readsMap_4 : decode cX11_readsMap 4 = .ok (.bipush 6, 2) := by decide +kernel
theorem dX11_readsMap_6 : decode cX11_readsMap 6 = .ok (.iaload, 1) := by decide +kernel
theorem dX11_readsMap_7 : decode cX11_readsMap 7 = .ok (.bipush 6, 2) := by decide +kernel
theorem dX11_readsMap_9 : decode cX11_readsMap 9 = .ok (.if_icmp .ne 8, 3) := by decide +kernel
theorem dX11_readsMap_12 : decode cX11_readsMap 12 = .ok (.aload_n 0, 1) := by decide +kernel
theorem dX11_readsMap_13 : decode cX11_readsMap 13 = .ok (.iconst 4, 1) := by decide +kernel
theorem dX11_readsMap_14 : decode cX11_readsMap 14 = .ok (.invokevirtual 295, 3) := by decide +kernel
theorem dX11_readsMap_17 : decode cX11_readsMap 17 = .ok (.aload_n 0, 1) := by decide +kernel
theorem dX11_readsMap_18 : decode cX11_readsMap 18 = .ok (.invokevirtual 298, 3) := by decide +kernel
theorem dX11_readsMap_21 : decode cX11_readsMap 21 = .ok (.aload_n 0, 1) := by decide +kernel
theorem dX11_readsMap_22 : decode cX11_readsMap 22 = .ok (.getfield 255, 3) := by decide +kernel
theorem dX11_readsMap_25 : decode cX11_readsMap 25 = .ok (.iconst 1, 1) := by decide +kernel
theorem dX11_readsMap_26 : decode cX11_readsMap 26 = .ok (.if_icmp .eq 8, 3) := by decide +kernel
theorem dX11_readsMap_29 : decode cX11_readsMap 29 = .ok (.aload_n 0, 1) := by decide +kernel
theorem dX11_readsMap_30 : decode cX11_readsMap 30 = .ok (.iconst 1, 1) := by decide +kernel
theorem dX11_readsMap_31 : decode cX11_readsMap 31 = .ok (.invokevirtual 295, 3) := by decide +kernel
theorem dX11_readsMap_34 : decode cX11_readsMap 34 = .ok (.aload_n 0, 1) := by decide +kernel
theorem dX11_readsMap_35 : decode cX11_readsMap 35 = .ok (.getfield 249, 3) := by decide +kernel
theorem dX11_readsMap_38 : decode cX11_readsMap 38 = .ok (.aload_n 0, 1) := by decide +kernel
theorem dX11_readsMap_39 : decode cX11_readsMap 39 = .ok (.getfield 252, 3) := by decide +kernel
theorem dX11_readsMap_42 : decode cX11_readsMap 42 = .ok (.isub, 1) := by decide +kernel
theorem dX11_readsMap_43 : decode cX11_readsMap 43 = .ok (.bipush 8, 2) := by decide +kernel
theorem dX11_readsMap_45 : decode cX11_readsMap 45 = .ok (.if_icmp .le 8, 3) := by decide +kernel
theorem dX11_readsMap_48 : decode cX11_readsMap 48 = .ok (.aload_n 0, 1) := by decide +kernel
theorem dX11_readsMap_49 : decode cX11_readsMap 49 = .ok (.iconst 2, 1) := by decide +kernel
theorem dX11_readsMap_50 : decode cX11_readsMap 50 = .ok (.invokevirtual 295, 3) := by decide +kernel
theorem dX11_readsMap_53 : decode cX11_readsMap 53 = .ok (.iconst 0, 1) := by decide +kernel
theorem dX11_readsMap_54 : decode cX11_readsMap 54 = .ok (.istore_n 1, 1) := by decide +kernel
theorem dX11_readsMap_55 : decode cX11_readsMap 55 = .ok (.iload_n 1, 1) := by decide +kernel
theorem dX11_readsMap_56 : decode cX11_readsMap 56 = .ok (.aload_n 0, 1) := by decide +kernel
theorem dX11_readsMap_57 : decode cX11_readsMap 57 = .ok (.getfield 7, 3) := by decide +kernel
theorem dX11_readsMap_60 : decode cX11_readsMap 60 = .ok (.bipush 6, 2) := by decide +kernel
theorem dX11_readsMap_62 : decode cX11_readsMap 62 = .ok (.iaload, 1) := by decide +kernel
theorem dX11_readsMap_63 : decode cX11_readsMap 63 = .ok (.if_icmp .ge 29, 3) := by decide +kernel
theorem dX11_readsMap_66 : decode cX11_readsMap 66 = .ok (.aload_n 0, 1) := by decide +kernel
theorem dX11_readsMap_67 : decode cX11_readsMap 67 = .ok (.invokevirtual 277, 3) := by decide +kernel
theorem dX11_readsMap_70 : decode cX11_readsMap 70 = .ok (.ifCond .eq 22, 3) := by decide +kernel
theorem dX11_readsMap_73 : decode cX11_readsMap 73 = .ok (.aload_n 0, 1) := by decide +kernel
theorem dX11_readsMap_74 : decode cX11_readsMap 74 = .ok (.iload_n 1, 1) := by decide +kernel
theorem dX11_readsMap_75 : decode cX11_readsMap 75 = .ok (.invokevirtual 311, 3) := by decide +kernel
theorem dX11_readsMap_78 : decode cX11_readsMap 78 = .ok (.ifCond .eq 8, 3) := by decide +kernel
theorem dX11_readsMap_81 : decode cX11_readsMap 81 = .ok (.aload_n 0, 1) := by decide +kernel
theorem dX11_readsMap_82 : decode cX11_readsMap 82 = .ok (.iconst 3, 1) := by decide +kernel
theorem dX11_readsMap_83 : decode cX11_readsMap 83 = .ok (.invokevirtual 295, 3) := by decide +kernel
theorem dX11_readsMap_86 : decode cX11_readsMap 86 = .ok (.iinc 1 1, 3) := by decide +kernel
theorem dX11_readsMap_89 : decode cX11_readsMap 89 = .ok (.goto (-34), 3) := by decide +kernel
theorem dX11_readsMap_92 : decode cX11_readsMap 92 = .ok (.aload_n 0, 1) := by decide +kernel
theorem dX11_readsMap_93 : decode cX11_readsMap 93 = .ok (.invokevirtual 277, 3) := by decide +kernel
theorem dX11_readsMap_96 : decode cX11_readsMap 96 = .ok (.ifCond .ne 4, 3) := by decide +kernel
theorem dX11_readsMap_99 : decode cX11_readsMap 99 = .ok (.return_, 1) := by decide +kernel
theorem dX11_readsMap_100 : decode cX11_readsMap 100 = .ok (.bipush 36, 2) := by decide +kernel
theorem dX11_readsMap_102 : decode cX11_readsMap 102 = .ok (.bipush 10, 2) := by decide +kernel
theorem dX11_readsMap_104 : decode cX11_readsMap 104 = .ok (.aload_n 0, 1) := by decide +kernel
theorem dX11_readsMap_105 : decode cX11_readsMap 105 = .ok (.getfield 7, 3) := by decide +kernel
theorem dX11_readsMap_108 : decode cX11_readsMap 108 = .ok (.bipush 6, 2) := by decide +kernel
theorem dX11_readsMap_110 : decode cX11_readsMap 110 = .ok (.iaload, 1) := by decide +kernel
theorem dX11_readsMap_111 : decode cX11_readsMap 111 = .ok (.imul, 1) := by decide +kernel
theorem dX11_readsMap_112 : decode cX11_readsMap 112 = .ok (.iadd, 1) := by decide +kernel
theorem dX11_readsMap_113 : decode cX11_readsMap 113 = .ok (.istore_n 1, 1) := by decide +kernel
theorem dX11_readsMap_114 : decode cX11_readsMap 114 = .ok (.aload_n 0, 1) := by decide +kernel
theorem dX11_readsMap_115 : decode cX11_readsMap 115 = .ok (.getfield 7, 3) := by decide +kernel
theorem dX11_readsMap_118 : decode cX11_readsMap 118 = .ok (.iload_n 1, 1) := by decide +kernel
theorem dX11_readsMap_119 : decode cX11_readsMap 119 = .ok (.aload_n 0, 1) := by decide +kernel
theorem dX11_readsMap_120 : decode cX11_readsMap 120 = .ok (.getfield 249, 3) := by decide +kernel
theorem dX11_readsMap_123 : decode cX11_readsMap 123 = .ok (.aload_n 0, 1) := by decide +kernel
theorem dX11_readsMap_124 : decode cX11_readsMap 124 = .ok (.getfield 252, 3) := by decide +kernel
theorem dX11_readsMap_127 : decode cX11_readsMap 127 = .ok (.isub, 1) := by decide +kernel
theorem dX11_readsMap_128 : decode cX11_readsMap 128 = .ok (.iastore, 1) := by decide +kernel
theorem dX11_readsMap_129 : decode cX11_readsMap 129 = .ok (.iconst 0, 1) := by decide +kernel
theorem dX11_readsMap_130 : decode cX11_readsMap 130 = .ok (.istore_n 2, 1) := by decide +kernel
theorem dX11_readsMap_131 : decode cX11_readsMap 131 = .ok (.iload_n 2, 1) := by decide +kernel
theorem dX11_readsMap_132 : decode cX11_readsMap 132 = .ok (.aload_n 0, 1) := by decide +kernel
theorem dX11_readsMap_133 : decode cX11_readsMap 133 = .ok (.getfield 7, 3) := by decide +kernel
theorem dX11_readsMap_136 : decode cX11_readsMap 136 = .ok (.iload_n 1, 1) := by decide +kernel
theorem dX11_readsMap_137 : decode cX11_readsMap 137 = .ok (.iaload, 1) := by decide +kernel
theorem dX11_readsMap_138 : decode cX11_readsMap 138 = .ok (.if_icmp .ge 30, 3) := by decide +kernel
theorem dX11_readsMap_141 : decode cX11_readsMap 141 = .ok (.aload_n 0, 1) := by decide +kernel
theorem dX11_readsMap_142 : decode cX11_readsMap 142 = .ok (.getfield 7, 3) := by decide +kernel
theorem dX11_readsMap_145 : decode cX11_readsMap 145 = .ok (.iload_n 1, 1) := by decide +kernel
theorem dX11_readsMap_146 : decode cX11_readsMap 146 = .ok (.iconst 1, 1) := by decide +kernel
theorem dX11_readsMap_147 : decode cX11_readsMap 147 = .ok (.iadd, 1) := by decide +kernel
theorem dX11_readsMap_148 : decode cX11_readsMap 148 = .ok (.iload_n 2, 1) := by decide +kernel
theorem dX11_readsMap_149 : decode cX11_readsMap 149 = .ok (.iadd, 1) := by decide +kernel
theorem dX11_readsMap_150 : decode cX11_readsMap 150 = .ok (.aload_n 0, 1) := by decide +kernel
theorem dX11_readsMap_151 : decode cX11_readsMap 151 = .ok (.getfield 74, 3) := by decide +kernel
theorem dX11_readsMap_154 : decode cX11_readsMap 154 = .ok (.aload_n 0, 1) := by decide +kernel
theorem dX11_readsMap_155 : decode cX11_readsMap 155 = .ok (.getfield 252, 3) := by decide +kernel
theorem dX11_readsMap_158 : decode cX11_readsMap 158 = .ok (.iload_n 2, 1) := by decide +kernel
theorem dX11_readsMap_159 : decode cX11_readsMap 159 = .ok (.iadd, 1) := by decide +kernel
theorem dX11_readsMap_160 : decode cX11_readsMap 160 = .ok (.iaload, 1) := by decide +kernel
theorem dX11_readsMap_161 : decode cX11_readsMap 161 = .ok (.iastore, 1) := by decide +kernel
theorem dX11_readsMap_162 : decode cX11_readsMap 162 = .ok (.iinc 2 1, 3) := by decide +kernel
theorem dX11_readsMap_165 : decode cX11_readsMap 165 = .ok (.goto (-34), 3) := by decide +kernel
theorem dX11_readsMap_168 : decode cX11_readsMap 168 = .ok (.aload_n 0, 1) := by decide +kernel
theorem dX11_readsMap_169 : decode cX11_readsMap 169 = .ok (.getfield 7, 3) := by decide +kernel
theorem dX11_readsMap_172 : decode cX11_readsMap 172 = .ok (.bipush 6, 2) := by decide +kernel
theorem dX11_readsMap_174 : decode cX11_readsMap 174 = .ok (.dup2, 1) := by decide +kernel
theorem dX11_readsMap_175 : decode cX11_readsMap 175 = .ok (.iaload, 1) := by decide +kernel
theorem dX11_readsMap_176 : decode cX11_readsMap 176 = .ok (.iconst 1, 1) := by decide +kernel
theorem dX11_readsMap_177 : decode cX11_readsMap 177 = .ok (.iadd, 1) := by decide +kernel
theorem dX11_readsMap_178 : decode cX11_readsMap 178 = .ok (.iastore, 1) := by decide +kernel
theorem dX11_readsMap_179 : decode cX11_readsMap 179 = .ok (.aload_n 0, 1) := by decide +kernel
theorem dX11_readsMap_180 : decode cX11_readsMap 180 = .ok (.invokevirtual 281, 3) := by decide +kernel
theorem dX11_readsMap_183 : decode cX11_readsMap 183 = .ok (.return_, 1) := by decide +kernel
theorem dX11_readsBan_0 : decode cX11_readsBan 0 = .ok (.aload_n 0, 1) := by decide +kernel
theorem dX11_readsBan_1 : decode cX11_readsBan 1 = .ok (.getfield 7, 3) := by decide +kernel
theorem dX11_readsBan_4 : decode cX11_readsBan 4 = .ok (.bipush 7, 2) := by decide +kernel
theorem dX11_readsBan_6 : decode cX11_readsBan 6 = .ok (.iaload, 1) := by decide +kernel
theorem dX11_readsBan_7 : decode cX11_readsBan 7 = .ok (.bipush 10, 2) := by decide +kernel
theorem dX11_readsBan_9 : decode cX11_readsBan 9 = .ok (.if_icmp .ne 8, 3) := by decide +kernel
theorem dX11_readsBan_12 : decode cX11_readsBan 12 = .ok (.aload_n 0, 1) := by decide +kernel
theorem dX11_readsBan_13 : decode cX11_readsBan 13 = .ok (.iconst 4, 1) := by decide +kernel
theorem dX11_readsBan_14 : decode cX11_readsBan 14 = .ok (.invokevirtual 295, 3) := by decide +kernel
theorem dX11_readsBan_17 : decode cX11_readsBan 17 = .ok (.aload_n 0, 1) := by decide +kernel
theorem dX11_readsBan_18 : decode cX11_readsBan 18 = .ok (.invokevirtual 298, 3) := by decide +kernel
theorem dX11_readsBan_21 : decode cX11_readsBan 21 = .ok (.aload_n 0, 1) := by decide +kernel
theorem dX11_readsBan_22 : decode cX11_readsBan 22 = .ok (.iconst 0, 1) := by decide +kernel
theorem dX11_readsBan_23 : decode cX11_readsBan 23 = .ok (.iconst 5, 1) := by decide +kernel
theorem dX11_readsBan_24 : decode cX11_readsBan 24 = .ok (.invokevirtual 308, 3) := by decide +kernel
theorem dX11_readsBan_27 : decode cX11_readsBan 27 = .ok (.istore_n 1, 1) := by decide +kernel
theorem dX11_readsBan_28 : decode cX11_readsBan 28 = .ok (.aload_n 0, 1) := by decide +kernel
theorem dX11_readsBan_29 : decode cX11_readsBan 29 = .ok (.iconst 0, 1) := by decide +kernel
theorem dX11_readsBan_30 : decode cX11_readsBan 30 = .ok (.bipush 99, 2) := by decide +kernel
theorem dX11_readsBan_32 : decode cX11_readsBan 32 = .ok (.invokevirtual 308, 3) := by decide +kernel
theorem dX11_readsBan_35 : decode cX11_readsBan 35 = .ok (.istore_n 2, 1) := by decide +kernel
theorem dX11_readsBan_36 : decode cX11_readsBan 36 = .ok (.aload_n 0, 1) := by decide +kernel
theorem dX11_readsBan_37 : decode cX11_readsBan 37 = .ok (.iload_n 2, 1) := by decide +kernel
theorem dX11_readsBan_38 : decode cX11_readsBan 38 = .ok (.bipush 99, 2) := by decide +kernel
theorem dX11_readsBan_40 : decode cX11_readsBan 40 = .ok (.invokevirtual 308, 3) := by decide +kernel
theorem dX11_readsBan_43 : decode cX11_readsBan 43 = .ok (.istore_n 3, 1) := by decide +kernel
theorem dX11_readsBan_44 : decode cX11_readsBan 44 = .ok (.aload_n 0, 1) := by decide +kernel
theorem dX11_readsBan_45 : decode cX11_readsBan 45 = .ok (.invokevirtual 277, 3) := by decide +kernel
theorem dX11_readsBan_48 : decode cX11_readsBan 48 = .ok (.ifCond .ne 4, 3) := by decide +kernel
theorem dX11_readsBan_51 : decode cX11_readsBan 51 = .ok (.return_, 1) := by decide +kernel
theorem dX11_readsBan_52 : decode cX11_readsBan 52 = .ok (.bipush 96, 2) := by decide +kernel
theorem dX11_readsBan_54 : decode cX11_readsBan 54 = .ok (.iconst 3, 1) := by decide +kernel
theorem dX11_readsBan_55 : decode cX11_readsBan 55 = .ok (.aload_n 0, 1) := by decide +kernel
theorem dX11_readsBan_56 : decode cX11_readsBan 56 = .ok (.getfield 7, 3) := by decide +kernel
theorem dX11_readsBan_59 : decode cX11_readsBan 59 = .ok (.bipush 7, 2) := by decide +kernel
theorem dX11_readsBan_61 : decode cX11_readsBan 61 = .ok (.iaload, 1) := by decide +kernel
theorem dX11_readsBan_62 : decode cX11_readsBan 62 = .ok (.imul, 1) := by decide +kernel
theorem dX11_readsBan_63 : decode cX11_readsBan 63 = .ok (.iadd, 1) := by decide +kernel
theorem dX11_readsBan_64 : decode cX11_readsBan 64 = .ok (.istore 4, 2) := by decide +kernel
theorem dX11_readsBan_66 : decode cX11_readsBan 66 = .ok (.aload_n 0, 1) := by decide +kernel
theorem dX11_readsBan_67 : decode cX11_readsBan 67 = .ok (.getfield 7, 3) := by decide +kernel
theorem dX11_readsBan_70 : decode cX11_readsBan 70 = .ok (.iload 4, 2) := by decide +kernel
theorem dX11_readsBan_72 : decode cX11_readsBan 72 = .ok (.iload_n 1, 1) := by decide +kernel
theorem dX11_readsBan_73 : decode cX11_readsBan 73 = .ok (.iastore, 1) := by decide +kernel
theorem dX11_readsBan_74 : decode cX11_readsBan 74 = .ok (.aload_n 0, 1) := by decide +kernel
theorem dX11_readsBan_75 : decode cX11_readsBan 75 = .ok (.getfield 7, 3) := by decide +kernel
theorem dX11_readsBan_78 : decode cX11_readsBan 78 = .ok (.iload 4, 2) := by decide +kernel
theorem dX11_readsBan_80 : decode cX11_readsBan 80 = .ok (.iconst 1, 1) := by decide +kernel
theorem dX11_readsBan_81 : decode cX11_readsBan 81 = .ok (.iadd, 1) := by decide +kernel
theorem dX11_readsBan_82 : decode cX11_readsBan 82 = .ok (.iload_n 2, 1) := by decide +kernel
theorem dX11_readsBan_83 : decode cX11_readsBan 83 = .ok (.iastore, 1) := by decide +kernel
theorem dX11_readsBan_84 : decode cX11_readsBan 84 = .ok (.aload_n 0, 1) := by decide +kernel
theorem dX11_readsBan_85 : decode cX11_readsBan 85 = .ok (.getfield 7, 3) := by decide +kernel
theorem dX11_readsBan_88 : decode cX11_readsBan 88 = .ok (.iload 4, 2) := by decide +kernel
theorem dX11_readsBan_90 : decode cX11_readsBan 90 = .ok (.iconst 2, 1) := by decide +kernel
theorem dX11_readsBan_91 : decode cX11_readsBan 91 = .ok (.iadd, 1) := by decide +kernel
theorem dX11_readsBan_92 : decode cX11_readsBan 92 = .ok (.iload_n 3, 1) := by decide +kernel
theorem dX11_readsBan_93 : decode cX11_readsBan 93 = .ok (.iastore, 1) := by decide +kernel
theorem dX11_readsBan_94 : decode cX11_readsBan 94 = .ok (.aload_n 0, 1) := by decide +kernel
theorem dX11_readsBan_95 : decode cX11_readsBan 95 = .ok (.getfield 7, 3) := by decide +kernel
theorem dX11_readsBan_98 : decode cX11_readsBan 98 = .ok (.bipush 7, 2) := by decide +kernel
theorem dX11_readsBan_100 : decode cX11_readsBan 100 = .ok (.dup2, 1) := by decide +kernel
theorem dX11_readsBan_101 : decode cX11_readsBan 101 = .ok (.iaload, 1) := by decide +kernel
theorem dX11_readsBan_102 : decode cX11_readsBan 102 = .ok (.iconst 1, 1) := by decide +kernel
theorem dX11_readsBan_103 : decode cX11_readsBan 103 = .ok (.iadd, 1) := by decide +kernel
theorem dX11_readsBan_104 : decode cX11_readsBan 104 = .ok (.iastore, 1) := by decide +kernel
theorem dX11_readsBan_105 : decode cX11_readsBan 105 = .ok (.return_, 1) := by decide +kernel
theorem dX11_readsStatement_0 : decode cX11_readsStatement 0 = .ok (.aload_n 0, 1) := by decide +kernel
theorem dX11_readsStatement_1 : decode cX11_readsStatement 1 = .ok (.ldc_w 314, 3) := by decide +kernel
theorem dX11_readsStatement_4 : decode cX11_readsStatement 4 = .ok (.invokevirtual 301, 3) := by decide +kernel
theorem dX11_readsStatement_7 : decode cX11_readsStatement 7 = .ok (.ifCond .eq 10, 3) := by decide +kernel
theorem dX11_readsStatement_10 : decode cX11_readsStatement 10 = .ok (.aload_n 0, 1) := by decide +kernel
theorem dX11_readsStatement_11 : decode cX11_readsStatement 11 = .ok (.invokevirtual 316, 3) := by decide +kernel
theorem dX11_readsStatement_14 : decode cX11_readsStatement 14 = .ok (.goto 147, 3) := by decide +kernel
theorem dX11_readsStatement_17 : decode cX11_readsStatement 17 = .ok (.aload_n 0, 1) := by decide +kernel
theorem dX11_readsStatement_18 : decode cX11_readsStatement 18 = .ok (.ldc_w 319, 3) := by decide +kernel
theorem dX11_readsStatement_21 : decode cX11_readsStatement 21 = .ok (.invokevirtual 301, 3) := by decide +kernel
theorem dX11_readsStatement_24 : decode cX11_readsStatement 24 = .ok (.ifCond .eq 10, 3) := by decide +kernel
theorem dX11_readsStatement_27 : decode cX11_readsStatement 27 = .ok (.aload_n 0, 1) := by decide +kernel
theorem dX11_readsStatement_28 : decode cX11_readsStatement 28 = .ok (.invokevirtual 321, 3) := by decide +kernel
theorem dX11_readsStatement_31 : decode cX11_readsStatement 31 = .ok (.goto 130, 3) := by decide +kernel
theorem dX11_readsStatement_34 : decode cX11_readsStatement 34 = .ok (.aload_n 0, 1) := by decide +kernel
theorem dX11_readsStatement_35 : decode cX11_readsStatement 35 = .ok (.ldc_w 324, 3) := by decide +kernel
theorem dX11_readsStatement_38 : decode cX11_readsStatement 38 = .ok (.invokevirtual 301, 3) := by decide +kernel
theorem dX11_readsStatement_41 : decode cX11_readsStatement 41 = .ok (.ifCond .eq 10, 3) := by decide +kernel
theorem dX11_readsStatement_44 : decode cX11_readsStatement 44 = .ok (.aload_n 0, 1) := by decide +kernel
theorem dX11_readsStatement_45 : decode cX11_readsStatement 45 = .ok (.invokevirtual 326, 3) := by decide +kernel
theorem dX11_readsStatement_48 : decode cX11_readsStatement 48 = .ok (.goto 113, 3) := by decide +kernel
theorem dX11_readsStatement_51 : decode cX11_readsStatement 51 = .ok (.aload_n 0, 1) := by decide +kernel
theorem dX11_readsStatement_52 : decode cX11_readsStatement 52 = .ok (.ldc_w 329, 3) := by decide +kernel
theorem dX11_readsStatement_55 : decode cX11_readsStatement 55 = .ok (.invokevirtual 301, 3) := by decide +kernel
theorem dX11_readsStatement_58 : decode cX11_readsStatement 58 = .ok (.ifCond .eq 14, 3) := by decide +kernel
theorem dX11_readsStatement_61 : decode cX11_readsStatement 61 = .ok (.aload_n 0, 1) := by decide +kernel
theorem dX11_readsStatement_62 : decode cX11_readsStatement 62 = .ok (.iconst 0, 1) := by decide +kernel
theorem dX11_readsStatement_63 : decode cX11_readsStatement 63 = .ok (.iconst 0, 1) := by decide +kernel
theorem dX11_readsStatement_64 : decode cX11_readsStatement 64 = .ok (.bipush 99, 2) := by decide +kernel
theorem dX11_readsStatement_66 : decode cX11_readsStatement 66 = .ok (.invokevirtual 331, 3) := by decide +kernel
theorem dX11_readsStatement_69 : decode cX11_readsStatement 69 = .ok (.goto 92, 3) := by decide +kernel
theorem dX11_readsStatement_72 : decode cX11_readsStatement 72 = .ok (.aload_n 0, 1) := by decide +kernel
theorem dX11_readsStatement_73 : decode cX11_readsStatement 73 = .ok (.ldc_w 335, 3) := by decide +kernel
theorem dX11_readsStatement_76 : decode cX11_readsStatement 76 = .ok (.invokevirtual 301, 3) := by decide +kernel
theorem dX11_readsStatement_79 : decode cX11_readsStatement 79 = .ok (.ifCond .eq 14, 3) := by decide +kernel
theorem dX11_readsStatement_82 : decode cX11_readsStatement 82 = .ok (.aload_n 0, 1) := by decide +kernel
theorem dX11_readsStatement_83 : decode cX11_readsStatement 83 = .ok (.iconst 1, 1) := by decide +kernel
theorem dX11_readsStatement_84 : decode cX11_readsStatement 84 = .ok (.iconst 1, 1) := by decide +kernel
theorem dX11_readsStatement_85 : decode cX11_readsStatement 85 = .ok (.bipush 20, 2) := by decide +kernel
theorem dX11_readsStatement_87 : decode cX11_readsStatement 87 = .ok (.invokevirtual 331, 3) := by decide +kernel
theorem dX11_readsStatement_90 : decode cX11_readsStatement 90 = .ok (.goto 71, 3) := by decide +kernel
theorem dX11_readsStatement_93 : decode cX11_readsStatement 93 = .ok (.aload_n 0, 1) := by decide +kernel
theorem dX11_readsStatement_94 : decode cX11_readsStatement 94 = .ok (.ldc_w 337, 3) := by decide +kernel
theorem dX11_readsStatement_97 : decode cX11_readsStatement 97 = .ok (.invokevirtual 301, 3) := by decide +kernel
theorem dX11_readsStatement_100 : decode cX11_readsStatement 100 = .ok (.ifCond .eq 14, 3) := by decide +kernel
theorem dX11_readsStatement_103 : decode cX11_readsStatement 103 = .ok (.aload_n 0, 1) := by decide +kernel
theorem dX11_readsStatement_104 : decode cX11_readsStatement 104 = .ok (.iconst 2, 1) := by decide +kernel
theorem dX11_readsStatement_105 : decode cX11_readsStatement 105 = .ok (.iconst 0, 1) := by decide +kernel
theorem dX11_readsStatement_106 : decode cX11_readsStatement 106 = .ok (.bipush 50, 2) := by decide +kernel
theorem dX11_readsStatement_108 : decode cX11_readsStatement 108 = .ok (.invokevirtual 331, 3) := by decide +kernel
theorem dX11_readsStatement_111 : decode cX11_readsStatement 111 = .ok (.goto 50, 3) := by decide +kernel
theorem dX11_readsStatement_114 : decode cX11_readsStatement 114 = .ok (.aload_n 0, 1) := by decide +kernel
theorem dX11_readsStatement_115 : decode cX11_readsStatement 115 = .ok (.ldc_w 339, 3) := by decide +kernel
theorem dX11_readsStatement_118 : decode cX11_readsStatement 118 = .ok (.invokevirtual 301, 3) := by decide +kernel
theorem dX11_readsStatement_121 : decode cX11_readsStatement 121 = .ok (.ifCond .eq 14, 3) := by decide +kernel
theorem dX11_readsStatement_124 : decode cX11_readsStatement 124 = .ok (.aload_n 0, 1) := by decide +kernel
theorem dX11_readsStatement_125 : decode cX11_readsStatement 125 = .ok (.iconst 3, 1) := by decide +kernel
theorem dX11_readsStatement_126 : decode cX11_readsStatement 126 = .ok (.iconst 1, 1) := by decide +kernel
theorem dX11_readsStatement_127 : decode cX11_readsStatement 127 = .ok (.bipush 50, 2) := by decide +kernel
theorem dX11_readsStatement_129 : decode cX11_readsStatement 129 = .ok (.invokevirtual 331, 3) := by decide +kernel
theorem dX11_readsStatement_132 : decode cX11_readsStatement 132 = .ok (.goto 29, 3) := by decide +kernel
theorem dX11_readsStatement_135 : decode cX11_readsStatement 135 = .ok (.aload_n 0, 1) := by decide +kernel
theorem dX11_readsStatement_136 : decode cX11_readsStatement 136 = .ok (.ldc_w 341, 3) := by decide +kernel
theorem dX11_readsStatement_139 : decode cX11_readsStatement 139 = .ok (.invokevirtual 301, 3) := by decide +kernel
theorem dX11_readsStatement_142 : decode cX11_readsStatement 142 = .ok (.ifCond .eq 14, 3) := by decide +kernel
theorem dX11_readsStatement_145 : decode cX11_readsStatement 145 = .ok (.aload_n 0, 1) := by decide +kernel
theorem dX11_readsStatement_146 : decode cX11_readsStatement 146 = .ok (.iconst 4, 1) := by decide +kernel
theorem dX11_readsStatement_147 : decode cX11_readsStatement 147 = .ok (.iconst 0, 1) := by decide +kernel
theorem dX11_readsStatement_148 : decode cX11_readsStatement 148 = .ok (.bipush 100, 2) := by decide +kernel
theorem dX11_readsStatement_150 : decode cX11_readsStatement 150 = .ok (.invokevirtual 331, 3) := by decide +kernel
theorem dX11_readsStatement_153 : decode cX11_readsStatement 153 = .ok (.goto 8, 3) := by decide +kernel
theorem dX11_readsStatement_156 : decode cX11_readsStatement 156 = .ok (.aload_n 0, 1) := by decide +kernel
theorem dX11_readsStatement_157 : decode cX11_readsStatement 157 = .ok (.iconst 1, 1) := by decide +kernel
theorem dX11_readsStatement_158 : decode cX11_readsStatement 158 = .ok (.invokevirtual 295, 3) := by decide +kernel
theorem dX11_readsStatement_161 : decode cX11_readsStatement 161 = .ok (.aload_n 0, 1) := by decide +kernel
theorem dX11_readsStatement_162 : decode cX11_readsStatement 162 = .ok (.bipush 59, 2) := by decide +kernel
theorem dX11_readsStatement_164 : decode cX11_readsStatement 164 = .ok (.invokevirtual 343, 3) := by decide +kernel
theorem dX11_readsStatement_167 : decode cX11_readsStatement 167 = .ok (.return_, 1) := by decide +kernel
theorem dX11_load_0 : decode cX11_load 0 = .ok (.aload_n 0, 1) := by decide +kernel
theorem dX11_load_1 : decode cX11_load 1 = .ok (.iconst 0, 1) := by decide +kernel
theorem dX11_load_2 : decode cX11_load 2 = .ok (.putfield 105, 3) := by decide +kernel
theorem dX11_load_5 : decode cX11_load 5 = .ok (.aload_n 0, 1) := by decide +kernel
theorem dX11_load_6 : decode cX11_load 6 = .ok (.getfield 7, 3) := by decide +kernel
theorem dX11_load_9 : decode cX11_load 9 = .ok (.iconst 0, 1) := by decide +kernel
theorem dX11_load_10 : decode cX11_load 10 = .ok (.aload_n 0, 1) := by decide +kernel
theorem dX11_load_11 : decode cX11_load 11 = .ok (.getfield 13, 3) := by decide +kernel
theorem dX11_load_14 : decode cX11_load 14 = .ok (.iconst 0, 1) := by decide +kernel
theorem dX11_load_15 : decode cX11_load 15 = .ok (.invokestatic 346, 3) := by decide +kernel
theorem dX11_load_18 : decode cX11_load 18 = .ok (.aload_n 0, 1) := by decide +kernel
theorem dX11_load_19 : decode cX11_load 19 = .ok (.invokevirtual 102, 3) := by decide +kernel
theorem dX11_load_22 : decode cX11_load 22 = .ok (.aload_n 0, 1) := by decide +kernel
theorem dX11_load_23 : decode cX11_load 23 = .ok (.iconst 0, 1) := by decide +kernel
theorem dX11_load_24 : decode cX11_load 24 = .ok (.putfield 305, 3) := by decide +kernel
theorem dX11_load_27 : decode cX11_load 27 = .ok (.aload_n 0, 1) := by decide +kernel
theorem dX11_load_28 : decode cX11_load 28 = .ok (.invokevirtual 350, 3) := by decide +kernel
theorem dX11_load_31 : decode cX11_load 31 = .ok (.aload_n 0, 1) := by decide +kernel
theorem dX11_load_32 : decode cX11_load 32 = .ok (.invokevirtual 277, 3) := by decide +kernel
theorem dX11_load_35 : decode cX11_load 35 = .ok (.ifCond .eq 17, 3) := by decide +kernel
theorem dX11_load_38 : decode cX11_load 38 = .ok (.aload_n 0, 1) := by decide +kernel
theorem dX11_load_39 : decode cX11_load 39 = .ok (.getfield 255, 3) := by decide +kernel
theorem dX11_load_42 : decode cX11_load 42 = .ok (.ifCond .eq 10, 3) := by decide +kernel
theorem dX11_load_45 : decode cX11_load 45 = .ok (.aload_n 0, 1) := by decide +kernel
theorem dX11_load_46 : decode cX11_load 46 = .ok (.invokevirtual 353, 3) := by decide +kernel
theorem dX11_load_49 : decode cX11_load 49 = .ok (.goto (-18), 3) := by decide +kernel
theorem dX11_load_52 : decode cX11_load 52 = .ok (.aload_n 0, 1) := by decide +kernel
theorem dX11_load_53 : decode cX11_load 53 = .ok (.invokevirtual 356, 3) := by decide +kernel
theorem dX11_load_56 : decode cX11_load 56 = .ok (.aload_n 0, 1) := by decide +kernel
theorem dX11_load_57 : decode cX11_load 57 = .ok (.invokevirtual 277, 3) := by decide +kernel
theorem dX11_load_60 : decode cX11_load 60 = .ok (.ifCond .ne 18, 3) := by decide +kernel
theorem dX11_load_63 : decode cX11_load 63 = .ok (.aload_n 0, 1) := by decide +kernel
theorem dX11_load_64 : decode cX11_load 64 = .ok (.getfield 13, 3) := by decide +kernel
theorem dX11_load_67 : decode cX11_load 67 = .ok (.iconst 0, 1) := by decide +kernel
theorem dX11_load_68 : decode cX11_load 68 = .ok (.aload_n 0, 1) := by decide +kernel
theorem dX11_load_69 : decode cX11_load 69 = .ok (.getfield 7, 3) := by decide +kernel
theorem dX11_load_72 : decode cX11_load 72 = .ok (.iconst 0, 1) := by decide +kernel
theorem dX11_load_73 : decode cX11_load 73 = .ok (.invokestatic 346, 3) := by decide +kernel
theorem dX11_load_76 : decode cX11_load 76 = .ok (.iconst (-1), 1) := by decide +kernel
theorem dX11_load_77 : decode cX11_load 77 = .ok (.ireturn, 1) := by decide +kernel
theorem dX11_load_78 : decode cX11_load 78 = .ok (.aload_n 0, 1) := by decide +kernel
theorem dX11_load_79 : decode cX11_load 79 = .ok (.iconst 0, 1) := by decide +kernel
theorem dX11_load_80 : decode cX11_load 80 = .ok (.putfield 359, 3) := by decide +kernel
theorem dX11_load_83 : decode cX11_load 83 = .ok (.aload_n 0, 1) := by decide +kernel
theorem dX11_load_84 : decode cX11_load 84 = .ok (.getfield 7, 3) := by decide +kernel
theorem dX11_load_87 : decode cX11_load 87 = .ok (.iconst 5, 1) := by decide +kernel
theorem dX11_load_88 : decode cX11_load 88 = .ok (.iaload, 1) := by decide +kernel
theorem dX11_load_89 : decode cX11_load 89 = .ok (.ireturn, 1) := by decide +kernel
theorem dX11_makes_0 : decode cX11_makes 0 = .ok (.aload_n 0, 1) := by decide +kernel
theorem dX11_makes_1 : decode cX11_makes 1 = .ok (.invokevirtual 277, 3) := by decide +kernel
theorem dX11_makes_4 : decode cX11_makes 4 = .ok (.ifCond .ne 4, 3) := by decide +kernel
theorem dX11_makes_7 : decode cX11_makes 7 = .ok (.return_, 1) := by decide +kernel
theorem dX11_makes_8 : decode cX11_makes 8 = .ok (.iconst 4, 1) := by decide +kernel
theorem dX11_makes_9 : decode cX11_makes 9 = .ok (.aload_n 0, 1) := by decide +kernel
theorem dX11_makes_10 : decode cX11_makes 10 = .ok (.getfield 362, 3) := by decide +kernel
theorem dX11_makes_13 : decode cX11_makes 13 = .ok (.imul, 1) := by decide +kernel
theorem dX11_makes_14 : decode cX11_makes 14 = .ok (.istore 5, 2) := by decide +kernel
theorem dX11_makes_16 : decode cX11_makes 16 = .ok (.aload_n 0, 1) := by decide +kernel
theorem dX11_makes_17 : decode cX11_makes 17 = .ok (.getfield 81, 3) := by decide +kernel
theorem dX11_makes_20 : decode cX11_makes 20 = .ok (.iload 5, 2) := by decide +kernel
theorem dX11_makes_22 : decode cX11_makes 22 = .ok (.iload_n 1, 1) := by decide +kernel
theorem dX11_makes_23 : decode cX11_makes 23 = .ok (.iastore, 1) := by decide +kernel
theorem dX11_makes_24 : decode cX11_makes 24 = .ok (.aload_n 0, 1) := by decide +kernel
theorem dX11_makes_25 : decode cX11_makes 25 = .ok (.getfield 81, 3) := by decide +kernel
theorem dX11_makes_28 : decode cX11_makes 28 = .ok (.iload 5, 2) := by decide +kernel
theorem dX11_makes_30 : decode cX11_makes 30 = .ok (.iconst 1, 1) := by decide +kernel
theorem dX11_makes_31 : decode cX11_makes 31 = .ok (.iadd, 1) := by decide +kernel
theorem dX11_makes_32 : decode cX11_makes 32 = .ok (.iload_n 2, 1) := by decide +kernel
theorem dX11_makes_33 : decode cX11_makes 33 = .ok (.iastore, 1) := by decide +kernel
theorem dX11_makes_34 : decode cX11_makes 34 = .ok (.aload_n 0, 1) := by decide +kernel
theorem dX11_makes_35 : decode cX11_makes 35 = .ok (.getfield 81, 3) := by decide +kernel
theorem dX11_makes_38 : decode cX11_makes 38 = .ok (.iload 5, 2) := by decide +kernel
theorem dX11_makes_40 : decode cX11_makes 40 = .ok (.iconst 2, 1) := by decide +kernel
theorem dX11_makes_41 : decode cX11_makes 41 = .ok (.iadd, 1) := by decide +kernel
theorem dX11_makes_42 : decode cX11_makes 42 = .ok (.iload_n 3, 1) := by decide +kernel
theorem dX11_makes_43 : decode cX11_makes 43 = .ok (.iastore, 1) := by decide +kernel
theorem dX11_makes_44 : decode cX11_makes 44 = .ok (.aload_n 0, 1) := by decide +kernel
theorem dX11_makes_45 : decode cX11_makes 45 = .ok (.getfield 81, 3) := by decide +kernel
theorem dX11_makes_48 : decode cX11_makes 48 = .ok (.iload 5, 2) := by decide +kernel
theorem dX11_makes_50 : decode cX11_makes 50 = .ok (.iconst 3, 1) := by decide +kernel
theorem dX11_makes_51 : decode cX11_makes 51 = .ok (.iadd, 1) := by decide +kernel
theorem dX11_makes_52 : decode cX11_makes 52 = .ok (.iload 4, 2) := by decide +kernel
theorem dX11_makes_54 : decode cX11_makes 54 = .ok (.iastore, 1) := by decide +kernel
theorem dX11_makes_55 : decode cX11_makes 55 = .ok (.aload_n 0, 1) := by decide +kernel
theorem dX11_makes_56 : decode cX11_makes 56 = .ok (.dup, 1) := by decide +kernel
theorem dX11_makes_57 : decode cX11_makes 57 = .ok (.getfield 362, 3) := by decide +kernel
theorem dX11_makes_60 : decode cX11_makes 60 = .ok (.iconst 1, 1) := by decide +kernel
theorem dX11_makes_61 : decode cX11_makes 61 = .ok (.iadd, 1) := by decide +kernel
theorem dX11_makes_62 : decode cX11_makes 62 = .ok (.putfield 362, 3) := by decide +kernel
theorem dX11_makes_65 : decode cX11_makes 65 = .ok (.return_, 1) := by decide +kernel
theorem dX11_readsCut_0 : decode cX11_readsCut 0 = .ok (.aload_n 0, 1) := by decide +kernel
theorem dX11_readsCut_1 : decode cX11_readsCut 1 = .ok (.invokevirtual 281, 3) := by decide +kernel
theorem dX11_readsCut_4 : decode cX11_readsCut 4 = .ok (.aload_n 0, 1) := by decide +kernel
theorem dX11_readsCut_5 : decode cX11_readsCut 5 = .ok (.iconst 0, 1) := by decide +kernel
theorem dX11_readsCut_6 : decode cX11_readsCut 6 = .ok (.aload_n 0, 1) := by decide +kernel
theorem dX11_readsCut_7 : decode cX11_readsCut 7 = .ok (.getfield 7, 3) := by decide +kernel
theorem dX11_readsCut_10 : decode cX11_readsCut 10 = .ok (.iconst 5, 1) := by decide +kernel
theorem dX11_readsCut_11 : decode cX11_readsCut 11 = .ok (.iaload, 1) := by decide +kernel
theorem dX11_readsCut_12 : decode cX11_readsCut 12 = .ok (.iconst 1, 1) := by decide +kernel
theorem dX11_readsCut_13 : decode cX11_readsCut 13 = .ok (.isub, 1) := by decide +kernel
theorem dX11_readsCut_14 : decode cX11_readsCut 14 = .ok (.invokevirtual 308, 3) := by decide +kernel
theorem dX11_readsCut_17 : decode cX11_readsCut 17 = .ok (.istore_n 1, 1) := by decide +kernel
theorem dX11_readsCut_18 : decode cX11_readsCut 18 = .ok (.iconst 0, 1) := by decide +kernel
theorem dX11_readsCut_19 : decode cX11_readsCut 19 = .ok (.istore_n 2, 1) := by decide +kernel
theorem dX11_readsCut_20 : decode cX11_readsCut 20 = .ok (.aload_n 0, 1) := by decide +kernel
theorem dX11_readsCut_21 : decode cX11_readsCut 21 = .ok (.invokevirtual 277, 3) := by decide +kernel
theorem dX11_readsCut_24 : decode cX11_readsCut 24 = .ok (.ifCond .eq 13, 3) := by decide +kernel
theorem dX11_readsCut_27 : decode cX11_readsCut 27 = .ok (.aload_n 0, 1) := by decide +kernel
theorem dX11_readsCut_28 : decode cX11_readsCut 28 = .ok (.iload_n 1, 1) := by decide +kernel
theorem dX11_readsCut_29 : decode cX11_readsCut 29 = .ok (.invokevirtual 218, 3) := by decide +kernel
theorem dX11_readsCut_32 : decode cX11_readsCut 32 = .ok (.iconst 1, 1) := by decide +kernel
theorem dX11_readsCut_33 : decode cX11_readsCut 33 = .ok (.isub, 1) := by decide +kernel
theorem dX11_readsCut_34 : decode cX11_readsCut 34 = .ok (.goto 4, 3) := by decide +kernel
theorem dX11_readsCut_37 : decode cX11_readsCut 37 = .ok (.iconst 0, 1) := by decide +kernel
theorem dX11_readsCut_38 : decode cX11_readsCut 38 = .ok (.istore_n 3, 1) := by decide +kernel
theorem dX11_readsCut_39 : decode cX11_readsCut 39 = .ok (.aload_n 0, 1) := by decide +kernel
theorem dX11_readsCut_40 : decode cX11_readsCut 40 = .ok (.ldc_w 365, 3) := by decide +kernel
theorem dX11_readsCut_43 : decode cX11_readsCut 43 = .ok (.invokevirtual 301, 3) := by decide +kernel
theorem dX11_readsCut_46 : decode cX11_readsCut 46 = .ok (.ifCond .eq 28, 3) := by decide +kernel
theorem dX11_readsCut_49 : decode cX11_readsCut 49 = .ok (.aload_n 0, 1) := by decide +kernel
theorem dX11_readsCut_50 : decode cX11_readsCut 50 = .ok (.invokevirtual 281, 3) := by decide +kernel
theorem dX11_readsCut_53 : decode cX11_readsCut 53 = .ok (.aload_n 0, 1) := by decide +kernel
theorem dX11_readsCut_54 : decode cX11_readsCut 54 = .ok (.iconst 0, 1) := by decide +kernel
theorem dX11_readsCut_55 : decode cX11_readsCut 55 = .ok (.iload_n 3, 1) := by decide +kernel
theorem dX11_readsCut_56 : decode cX11_readsCut 56 = .ok (.invokevirtual 308, 3) := by decide +kernel
theorem dX11_readsCut_59 : decode cX11_readsCut 59 = .ok (.istore_n 2, 1) := by decide +kernel
theorem dX11_readsCut_60 : decode cX11_readsCut 60 = .ok (.aload_n 0, 1) := by decide +kernel
theorem dX11_readsCut_61 : decode cX11_readsCut 61 = .ok (.ldc_w 367, 3) := by decide +kernel
theorem dX11_readsCut_64 : decode cX11_readsCut 64 = .ok (.invokevirtual 369, 3) := by decide +kernel
theorem dX11_readsCut_67 : decode cX11_readsCut 67 = .ok (.aload_n 0, 1) := by decide +kernel
theorem dX11_readsCut_68 : decode cX11_readsCut 68 = .ok (.iload_n 2, 1) := by decide +kernel
theorem dX11_readsCut_69 : decode cX11_readsCut 69 = .ok (.iload_n 3, 1) := by decide +kernel
theorem dX11_readsCut_70 : decode cX11_readsCut 70 = .ok (.invokevirtual 308, 3) := by decide +kernel
theorem dX11_readsCut_73 : decode cX11_readsCut 73 = .ok (.istore_n 3, 1) := by decide +kernel
theorem dX11_readsCut_74 : decode cX11_readsCut 74 = .ok (.aload_n 0, 1) := by decide +kernel
theorem dX11_readsCut_75 : decode cX11_readsCut 75 = .ok (.iconst 0, 1) := by decide +kernel
theorem dX11_readsCut_76 : decode cX11_readsCut 76 = .ok (.iload_n 1, 1) := by decide +kernel
theorem dX11_readsCut_77 : decode cX11_readsCut 77 = .ok (.iload_n 2, 1) := by decide +kernel
theorem dX11_readsCut_78 : decode cX11_readsCut 78 = .ok (.iload_n 3, 1) := by decide +kernel
theorem dX11_readsCut_79 : decode cX11_readsCut 79 = .ok (.invokevirtual 373, 3) := by decide +kernel
theorem dX11_readsCut_82 : decode cX11_readsCut 82 = .ok (.aload_n 0, 1) := by decide +kernel
theorem dX11_readsCut_83 : decode cX11_readsCut 83 = .ok (.bipush 59, 2) := by decide +kernel
theorem dX11_readsCut_85 : decode cX11_readsCut 85 = .ok (.invokevirtual 343, 3) := by decide +kernel
theorem dX11_readsCut_88 : decode cX11_readsCut 88 = .ok (.return_, 1) := by decide +kernel
theorem dX11_readsHeld_0 : decode cX11_readsHeld 0 = .ok (.aload_n 0, 1) := by decide +kernel
theorem dX11_readsHeld_1 : decode cX11_readsHeld 1 = .ok (.invokevirtual 281, 3) := by decide +kernel
theorem dX11_readsHeld_4 : decode cX11_readsHeld 4 = .ok (.aload_n 0, 1) := by decide +kernel
theorem dX11_readsHeld_5 : decode cX11_readsHeld 5 = .ok (.iconst 0, 1) := by decide +kernel
theorem dX11_readsHeld_6 : decode cX11_readsHeld 6 = .ok (.aload_n 0, 1) := by decide +kernel
theorem dX11_readsHeld_7 : decode cX11_readsHeld 7 = .ok (.getfield 7, 3) := by decide +kernel
theorem dX11_readsHeld_10 : decode cX11_readsHeld 10 = .ok (.bipush 6, 2) := by decide +kernel
theorem dX11_readsHeld_12 : decode cX11_readsHeld 12 = .ok (.iaload, 1) := by decide +kernel
theorem dX11_readsHeld_13 : decode cX11_readsHeld 13 = .ok (.iconst 1, 1) := by decide +kernel
theorem dX11_readsHeld_14 : decode cX11_readsHeld 14 = .ok (.isub, 1) := by decide +kernel
theorem dX11_readsHeld_15 : decode cX11_readsHeld 15 = .ok (.invokevirtual 308, 3) := by decide +kernel
theorem dX11_readsHeld_18 : decode cX11_readsHeld 18 = .ok (.istore_n 1, 1) := by decide +kernel
theorem dX11_readsHeld_19 : decode cX11_readsHeld 19 = .ok (.aload_n 0, 1) := by decide +kernel
theorem dX11_readsHeld_20 : decode cX11_readsHeld 20 = .ok (.iconst 1, 1) := by decide +kernel
theorem dX11_readsHeld_21 : decode cX11_readsHeld 21 = .ok (.sipush 400, 3) := by decide +kernel
theorem dX11_readsHeld_24 : decode cX11_readsHeld 24 = .ok (.invokevirtual 308, 3) := by decide +kernel
theorem dX11_readsHeld_27 : decode cX11_readsHeld 27 = .ok (.istore_n 2, 1) := by decide +kernel
theorem dX11_readsHeld_28 : decode cX11_readsHeld 28 = .ok (.aload_n 0, 1) := by decide +kernel
theorem dX11_readsHeld_29 : decode cX11_readsHeld 29 = .ok (.iconst 1, 1) := by decide +kernel
theorem dX11_readsHeld_30 : decode cX11_readsHeld 30 = .ok (.iload_n 1, 1) := by decide +kernel
theorem dX11_readsHeld_31 : decode cX11_readsHeld 31 = .ok (.iload_n 2, 1) := by decide +kernel
theorem dX11_readsHeld_32 : decode cX11_readsHeld 32 = .ok (.iconst 0, 1) := by decide +kernel
theorem dX11_readsHeld_33 : decode cX11_readsHeld 33 = .ok (.invokevirtual 373, 3) := by decide +kernel
theorem dX11_readsHeld_36 : decode cX11_readsHeld 36 = .ok (.aload_n 0, 1) := by decide +kernel
theorem dX11_readsHeld_37 : decode cX11_readsHeld 37 = .ok (.bipush 59, 2) := by decide +kernel
theorem dX11_readsHeld_39 : decode cX11_readsHeld 39 = .ok (.invokevirtual 343, 3) := by decide +kernel
theorem dX11_readsHeld_42 : decode cX11_readsHeld 42 = .ok (.return_, 1) := by decide +kernel
theorem dX11_readsBlock_0 : decode cX11_readsBlock 0 = .ok (.aload_n 0, 1) := by decide +kernel
theorem dX11_readsBlock_1 : decode cX11_readsBlock 1 = .ok (.invokevirtual 281, 3) := by decide +kernel
theorem dX11_readsBlock_4 : decode cX11_readsBlock 4 = .ok (.aload_n 0, 1) := by decide +kernel
theorem dX11_readsBlock_5 : decode cX11_readsBlock 5 = .ok (.iload_n 2, 1) := by decide +kernel
theorem dX11_readsBlock_6 : decode cX11_readsBlock 6 = .ok (.iload_n 3, 1) := by decide +kernel
theorem dX11_readsBlock_7 : decode cX11_readsBlock 7 = .ok (.invokevirtual 308, 3) := by decide +kernel
theorem dX11_readsBlock_10 : decode cX11_readsBlock 10 = .ok (.istore 4, 2) := by decide +kernel
theorem dX11_readsBlock_12 : decode cX11_readsBlock 12 = .ok (.aload_n 0, 1) := by decide +kernel
theorem dX11_readsBlock_13 : decode cX11_readsBlock 13 = .ok (.iload_n 1, 1) := by decide +kernel
theorem dX11_readsBlock_14 : decode cX11_readsBlock 14 = .ok (.iload 4, 2) := by decide +kernel
theorem dX11_readsBlock_16 : decode cX11_readsBlock 16 = .ok (.iconst 0, 1) := by decide +kernel
theorem dX11_readsBlock_17 : decode cX11_readsBlock 17 = .ok (.iconst 0, 1) := by decide +kernel
theorem dX11_readsBlock_18 : decode cX11_readsBlock 18 = .ok (.invokevirtual 373, 3) := by decide +kernel
theorem dX11_readsBlock_21 : decode cX11_readsBlock 21 = .ok (.aload_n 0, 1) := by decide +kernel
theorem dX11_readsBlock_22 : decode cX11_readsBlock 22 = .ok (.bipush 123, 2) := by decide +kernel
theorem dX11_readsBlock_24 : decode cX11_readsBlock 24 = .ok (.invokevirtual 292, 3) := by decide +kernel
theorem dX11_readsBlock_27 : decode cX11_readsBlock 27 = .ok (.ifCond .ne 8, 3) := by decide +kernel
theorem dX11_readsBlock_30 : decode cX11_readsBlock 30 = .ok (.aload_n 0, 1) := by decide +kernel
theorem dX11_readsBlock_31 : decode cX11_readsBlock 31 = .ok (.iconst 1, 1) := by decide +kernel
theorem dX11_readsBlock_32 : decode cX11_readsBlock 32 = .ok (.invokevirtual 295, 3) := by decide +kernel
theorem dX11_readsBlock_35 : decode cX11_readsBlock 35 = .ok (.aload_n 0, 1) := by decide +kernel
theorem dX11_readsBlock_36 : decode cX11_readsBlock 36 = .ok (.getfield 377, 3) := by decide +kernel
theorem dX11_readsBlock_39 : decode cX11_readsBlock 39 = .ok (.iconst 4, 1) := by decide +kernel
theorem dX11_readsBlock_40 : decode cX11_readsBlock 40 = .ok (.if_icmp .ne 8, 3) := by decide +kernel
theorem dX11_readsBlock_43 : decode cX11_readsBlock 43 = .ok (.aload_n 0, 1) := by decide +kernel
theorem dX11_readsBlock_44 : decode cX11_readsBlock 44 = .ok (.iconst 5, 1) := by decide +kernel
theorem dX11_readsBlock_45 : decode cX11_readsBlock 45 = .ok (.invokevirtual 295, 3) := by decide +kernel
theorem dX11_readsBlock_48 : decode cX11_readsBlock 48 = .ok (.aload_n 0, 1) := by decide +kernel
theorem dX11_readsBlock_49 : decode cX11_readsBlock 49 = .ok (.dup, 1) := by decide +kernel
theorem dX11_readsBlock_50 : decode cX11_readsBlock 50 = .ok (.getfield 377, 3) := by decide +kernel
theorem dX11_readsBlock_53 : decode cX11_readsBlock 53 = .ok (.iconst 1, 1) := by decide +kernel
theorem dX11_readsBlock_54 : decode cX11_readsBlock 54 = .ok (.iadd, 1) := by decide +kernel
theorem dX11_readsBlock_55 : decode cX11_readsBlock 55 = .ok (.putfield 377, 3) := by decide +kernel
theorem dX11_readsBlock_58 : decode cX11_readsBlock 58 = .ok (.aload_n 0, 1) := by decide +kernel
theorem dX11_readsBlock_59 : decode cX11_readsBlock 59 = .ok (.invokevirtual 298, 3) := by decide +kernel
theorem dX11_readsBlock_62 : decode cX11_readsBlock 62 = .ok (.return_, 1) := by decide +kernel
theorem dX11_readsItem_0 : decode cX11_readsItem 0 = .ok (.aload_n 0, 1) := by decide +kernel
theorem dX11_readsItem_1 : decode cX11_readsItem 1 = .ok (.ldc_w 314, 3) := by decide +kernel
theorem dX11_readsItem_4 : decode cX11_readsItem 4 = .ok (.invokevirtual 301, 3) := by decide +kernel
theorem dX11_readsItem_7 : decode cX11_readsItem 7 = .ok (.ifCond .ne 33, 3) := by decide +kernel
theorem dX11_readsItem_10 : decode cX11_readsItem 10 = .ok (.aload_n 0, 1) := by decide +kernel
theorem dX11_readsItem_11 : decode cX11_readsItem 11 = .ok (.ldc_w 319, 3) := by decide +kernel
theorem dX11_readsItem_14 : decode cX11_readsItem 14 = .ok (.invokevirtual 301, 3) := by decide +kernel
theorem dX11_readsItem_17 : decode cX11_readsItem 17 = .ok (.ifCond .ne 23, 3) := by decide +kernel
theorem dX11_readsItem_20 : decode cX11_readsItem 20 = .ok (.aload_n 0, 1) := by decide +kernel
theorem dX11_readsItem_21 : decode cX11_readsItem 21 = .ok (.ldc_w 380, 3) := by decide +kernel
theorem dX11_readsItem_24 : decode cX11_readsItem 24 = .ok (.invokevirtual 301, 3) := by decide +kernel
theorem dX11_readsItem_27 : decode cX11_readsItem 27 = .ok (.ifCond .ne 13, 3) := by decide +kernel
theorem dX11_readsItem_30 : decode cX11_readsItem 30 = .ok (.aload_n 0, 1) := by decide +kernel
theorem dX11_readsItem_31 : decode cX11_readsItem 31 = .ok (.ldc_w 382, 3) := by decide +kernel
theorem dX11_readsItem_34 : decode cX11_readsItem 34 = .ok (.invokevirtual 301, 3) := by decide +kernel
theorem dX11_readsItem_37 : decode cX11_readsItem 37 = .ok (.ifCond .eq 7, 3) := by decide +kernel
theorem dX11_readsItem_40 : decode cX11_readsItem 40 = .ok (.iconst 1, 1) := by decide +kernel
theorem dX11_readsItem_41 : decode cX11_readsItem 41 = .ok (.goto 4, 3) := by decide +kernel
theorem dX11_readsItem_44 : decode cX11_readsItem 44 = .ok (.iconst 0, 1) := by decide +kernel
theorem dX11_readsItem_45 : decode cX11_readsItem 45 = .ok (.istore_n 1, 1) := by decide +kernel
theorem dX11_readsItem_46 : decode cX11_readsItem 46 = .ok (.iload_n 1, 1) := by decide +kernel
theorem dX11_readsItem_47 : decode cX11_readsItem 47 = .ok (.ifCond .ne 8, 3) := by decide +kernel
theorem dX11_readsItem_50 : decode cX11_readsItem 50 = .ok (.aload_n 0, 1) := by decide +kernel
theorem dX11_readsItem_51 : decode cX11_readsItem 51 = .ok (.iconst 1, 1) := by decide +kernel
theorem dX11_readsItem_52 : decode cX11_readsItem 52 = .ok (.invokevirtual 295, 3) := by decide +kernel
theorem dX11_readsItem_55 : decode cX11_readsItem 55 = .ok (.aload_n 0, 1) := by decide +kernel
theorem dX11_readsItem_56 : decode cX11_readsItem 56 = .ok (.getfield 384, 3) := by decide +kernel
theorem dX11_readsItem_59 : decode cX11_readsItem 59 = .ok (.bipush 30, 2) := by decide +kernel
theorem dX11_readsItem_61 : decode cX11_readsItem 61 = .ok (.if_icmp .ne 8, 3) := by decide +kernel
theorem dX11_readsItem_64 : decode cX11_readsItem 64 = .ok (.aload_n 0, 1) := by decide +kernel
theorem dX11_readsItem_65 : decode cX11_readsItem 65 = .ok (.iconst 4, 1) := by decide +kernel
theorem dX11_readsItem_66 : decode cX11_readsItem 66 = .ok (.invokevirtual 295, 3) := by decide +kernel
theorem dX11_readsItem_69 : decode cX11_readsItem 69 = .ok (.aload_n 0, 1) := by decide +kernel
theorem dX11_readsItem_70 : decode cX11_readsItem 70 = .ok (.invokevirtual 277, 3) := by decide +kernel
theorem dX11_readsItem_73 : decode cX11_readsItem 73 = .ok (.ifCond .ne 4, 3) := by decide +kernel
theorem dX11_readsItem_76 : decode cX11_readsItem 76 = .ok (.return_, 1) := by decide +kernel
theorem dX11_readsItem_77 : decode cX11_readsItem 77 = .ok (.aload_n 0, 1) := by decide +kernel
theorem dX11_readsItem_78 : decode cX11_readsItem 78 = .ok (.dup, 1) := by decide +kernel
theorem dX11_readsItem_79 : decode cX11_readsItem 79 = .ok (.getfield 384, 3) := by decide +kernel
theorem dX11_readsItem_82 : decode cX11_readsItem 82 = .ok (.iconst 1, 1) := by decide +kernel
theorem dX11_readsItem_83 : decode cX11_readsItem 83 = .ok (.iadd, 1) := by decide +kernel
theorem dX11_readsItem_84 : decode cX11_readsItem 84 = .ok (.putfield 384, 3) := by decide +kernel
theorem dX11_readsItem_87 : decode cX11_readsItem 87 = .ok (.aload_n 0, 1) := by decide +kernel
theorem dX11_readsItem_88 : decode cX11_readsItem 88 = .ok (.ldc_w 314, 3) := by decide +kernel
theorem dX11_readsItem_91 : decode cX11_readsItem 91 = .ok (.invokevirtual 301, 3) := by decide +kernel
theorem dX11_readsItem_94 : decode cX11_readsItem 94 = .ok (.ifCond .eq 10, 3) := by decide +kernel
theorem dX11_readsItem_97 : decode cX11_readsItem 97 = .ok (.aload_n 0, 1) := by decide +kernel
theorem dX11_readsItem_98 : decode cX11_readsItem 98 = .ok (.invokevirtual 387, 3) := by decide +kernel
theorem dX11_readsItem_101 : decode cX11_readsItem 101 = .ok (.goto 49, 3) := by decide +kernel
theorem dX11_readsItem_104 : decode cX11_readsItem 104 = .ok (.aload_n 0, 1) := by decide +kernel
theorem dX11_readsItem_105 : decode cX11_readsItem 105 = .ok (.ldc_w 319, 3) := by decide +kernel
theorem dX11_readsItem_108 : decode cX11_readsItem 108 = .ok (.invokevirtual 301, 3) := by decide +kernel
theorem dX11_readsItem_111 : decode cX11_readsItem 111 = .ok (.ifCond .eq 10, 3) := by decide +kernel
theorem dX11_readsItem_114 : decode cX11_readsItem 114 = .ok (.aload_n 0, 1) := by decide +kernel
theorem dX11_readsItem_115 : decode cX11_readsItem 115 = .ok (.invokevirtual 390, 3) := by decide +kernel
theorem dX11_readsItem_118 : decode cX11_readsItem 118 = .ok (.goto 32, 3) := by decide +kernel
theorem dX11_readsItem_121 : decode cX11_readsItem 121 = .ok (.aload_n 0, 1) := by decide +kernel
theorem dX11_readsItem_122 : decode cX11_readsItem 122 = .ok (.ldc_w 380, 3) := by decide +kernel
theorem dX11_readsItem_125 : decode cX11_readsItem 125 = .ok (.invokevirtual 301, 3) := by decide +kernel
theorem dX11_readsItem_128 : decode cX11_readsItem 128 = .ok (.ifCond .eq 14, 3) := by decide +kernel
theorem dX11_readsItem_131 : decode cX11_readsItem 131 = .ok (.aload_n 0, 1) := by decide +kernel
theorem dX11_readsItem_132 : decode cX11_readsItem 132 = .ok (.iconst 2, 1) := by decide +kernel
theorem dX11_readsItem_133 : decode cX11_readsItem 133 = .ok (.iconst 1, 1) := by decide +kernel
theorem dX11_readsItem_134 : decode cX11_readsItem 134 = .ok (.bipush 9, 2) := by decide +kernel
theorem dX11_readsItem_136 : decode cX11_readsItem 136 = .ok (.invokevirtual 393, 3) := by decide +kernel
theorem dX11_readsItem_139 : decode cX11_readsItem 139 = .ok (.goto 11, 3) := by decide +kernel
theorem dX11_readsItem_142 : decode cX11_readsItem 142 = .ok (.aload_n 0, 1) := by decide +kernel
theorem dX11_readsItem_143 : decode cX11_readsItem 143 = .ok (.iconst 3, 1) := by decide +kernel
theorem dX11_readsItem_144 : decode cX11_readsItem 144 = .ok (.iconst 0, 1) := by decide +kernel
theorem dX11_readsItem_145 : decode cX11_readsItem 145 = .ok (.bipush 40, 2) := by decide +kernel
theorem dX11_readsItem_147 : decode cX11_readsItem 147 = .ok (.invokevirtual 393, 3) := by decide +kernel
theorem dX11_readsItem_150 : decode cX11_readsItem 150 = .ok (.return_, 1) := by decide +kernel
theorem dX11_readsReel_0 : decode cX11_readsReel 0 = .ok (.aload_n 0, 1) := by decide +kernel
theorem dX11_readsReel_1 : decode cX11_readsReel 1 = .ok (.iconst 0, 1) := by decide +kernel
theorem dX11_readsReel_2 : decode cX11_readsReel 2 = .ok (.putfield 362, 3) := by decide +kernel
theorem dX11_readsReel_5 : decode cX11_readsReel 5 = .ok (.aload_n 0, 1) := by decide +kernel
theorem dX11_readsReel_6 : decode cX11_readsReel 6 = .ok (.iconst 0, 1) := by decide +kernel
theorem dX11_readsReel_7 : decode cX11_readsReel 7 = .ok (.putfield 384, 3) := by decide +kernel
theorem dX11_readsReel_10 : decode cX11_readsReel 10 = .ok (.aload_n 0, 1) := by decide +kernel
theorem dX11_readsReel_11 : decode cX11_readsReel 11 = .ok (.iconst 0, 1) := by decide +kernel
theorem dX11_readsReel_12 : decode cX11_readsReel 12 = .ok (.putfield 377, 3) := by decide +kernel
theorem dX11_readsReel_15 : decode cX11_readsReel 15 = .ok (.aload_n 0, 1) := by decide +kernel
theorem dX11_readsReel_16 : decode cX11_readsReel 16 = .ok (.invokevirtual 350, 3) := by decide +kernel
theorem dX11_readsReel_19 : decode cX11_readsReel 19 = .ok (.aload_n 0, 1) := by decide +kernel
theorem dX11_readsReel_20 : decode cX11_readsReel 20 = .ok (.invokevirtual 277, 3) := by decide +kernel
theorem dX11_readsReel_23 : decode cX11_readsReel 23 = .ok (.ifCond .eq 71, 3) := by decide +kernel
theorem dX11_readsReel_26 : decode cX11_readsReel 26 = .ok (.aload_n 0, 1) := by decide +kernel
theorem dX11_readsReel_27 : decode cX11_readsReel 27 = .ok (.getfield 255, 3) := by decide +kernel
theorem dX11_readsReel_30 : decode cX11_readsReel 30 = .ok (.ifCond .ne 10, 3) := by decide +kernel
theorem dX11_readsReel_33 : decode cX11_readsReel 33 = .ok (.aload_n 0, 1) := by decide +kernel
theorem dX11_readsReel_34 : decode cX11_readsReel 34 = .ok (.getfield 377, 3) := by decide +kernel
theorem dX11_readsReel_37 : decode cX11_readsReel 37 = .ok (.ifCond .le 57, 3) := by decide +kernel
theorem dX11_readsReel_40 : decode cX11_readsReel 40 = .ok (.aload_n 0, 1) := by decide +kernel
theorem dX11_readsReel_41 : decode cX11_readsReel 41 = .ok (.getfield 377, 3) := by decide +kernel
theorem dX11_readsReel_44 : decode cX11_readsReel 44 = .ok (.ifCond .le 43, 3) := by decide +kernel
theorem dX11_readsReel_47 : decode cX11_readsReel 47 = .ok (.aload_n 0, 1) := by decide +kernel
theorem dX11_readsReel_48 : decode cX11_readsReel 48 = .ok (.bipush 125, 2) := by decide +kernel
theorem dX11_readsReel_50 : decode cX11_readsReel 50 = .ok (.invokevirtual 292, 3) := by decide +kernel
theorem dX11_readsReel_53 : decode cX11_readsReel 53 = .ok (.ifCond .eq 34, 3) := by decide +kernel
theorem dX11_readsReel_56 : decode cX11_readsReel 56 = .ok (.aload_n 0, 1) := by decide +kernel
theorem dX11_readsReel_57 : decode cX11_readsReel 57 = .ok (.iconst 4, 1) := by decide +kernel
theorem dX11_readsReel_58 : decode cX11_readsReel 58 = .ok (.iconst 0, 1) := by decide +kernel
theorem dX11_readsReel_59 : decode cX11_readsReel 59 = .ok (.iconst 0, 1) := by decide +kernel
theorem dX11_readsReel_60 : decode cX11_readsReel 60 = .ok (.iconst 0, 1) := by decide +kernel
theorem dX11_readsReel_61 : decode cX11_readsReel 61 = .ok (.invokevirtual 373, 3) := by decide +kernel
theorem dX11_readsReel_64 : decode cX11_readsReel 64 = .ok (.aload_n 0, 1) := by decide +kernel
theorem dX11_readsReel_65 : decode cX11_readsReel 65 = .ok (.dup, 1) := by decide +kernel
theorem dX11_readsReel_66 : decode cX11_readsReel 66 = .ok (.getfield 377, 3) := by decide +kernel
theorem dX11_readsReel_69 : decode cX11_readsReel 69 = .ok (.iconst 1, 1) := by decide +kernel
theorem dX11_readsReel_70 : decode cX11_readsReel 70 = .ok (.isub, 1) := by decide +kernel
theorem dX11_readsReel_71 : decode cX11_readsReel 71 = .ok (.putfield 377, 3) := by decide +kernel
theorem dX11_readsReel_74 : decode cX11_readsReel 74 = .ok (.aload_n 0, 1) := by decide +kernel
theorem dX11_readsReel_75 : decode cX11_readsReel 75 = .ok (.invokevirtual 281, 3) := by decide +kernel
theorem dX11_readsReel_78 : decode cX11_readsReel 78 = .ok (.aload_n 0, 1) := by decide +kernel
theorem dX11_readsReel_79 : decode cX11_readsReel 79 = .ok (.bipush 59, 2) := by decide +kernel
theorem dX11_readsReel_81 : decode cX11_readsReel 81 = .ok (.invokevirtual 343, 3) := by decide +kernel
theorem dX11_readsReel_84 : decode cX11_readsReel 84 = .ok (.goto (-65), 3) := by decide +kernel
theorem dX11_readsReel_87 : decode cX11_readsReel 87 = .ok (.aload_n 0, 1) := by decide +kernel
theorem dX11_readsReel_88 : decode cX11_readsReel 88 = .ok (.invokevirtual 396, 3) := by decide +kernel
theorem dX11_readsReel_91 : decode cX11_readsReel 91 = .ok (.goto (-72), 3) := by decide +kernel
theorem dX11_readsReel_94 : decode cX11_readsReel 94 = .ok (.aload_n 0, 1) := by decide +kernel
theorem dX11_readsReel_95 : decode cX11_readsReel 95 = .ok (.invokevirtual 356, 3) := by decide +kernel
theorem dX11_readsReel_98 : decode cX11_readsReel 98 = .ok (.return_, 1) := by decide +kernel
theorem dX11_takesReel_0 : decode cX11_takesReel 0 = .ok (.aload_n 0, 1) := by decide +kernel
theorem dX11_takesReel_1 : decode cX11_takesReel 1 = .ok (.getfield 7, 3) := by decide +kernel
theorem dX11_takesReel_4 : decode cX11_takesReel 4 = .ok (.bipush 8, 2) := by decide +kernel
theorem dX11_takesReel_6 : decode cX11_takesReel 6 = .ok (.aload_n 0, 1) := by decide +kernel
theorem dX11_takesReel_7 : decode cX11_takesReel 7 = .ok (.getfield 362, 3) := by decide +kernel
theorem dX11_takesReel_10 : decode cX11_takesReel 10 = .ok (.iastore, 1) := by decide +kernel
theorem dX11_takesReel_11 : decode cX11_takesReel 11 = .ok (.iconst 0, 1) := by decide +kernel
theorem dX11_takesReel_12 : decode cX11_takesReel 12 = .ok (.istore_n 1, 1) := by decide +kernel
theorem dX11_takesReel_13 : decode cX11_takesReel 13 = .ok (.iload_n 1, 1) := by decide +kernel
theorem dX11_takesReel_14 : decode cX11_takesReel 14 = .ok (.sipush 256, 3) := by decide +kernel
theorem dX11_takesReel_17 : decode cX11_takesReel 17 = .ok (.if_icmp .ge 38, 3) := by decide +kernel
theorem dX11_takesReel_20 : decode cX11_takesReel 20 = .ok (.aload_n 0, 1) := by decide +kernel
theorem dX11_takesReel_21 : decode cX11_takesReel 21 = .ok (.getfield 7, 3) := by decide +kernel
theorem dX11_takesReel_24 : decode cX11_takesReel 24 = .ok (.bipush 126, 2) := by decide +kernel
theorem dX11_takesReel_26 : decode cX11_takesReel 26 = .ok (.iload_n 1, 1) := by decide +kernel
theorem dX11_takesReel_27 : decode cX11_takesReel 27 = .ok (.iadd, 1) := by decide +kernel
theorem dX11_takesReel_28 : decode cX11_takesReel 28 = .ok (.iload_n 1, 1) := by decide +kernel
theorem dX11_takesReel_29 : decode cX11_takesReel 29 = .ok (.iconst 4, 1) := by decide +kernel
theorem dX11_takesReel_30 : decode cX11_takesReel 30 = .ok (.aload_n 0, 1) := by decide +kernel
theorem dX11_takesReel_31 : decode cX11_takesReel 31 = .ok (.getfield 362, 3) := by decide +kernel
theorem dX11_takesReel_34 : decode cX11_takesReel 34 = .ok (.imul, 1) := by decide +kernel
theorem dX11_takesReel_35 : decode cX11_takesReel 35 = .ok (.if_icmp .ge 12, 3) := by decide +kernel
theorem dX11_takesReel_38 : decode cX11_takesReel 38 = .ok (.aload_n 0, 1) := by decide +kernel
theorem dX11_takesReel_39 : decode cX11_takesReel 39 = .ok (.getfield 81, 3) := by decide +kernel
theorem dX11_takesReel_42 : decode cX11_takesReel 42 = .ok (.iload_n 1, 1) := by decide +kernel
theorem dX11_takesReel_43 : decode cX11_takesReel 43 = .ok (.iaload, 1) := by decide +kernel
theorem dX11_takesReel_44 : decode cX11_takesReel 44 = .ok (.goto 4, 3) := by decide +kernel
theorem dX11_takesReel_47 : decode cX11_takesReel 47 = .ok (.iconst 0, 1) := by decide +kernel
theorem dX11_takesReel_48 : decode cX11_takesReel 48 = .ok (.iastore, 1) := by decide +kernel
theorem dX11_takesReel_49 : decode cX11_takesReel 49 = .ok (.iinc 1 1, 3) := by decide +kernel
theorem dX11_takesReel_52 : decode cX11_takesReel 52 = .ok (.goto (-39), 3) := by decide +kernel
theorem dX11_takesReel_55 : decode cX11_takesReel 55 = .ok (.return_, 1) := by decide +kernel
theorem dX11_readsWord_0 : decode cX11_readsWord 0 = .ok (.aload_n 0, 1) := by decide +kernel
theorem dX11_readsWord_1 : decode cX11_readsWord 1 = .ok (.getfield 249, 3) := by decide +kernel
theorem dX11_readsWord_4 : decode cX11_readsWord 4 = .ok (.aload_n 0, 1) := by decide +kernel
theorem dX11_readsWord_5 : decode cX11_readsWord 5 = .ok (.getfield 252, 3) := by decide +kernel
theorem dX11_readsWord_8 : decode cX11_readsWord 8 = .ok (.isub, 1) := by decide +kernel
theorem dX11_readsWord_9 : decode cX11_readsWord 9 = .ok (.bipush 20, 2) := by decide +kernel
theorem dX11_readsWord_11 : decode cX11_readsWord 11 = .ok (.if_icmp .le 8, 3) := by decide +kernel
theorem dX11_readsWord_14 : decode cX11_readsWord 14 = .ok (.aload_n 0, 1) := by decide +kernel
theorem dX11_readsWord_15 : decode cX11_readsWord 15 = .ok (.iconst 2, 1) := by decide +kernel
theorem dX11_readsWord_16 : decode cX11_readsWord 16 = .ok (.invokevirtual 295, 3) := by decide +kernel
theorem dX11_readsWord_19 : decode cX11_readsWord 19 = .ok (.aload_n 0, 1) := by decide +kernel
theorem dX11_readsWord_20 : decode cX11_readsWord 20 = .ok (.getfield 399, 3) := by decide +kernel
theorem dX11_readsWord_23 : decode cX11_readsWord 23 = .ok (.bipush 60, 2) := by decide +kernel
theorem dX11_readsWord_25 : decode cX11_readsWord 25 = .ok (.if_icmp .ne 8, 3) := by decide +kernel
theorem dX11_readsWord_28 : decode cX11_readsWord 28 = .ok (.aload_n 0, 1) := by decide +kernel
theorem dX11_readsWord_29 : decode cX11_readsWord 29 = .ok (.iconst 4, 1) := by decide +kernel
theorem dX11_readsWord_30 : decode cX11_readsWord 30 = .ok (.invokevirtual 295, 3) := by decide +kernel
theorem dX11_readsWord_33 : decode cX11_readsWord 33 = .ok (.aload_n 0, 1) := by decide +kernel
theorem dX11_readsWord_34 : decode cX11_readsWord 34 = .ok (.invokevirtual 277, 3) := by decide +kernel
theorem dX11_readsWord_37 : decode cX11_readsWord 37 = .ok (.ifCond .ne 4, 3) := by decide +kernel
theorem dX11_readsWord_40 : decode cX11_readsWord 40 = .ok (.return_, 1) := by decide +kernel
theorem dX11_readsWord_41 : decode cX11_readsWord 41 = .ok (.aload_n 0, 1) := by decide +kernel
theorem dX11_readsWord_42 : decode cX11_readsWord 42 = .ok (.getfield 87, 3) := by decide +kernel
theorem dX11_readsWord_45 : decode cX11_readsWord 45 = .ok (.aload_n 0, 1) := by decide +kernel
theorem dX11_readsWord_46 : decode cX11_readsWord 46 = .ok (.getfield 399, 3) := by decide +kernel
theorem dX11_readsWord_49 : decode cX11_readsWord 49 = .ok (.aload_n 0, 1) := by decide +kernel
theorem dX11_readsWord_50 : decode cX11_readsWord 50 = .ok (.getfield 402, 3) := by decide +kernel
theorem dX11_readsWord_53 : decode cX11_readsWord 53 = .ok (.iastore, 1) := by decide +kernel
theorem dX11_readsWord_54 : decode cX11_readsWord 54 = .ok (.aload_n 0, 1) := by decide +kernel
theorem dX11_readsWord_55 : decode cX11_readsWord 55 = .ok (.getfield 90, 3) := by decide +kernel
theorem dX11_readsWord_58 : decode cX11_readsWord 58 = .ok (.aload_n 0, 1) := by decide +kernel
theorem dX11_readsWord_59 : decode cX11_readsWord 59 = .ok (.getfield 399, 3) := by decide +kernel
theorem dX11_readsWord_62 : decode cX11_readsWord 62 = .ok (.aload_n 0, 1) := by decide +kernel
theorem dX11_readsWord_63 : decode cX11_readsWord 63 = .ok (.getfield 249, 3) := by decide +kernel
theorem dX11_readsWord_66 : decode cX11_readsWord 66 = .ok (.aload_n 0, 1) := by decide +kernel
theorem dX11_readsWord_67 : decode cX11_readsWord 67 = .ok (.getfield 252, 3) := by decide +kernel
theorem dX11_readsWord_70 : decode cX11_readsWord 70 = .ok (.isub, 1) := by decide +kernel
theorem dX11_readsWord_71 : decode cX11_readsWord 71 = .ok (.iastore, 1) := by decide +kernel
theorem dX11_readsWord_72 : decode cX11_readsWord 72 = .ok (.aload_n 0, 1) := by decide +kernel
theorem dX11_readsWord_73 : decode cX11_readsWord 73 = .ok (.getfield 93, 3) := by decide +kernel
theorem dX11_readsWord_76 : decode cX11_readsWord 76 = .ok (.aload_n 0, 1) := by decide +kernel
theorem dX11_readsWord_77 : decode cX11_readsWord 77 = .ok (.getfield 399, 3) := by decide +kernel
theorem dX11_readsWord_80 : decode cX11_readsWord 80 = .ok (.iconst 0, 1) := by decide +kernel
theorem dX11_readsWord_81 : decode cX11_readsWord 81 = .ok (.iastore, 1) := by decide +kernel
theorem dX11_readsWord_82 : decode cX11_readsWord 82 = .ok (.aload_n 0, 1) := by decide +kernel
theorem dX11_readsWord_83 : decode cX11_readsWord 83 = .ok (.getfield 252, 3) := by decide +kernel
theorem dX11_readsWord_86 : decode cX11_readsWord 86 = .ok (.istore_n 1, 1) := by decide +kernel
theorem dX11_readsWord_87 : decode cX11_readsWord 87 = .ok (.iload_n 1, 1) := by decide +kernel
theorem dX11_readsWord_88 : decode cX11_readsWord 88 = .ok (.aload_n 0, 1) := by decide +kernel
theorem dX11_readsWord_89 : decode cX11_readsWord 89 = .ok (.getfield 249, 3) := by decide +kernel
theorem dX11_readsWord_92 : decode cX11_readsWord 92 = .ok (.if_icmp .ge 34, 3) := by decide +kernel
theorem dX11_readsWord_95 : decode cX11_readsWord 95 = .ok (.aload_n 0, 1) := by decide +kernel
theorem dX11_readsWord_96 : decode cX11_readsWord 96 = .ok (.getfield 84, 3) := by decide +kernel
theorem dX11_readsWord_99 : decode cX11_readsWord 99 = .ok (.aload_n 0, 1) := by decide +kernel
theorem dX11_readsWord_100 : decode cX11_readsWord 100 = .ok (.getfield 402, 3) := by decide +kernel
theorem dX11_readsWord_103 : decode cX11_readsWord 103 = .ok (.aload_n 0, 1) := by decide +kernel
theorem dX11_readsWord_104 : decode cX11_readsWord 104 = .ok (.getfield 74, 3) := by decide +kernel
theorem dX11_readsWord_107 : decode cX11_readsWord 107 = .ok (.iload_n 1, 1) := by decide +kernel
theorem dX11_readsWord_108 : decode cX11_readsWord 108 = .ok (.iaload, 1) := by decide +kernel
theorem dX11_readsWord_109 : decode cX11_readsWord 109 = .ok (.iastore, 1) := by decide +kernel
theorem dX11_readsWord_110 : decode cX11_readsWord 110 = .ok (.aload_n 0, 1) := by decide +kernel
theorem dX11_readsWord_111 : decode cX11_readsWord 111 = .ok (.dup, 1) := by decide +kernel
theorem dX11_readsWord_112 : decode cX11_readsWord 112 = .ok (.getfield 402, 3) := by decide +kernel
theorem dX11_readsWord_115 : decode cX11_readsWord 115 = .ok (.iconst 1, 1) := by decide +kernel
theorem dX11_readsWord_116 : decode cX11_readsWord 116 = .ok (.iadd, 1) := by decide +kernel
theorem dX11_readsWord_117 : decode cX11_readsWord 117 = .ok (.putfield 402, 3) := by decide +kernel
theorem dX11_readsWord_120 : decode cX11_readsWord 120 = .ok (.iinc 1 1, 3) := by decide +kernel
theorem dX11_readsWord_123 : decode cX11_readsWord 123 = .ok (.goto (-36), 3) := by decide +kernel
theorem dX11_readsWord_126 : decode cX11_readsWord 126 = .ok (.aload_n 0, 1) := by decide +kernel
theorem dX11_readsWord_127 : decode cX11_readsWord 127 = .ok (.dup, 1) := by decide +kernel
theorem dX11_readsWord_128 : decode cX11_readsWord 128 = .ok (.getfield 399, 3) := by decide +kernel
theorem dX11_readsWord_131 : decode cX11_readsWord 131 = .ok (.iconst 1, 1) := by decide +kernel
theorem dX11_readsWord_132 : decode cX11_readsWord 132 = .ok (.iadd, 1) := by decide +kernel
theorem dX11_readsWord_133 : decode cX11_readsWord 133 = .ok (.putfield 399, 3) := by decide +kernel
theorem dX11_readsWord_136 : decode cX11_readsWord 136 = .ok (.aload_n 0, 1) := by decide +kernel
theorem dX11_readsWord_137 : decode cX11_readsWord 137 = .ok (.invokevirtual 281, 3) := by decide +kernel
theorem dX11_readsWord_140 : decode cX11_readsWord 140 = .ok (.return_, 1) := by decide +kernel
theorem dX11_readsSentence_0 : decode cX11_readsSentence 0 = .ok (.aload_n 0, 1) := by decide +kernel
theorem dX11_readsSentence_1 : decode cX11_readsSentence 1 = .ok (.getfield 255, 3) := by decide +kernel
theorem dX11_readsSentence_4 : decode cX11_readsSentence 4 = .ok (.iconst 1, 1) := by decide +kernel
theorem dX11_readsSentence_5 : decode cX11_readsSentence 5 = .ok (.if_icmp .eq 8, 3) := by decide +kernel
theorem dX11_readsSentence_8 : decode cX11_readsSentence 8 = .ok (.aload_n 0, 1) := by decide +kernel
theorem dX11_readsSentence_9 : decode cX11_readsSentence 9 = .ok (.iconst 1, 1) := by decide +kernel
theorem dX11_readsSentence_10 : decode cX11_readsSentence 10 = .ok (.invokevirtual 295, 3) := by decide +kernel
theorem dX11_readsSentence_13 : decode cX11_readsSentence 13 = .ok (.aload_n 0, 1) := by decide +kernel
theorem dX11_readsSentence_14 : decode cX11_readsSentence 14 = .ok (.invokevirtual 277, 3) := by decide +kernel
theorem dX11_readsSentence_17 : decode cX11_readsSentence 17 = .ok (.ifCond .eq 18, 3) := by decide +kernel
theorem dX11_readsSentence_20 : decode cX11_readsSentence 20 = .ok (.aload_n 0, 1) := by decide +kernel
theorem dX11_readsSentence_21 : decode cX11_readsSentence 21 = .ok (.getfield 255, 3) := by decide +kernel
theorem dX11_readsSentence_24 : decode cX11_readsSentence 24 = .ok (.iconst 1, 1) := by decide +kernel
theorem dX11_readsSentence_25 : decode cX11_readsSentence 25 = .ok (.if_icmp .ne 10, 3) := by decide +kernel
theorem dX11_readsSentence_28 : decode cX11_readsSentence 28 = .ok (.aload_n 0, 1) := by decide +kernel
theorem dX11_readsSentence_29 : decode cX11_readsSentence 29 = .ok (.invokevirtual 405, 3) := by decide +kernel
theorem dX11_readsSentence_32 : decode cX11_readsSentence 32 = .ok (.goto (-19), 3) := by decide +kernel
theorem dX11_readsSentence_35 : decode cX11_readsSentence 35 = .ok (.aload_n 0, 1) := by decide +kernel
theorem dX11_readsSentence_36 : decode cX11_readsSentence 36 = .ok (.bipush 46, 2) := by decide +kernel
theorem dX11_readsSentence_38 : decode cX11_readsSentence 38 = .ok (.invokevirtual 292, 3) := by decide +kernel
theorem dX11_readsSentence_41 : decode cX11_readsSentence 41 = .ok (.ifCond .eq 15, 3) := by decide +kernel
theorem dX11_readsSentence_44 : decode cX11_readsSentence 44 = .ok (.aload_n 0, 1) := by decide +kernel
theorem dX11_readsSentence_45 : decode cX11_readsSentence 45 = .ok (.getfield 93, 3) := by decide +kernel
theorem dX11_readsSentence_48 : decode cX11_readsSentence 48 = .ok (.aload_n 0, 1) := by decide +kernel
theorem dX11_readsSentence_49 : decode cX11_readsSentence 49 = .ok (.getfield 399, 3) := by decide +kernel
theorem dX11_readsSentence_52 : decode cX11_readsSentence 52 = .ok (.iconst 1, 1) := by decide +kernel
theorem dX11_readsSentence_53 : decode cX11_readsSentence 53 = .ok (.isub, 1) := by decide +kernel
theorem dX11_readsSentence_54 : decode cX11_readsSentence 54 = .ok (.iconst 1, 1) := by decide +kernel
theorem dX11_readsSentence_55 : decode cX11_readsSentence 55 = .ok (.iastore, 1) := by decide +kernel
theorem dX11_readsSentence_56 : decode cX11_readsSentence 56 = .ok (.aload_n 0, 1) := by decide +kernel
theorem dX11_readsSentence_57 : decode cX11_readsSentence 57 = .ok (.bipush 46, 2) := by decide +kernel
theorem dX11_readsSentence_59 : decode cX11_readsSentence 59 = .ok (.invokevirtual 343, 3) := by decide +kernel
theorem dX11_readsSentence_62 : decode cX11_readsSentence 62 = .ok (.return_, 1) := by decide +kernel
theorem dX11_readsVoice_0 : decode cX11_readsVoice 0 = .ok (.aload_n 0, 1) := by decide +kernel
theorem dX11_readsVoice_1 : decode cX11_readsVoice 1 = .ok (.iconst 0, 1) := by decide +kernel
theorem dX11_readsVoice_2 : decode cX11_readsVoice 2 = .ok (.putfield 402, 3) := by decide +kernel
theorem dX11_readsVoice_5 : decode cX11_readsVoice 5 = .ok (.aload_n 0, 1) := by decide +kernel
theorem dX11_readsVoice_6 : decode cX11_readsVoice 6 = .ok (.iconst 0, 1) := by decide +kernel
theorem dX11_readsVoice_7 : decode cX11_readsVoice 7 = .ok (.putfield 399, 3) := by decide +kernel
theorem dX11_readsVoice_10 : decode cX11_readsVoice 10 = .ok (.aload_n 0, 1) := by decide +kernel
theorem dX11_readsVoice_11 : decode cX11_readsVoice 11 = .ok (.invokevirtual 350, 3) := by decide +kernel
theorem dX11_readsVoice_14 : decode cX11_readsVoice 14 = .ok (.aload_n 0, 1) := by decide +kernel
theorem dX11_readsVoice_15 : decode cX11_readsVoice 15 = .ok (.invokevirtual 277, 3) := by decide +kernel
theorem dX11_readsVoice_18 : decode cX11_readsVoice 18 = .ok (.ifCond .eq 17, 3) := by decide +kernel
theorem dX11_readsVoice_21 : decode cX11_readsVoice 21 = .ok (.aload_n 0, 1) := by decide +kernel
theorem dX11_readsVoice_22 : decode cX11_readsVoice 22 = .ok (.getfield 255, 3) := by decide +kernel
theorem dX11_readsVoice_25 : decode cX11_readsVoice 25 = .ok (.ifCond .eq 10, 3) := by decide +kernel
theorem dX11_readsVoice_28 : decode cX11_readsVoice 28 = .ok (.aload_n 0, 1) := by decide +kernel
theorem dX11_readsVoice_29 : decode cX11_readsVoice 29 = .ok (.invokevirtual 408, 3) := by decide +kernel
theorem dX11_readsVoice_32 : decode cX11_readsVoice 32 = .ok (.goto (-18), 3) := by decide +kernel
theorem dX11_readsVoice_35 : decode cX11_readsVoice 35 = .ok (.aload_n 0, 1) := by decide +kernel
theorem dX11_readsVoice_36 : decode cX11_readsVoice 36 = .ok (.invokevirtual 356, 3) := by decide +kernel
theorem dX11_readsVoice_39 : decode cX11_readsVoice 39 = .ok (.return_, 1) := by decide +kernel
theorem dX11_takesVoice_0 : decode cX11_takesVoice 0 = .ok (.aload_n 0, 1) := by decide +kernel
theorem dX11_takesVoice_1 : decode cX11_takesVoice 1 = .ok (.getfield 7, 3) := by decide +kernel
theorem dX11_takesVoice_4 : decode cX11_takesVoice 4 = .ok (.bipush 9, 2) := by decide +kernel
theorem dX11_takesVoice_6 : decode cX11_takesVoice 6 = .ok (.aload_n 0, 1) := by decide +kernel
theorem dX11_takesVoice_7 : decode cX11_takesVoice 7 = .ok (.getfield 399, 3) := by decide +kernel
theorem dX11_takesVoice_10 : decode cX11_takesVoice 10 = .ok (.iastore, 1) := by decide +kernel
theorem dX11_takesVoice_11 : decode cX11_takesVoice 11 = .ok (.aload_n 0, 1) := by decide +kernel
theorem dX11_takesVoice_12 : decode cX11_takesVoice 12 = .ok (.getfield 7, 3) := by decide +kernel
theorem dX11_takesVoice_15 : decode cX11_takesVoice 15 = .ok (.bipush 10, 2) := by decide +kernel
theorem dX11_takesVoice_17 : decode cX11_takesVoice 17 = .ok (.aload_n 0, 1) := by decide +kernel
theorem dX11_takesVoice_18 : decode cX11_takesVoice 18 = .ok (.getfield 402, 3) := by decide +kernel
theorem dX11_takesVoice_21 : decode cX11_takesVoice 21 = .ok (.iastore, 1) := by decide +kernel
theorem dX11_takesVoice_22 : decode cX11_takesVoice 22 = .ok (.iconst 0, 1) := by decide +kernel
theorem dX11_takesVoice_23 : decode cX11_takesVoice 23 = .ok (.istore_n 1, 1) := by decide +kernel
theorem dX11_takesVoice_24 : decode cX11_takesVoice 24 = .ok (.iload_n 1, 1) := by decide +kernel
theorem dX11_takesVoice_25 : decode cX11_takesVoice 25 = .ok (.bipush 60, 2) := by decide +kernel
theorem dX11_takesVoice_27 : decode cX11_takesVoice 27 = .ok (.if_icmp .ge 105, 3) := by decide +kernel
theorem dX11_takesVoice_30 : decode cX11_takesVoice 30 = .ok (.iload_n 1, 1) := by decide +kernel
theorem dX11_takesVoice_31 : decode cX11_takesVoice 31 = .ok (.aload_n 0, 1) := by decide +kernel
theorem dX11_takesVoice_32 : decode cX11_takesVoice 32 = .ok (.getfield 399, 3) := by decide +kernel
theorem dX11_takesVoice_35 : decode cX11_takesVoice 35 = .ok (.if_icmp .ge 7, 3) := by decide +kernel
theorem dX11_takesVoice_38 : decode cX11_takesVoice 38 = .ok (.iconst 1, 1) := by decide +kernel
theorem dX11_takesVoice_39 : decode cX11_takesVoice 39 = .ok (.goto 4, 3) := by decide +kernel
theorem dX11_takesVoice_42 : decode cX11_takesVoice 42 = .ok (.iconst 0, 1) := by decide +kernel
theorem dX11_takesVoice_43 : decode cX11_takesVoice 43 = .ok (.istore_n 2, 1) := by decide +kernel
theorem dX11_takesVoice_44 : decode cX11_takesVoice 44 = .ok (.aload_n 0, 1) := by decide +kernel
theorem dX11_takesVoice_45 : decode cX11_takesVoice 45 = .ok (.getfield 7, 3) := by decide +kernel
theorem dX11_takesVoice_48 : decode cX11_takesVoice 48 = .ok (.sipush 382, 3) := by decide +kernel
theorem dX11_takesVoice_51 : decode cX11_takesVoice 51 = .ok (.iconst 3, 1) := by decide +kernel
theorem dX11_takesVoice_52 : decode cX11_takesVoice 52 = .ok (.iload_n 1, 1) := by decide +kernel
theorem dX11_takesVoice_53 : decode cX11_takesVoice 53 = .ok (.imul, 1) := by decide +kernel
theorem dX11_takesVoice_54 : decode cX11_takesVoice 54 = .ok (.iadd, 1) := by decide +kernel
theorem dX11_takesVoice_55 : decode cX11_takesVoice 55 = .ok (.iload_n 2, 1) := by decide +kernel
theorem dX11_takesVoice_56 : decode cX11_takesVoice 56 = .ok (.ifCond .eq 12, 3) := by decide +kernel
theorem dX11_takesVoice_59 : decode cX11_takesVoice 59 = .ok (.aload_n 0, 1) := by decide +kernel
theorem dX11_takesVoice_60 : decode cX11_takesVoice 60 = .ok (.getfield 87, 3) := by decide +kernel
theorem dX11_takesVoice_63 : decode cX11_takesVoice 63 = .ok (.iload_n 1, 1) := by decide +kernel
theorem dX11_takesVoice_64 : decode cX11_takesVoice 64 = .ok (.iaload, 1) := by decide +kernel
theorem dX11_takesVoice_65 : decode cX11_takesVoice 65 = .ok (.goto 4, 3) := by decide +kernel
theorem dX11_takesVoice_68 : decode cX11_takesVoice 68 = .ok (.iconst 0, 1) := by decide +kernel
theorem dX11_takesVoice_69 : decode cX11_takesVoice 69 = .ok (.iastore, 1) := by decide +kernel
theorem dX11_takesVoice_70 : decode cX11_takesVoice 70 = .ok (.aload_n 0, 1) := by decide +kernel
theorem dX11_takesVoice_71 : decode cX11_takesVoice 71 = .ok (.getfield 7, 3) := by decide +kernel
theorem dX11_takesVoice_74 : decode cX11_takesVoice 74 = .ok (.sipush 382, 3) := by decide +kernel
theorem dX11_takesVoice_77 : decode cX11_takesVoice 77 = .ok (.iconst 3, 1) := by decide +kernel
theorem dX11_takesVoice_78 : decode cX11_takesVoice 78 = .ok (.iload_n 1, 1) := by decide +kernel
theorem dX11_takesVoice_79 : decode cX11_takesVoice 79 = .ok (.imul, 1) := by decide +kernel
theorem dX11_takesVoice_80 : decode cX11_takesVoice 80 = .ok (.iadd, 1) := by decide +kernel
theorem dX11_takesVoice_81 : decode cX11_takesVoice 81 = .ok (.iconst 1, 1) := by decide +kernel
theorem dX11_takesVoice_82 : decode cX11_takesVoice 82 = .ok (.iadd, 1) := by decide +kernel
theorem dX11_takesVoice_83 : decode cX11_takesVoice 83 = .ok (.iload_n 2, 1) := by decide +kernel
theorem dX11_takesVoice_84 : decode cX11_takesVoice 84 = .ok (.ifCond .eq 12, 3) := by decide +kernel
theorem dX11_takesVoice_87 : decode cX11_takesVoice 87 = .ok (.aload_n 0, 1) := by decide +kernel
theorem dX11_takesVoice_88 : decode cX11_takesVoice 88 = .ok (.getfield 90, 3) := by decide +kernel
theorem dX11_takesVoice_91 : decode cX11_takesVoice 91 = .ok (.iload_n 1, 1) := by decide +kernel
theorem dX11_takesVoice_92 : decode cX11_takesVoice 92 = .ok (.iaload, 1) := by decide +kernel
theorem dX11_takesVoice_93 : decode cX11_takesVoice 93 = .ok (.goto 4, 3) := by decide +kernel
theorem dX11_takesVoice_96 : decode cX11_takesVoice 96 = .ok (.iconst 0, 1) := by decide +kernel
theorem dX11_takesVoice_97 : decode cX11_takesVoice 97 = .ok (.iastore, 1) := by decide +kernel
theorem dX11_takesVoice_98 : decode cX11_takesVoice 98 = .ok (.aload_n 0, 1) := by decide +kernel
theorem dX11_takesVoice_99 : decode cX11_takesVoice 99 = .ok (.getfield 7, 3) := by decide +kernel
theorem dX11_takesVoice_102 : decode cX11_takesVoice 102 = .ok (.sipush 382, 3) := by decide +kernel
theorem dX11_takesVoice_105 : decode cX11_takesVoice 105 = .ok (.iconst 3, 1) := by decide +kernel
theorem dX11_takesVoice_106 : decode cX11_takesVoice 106 = .ok (.iload_n 1, 1) := by decide +kernel
theorem dX11_takesVoice_107 : decode cX11_takesVoice 107 = .ok (.imul, 1) := by decide +kernel
theorem dX11_takesVoice_108 : decode cX11_takesVoice 108 = .ok (.iadd, 1) := by decide +kernel
theorem dX11_takesVoice_109 : decode cX11_takesVoice 109 = .ok (.iconst 2, 1) := by decide +kernel
theorem dX11_takesVoice_110 : decode cX11_takesVoice 110 = .ok (.iadd, 1) := by decide +kernel
theorem dX11_takesVoice_111 : decode cX11_takesVoice 111 = .ok (.iload_n 2, 1) := by decide +kernel
theorem dX11_takesVoice_112 : decode cX11_takesVoice 112 = .ok (.ifCond .eq 12, 3) := by decide +kernel
theorem dX11_takesVoice_115 : decode cX11_takesVoice 115 = .ok (.aload_n 0, 1) := by decide +kernel
theorem dX11_takesVoice_116 : decode cX11_takesVoice 116 = .ok (.getfield 93, 3) := by decide +kernel
theorem dX11_takesVoice_119 : decode cX11_takesVoice 119 = .ok (.iload_n 1, 1) := by decide +kernel
theorem dX11_takesVoice_120 : decode cX11_takesVoice 120 = .ok (.iaload, 1) := by decide +kernel
theorem dX11_takesVoice_121 : decode cX11_takesVoice 121 = .ok (.goto 4, 3) := by decide +kernel
theorem dX11_takesVoice_124 : decode cX11_takesVoice 124 = .ok (.iconst 0, 1) := by decide +kernel
theorem dX11_takesVoice_125 : decode cX11_takesVoice 125 = .ok (.iastore, 1) := by decide +kernel
theorem dX11_takesVoice_126 : decode cX11_takesVoice 126 = .ok (.iinc 1 1, 3) := by decide +kernel
theorem dX11_takesVoice_129 : decode cX11_takesVoice 129 = .ok (.goto (-105), 3) := by decide +kernel
theorem dX11_takesVoice_132 : decode cX11_takesVoice 132 = .ok (.iconst 0, 1) := by decide +kernel
theorem dX11_takesVoice_133 : decode cX11_takesVoice 133 = .ok (.istore_n 1, 1) := by decide +kernel
theorem dX11_takesVoice_134 : decode cX11_takesVoice 134 = .ok (.iload_n 1, 1) := by decide +kernel
theorem dX11_takesVoice_135 : decode cX11_takesVoice 135 = .ok (.sipush 500, 3) := by decide +kernel
theorem dX11_takesVoice_138 : decode cX11_takesVoice 138 = .ok (.if_icmp .ge 37, 3) := by decide +kernel
theorem dX11_takesVoice_141 : decode cX11_takesVoice 141 = .ok (.aload_n 0, 1) := by decide +kernel
theorem dX11_takesVoice_142 : decode cX11_takesVoice 142 = .ok (.getfield 7, 3) := by decide +kernel
theorem dX11_takesVoice_145 : decode cX11_takesVoice 145 = .ok (.sipush 562, 3) := by decide +kernel
theorem dX11_takesVoice_148 : decode cX11_takesVoice 148 = .ok (.iload_n 1, 1) := by decide +kernel
theorem dX11_takesVoice_149 : decode cX11_takesVoice 149 = .ok (.iadd, 1) := by decide +kernel
theorem dX11_takesVoice_150 : decode cX11_takesVoice 150 = .ok (.iload_n 1, 1) := by decide +kernel
theorem dX11_takesVoice_151 : decode cX11_takesVoice 151 = .ok (.aload_n 0, 1) := by decide +kernel
theorem dX11_takesVoice_152 : decode cX11_takesVoice 152 = .ok (.getfield 402, 3) := by decide +kernel
theorem dX11_takesVoice_155 : decode cX11_takesVoice 155 = .ok (.if_icmp .ge 12, 3) := by decide +kernel
theorem dX11_takesVoice_158 : decode cX11_takesVoice 158 = .ok (.aload_n 0, 1) := by decide +kernel
theorem dX11_takesVoice_159 : decode cX11_takesVoice 159 = .ok (.getfield 84, 3) := by decide +kernel
theorem dX11_takesVoice_162 : decode cX11_takesVoice 162 = .ok (.iload_n 1, 1) := by decide +kernel
theorem dX11_takesVoice_163 : decode cX11_takesVoice 163 = .ok (.iaload, 1) := by decide +kernel
theorem dX11_takesVoice_164 : decode cX11_takesVoice 164 = .ok (.goto 4, 3) := by decide +kernel
theorem dX11_takesVoice_167 : decode cX11_takesVoice 167 = .ok (.iconst 0, 1) := by decide +kernel
theorem dX11_takesVoice_168 : decode cX11_takesVoice 168 = .ok (.iastore, 1) := by decide +kernel
theorem dX11_takesVoice_169 : decode cX11_takesVoice 169 = .ok (.iinc 1 1, 3) := by decide +kernel
theorem dX11_takesVoice_172 : decode cX11_takesVoice 172 = .ok (.goto (-38), 3) := by decide +kernel
theorem dX11_takesVoice_175 : decode cX11_takesVoice 175 = .ok (.return_, 1) := by decide +kernel
theorem dX11_behind_0 : decode cX11_behind 0 = .ok (.iconst 0, 1) := by decide +kernel
theorem dX11_behind_1 : decode cX11_behind 1 = .ok (.istore_n 2, 1) := by decide +kernel
theorem dX11_behind_2 : decode cX11_behind 2 = .ok (.iload_n 1, 1) := by decide +kernel
theorem dX11_behind_3 : decode cX11_behind 3 = .ok (.istore_n 3, 1) := by decide +kernel
theorem dX11_behind_4 : decode cX11_behind 4 = .ok (.aload_n 0, 1) := by decide +kernel
theorem dX11_behind_5 : decode cX11_behind 5 = .ok (.iload_n 3, 1) := by decide +kernel
theorem dX11_behind_6 : decode cX11_behind 6 = .ok (.iconst 0, 1) := by decide +kernel
theorem dX11_behind_7 : decode cX11_behind 7 = .ok (.invokevirtual 129, 3) := by decide +kernel
theorem dX11_behind_10 : decode cX11_behind 10 = .ok (.istore 4, 2) := by decide +kernel
theorem dX11_behind_12 : decode cX11_behind 12 = .ok (.iload_n 2, 1) := by decide +kernel
theorem dX11_behind_13 : decode cX11_behind 13 = .ok (.iload 4, 2) := by decide +kernel
theorem dX11_behind_15 : decode cX11_behind 15 = .ok (.iconst 2, 1) := by decide +kernel
theorem dX11_behind_16 : decode cX11_behind 16 = .ok (.if_icmp .eq 9, 3) := by decide +kernel
theorem dX11_behind_19 : decode cX11_behind 19 = .ok (.iload 4, 2) := by decide +kernel
theorem dX11_behind_21 : decode cX11_behind 21 = .ok (.iconst 3, 1) := by decide +kernel
theorem dX11_behind_22 : decode cX11_behind 22 = .ok (.if_icmp .ne 7, 3) := by decide +kernel
theorem dX11_behind_25 : decode cX11_behind 25 = .ok (.iconst 1, 1) := by decide +kernel
theorem dX11_behind_26 : decode cX11_behind 26 = .ok (.goto 4, 3) := by decide +kernel
theorem dX11_behind_29 : decode cX11_behind 29 = .ok (.iconst 0, 1) := by decide +kernel
theorem dX11_behind_30 : decode cX11_behind 30 = .ok (.invokestatic 133, 3) := by decide +kernel
theorem dX11_behind_33 : decode cX11_behind 33 = .ok (.iload 4, 2) := by decide +kernel
theorem dX11_behind_35 : decode cX11_behind 35 = .ok (.iconst 4, 1) := by decide +kernel
theorem dX11_behind_36 : decode cX11_behind 36 = .ok (.if_icmp .ne 7, 3) := by decide +kernel
theorem dX11_behind_39 : decode cX11_behind 39 = .ok (.iconst 1, 1) := by decide +kernel
theorem dX11_behind_40 : decode cX11_behind 40 = .ok (.goto 4, 3) := by decide +kernel
theorem dX11_behind_43 : decode cX11_behind 43 = .ok (.iconst 0, 1) := by decide +kernel
theorem dX11_behind_44 : decode cX11_behind 44 = .ok (.invokestatic 133, 3) := by decide +kernel
theorem dX11_behind_47 : decode cX11_behind 47 = .ok (.isub, 1) := by decide +kernel
theorem dX11_behind_48 : decode cX11_behind 48 = .ok (.iadd, 1) := by decide +kernel
theorem dX11_behind_49 : decode cX11_behind 49 = .ok (.istore_n 2, 1) := by decide +kernel
theorem dX11_behind_50 : decode cX11_behind 50 = .ok (.iinc 3 1, 3) := by decide +kernel
theorem dX11_behind_53 : decode cX11_behind 53 = .ok (.iload_n 2, 1) := by decide +kernel
theorem dX11_behind_54 : decode cX11_behind 54 = .ok (.ifCond .gt (-50), 3) := by decide +kernel
theorem dX11_behind_57 : decode cX11_behind 57 = .ok (.iload_n 3, 1) := by decide +kernel
theorem dX11_behind_58 : decode cX11_behind 58 = .ok (.ireturn, 1) := by decide +kernel
theorem dX11_itemMany_0 : decode cX11_itemMany 0 = .ok (.iconst 0, 1) := by decide +kernel
theorem dX11_itemMany_1 : decode cX11_itemMany 1 = .ok (.istore_n 1, 1) := by decide +kernel
theorem dX11_itemMany_2 : decode cX11_itemMany 2 = .ok (.iconst 0, 1) := by decide +kernel
theorem dX11_itemMany_3 : decode cX11_itemMany 3 = .ok (.istore_n 2, 1) := by decide +kernel
theorem dX11_itemMany_4 : decode cX11_itemMany 4 = .ok (.iload_n 2, 1) := by decide +kernel
theorem dX11_itemMany_5 : decode cX11_itemMany 5 = .ok (.aload_n 0, 1) := by decide +kernel
theorem dX11_itemMany_6 : decode cX11_itemMany 6 = .ok (.getfield 7, 3) := by decide +kernel
theorem dX11_itemMany_9 : decode cX11_itemMany 9 = .ok (.bipush 8, 2) := by decide +kernel
theorem dX11_itemMany_11 : decode cX11_itemMany 11 = .ok (.iaload, 1) := by decide +kernel
theorem dX11_itemMany_12 : decode cX11_itemMany 12 = .ok (.if_icmp .ge 15, 3) := by decide +kernel
theorem dX11_itemMany_15 : decode cX11_itemMany 15 = .ok (.iinc 1 1, 3) := by decide +kernel
theorem dX11_itemMany_18 : decode cX11_itemMany 18 = .ok (.aload_n 0, 1) := by decide +kernel
theorem dX11_itemMany_19 : decode cX11_itemMany 19 = .ok (.iload_n 2, 1) := by decide +kernel
theorem dX11_itemMany_20 : decode cX11_itemMany 20 = .ok (.invokevirtual 411, 3) := by decide +kernel
theorem dX11_itemMany_23 : decode cX11_itemMany 23 = .ok (.istore_n 2, 1) := by decide +kernel
theorem dX11_itemMany_24 : decode cX11_itemMany 24 = .ok (.goto (-20), 3) := by decide +kernel
theorem dX11_itemMany_27 : decode cX11_itemMany 27 = .ok (.iload_n 1, 1) := by decide +kernel
theorem dX11_itemMany_28 : decode cX11_itemMany 28 = .ok (.ireturn, 1) := by decide +kernel
theorem dX11_allItems_0 : decode cX11_allItems 0 = .ok (.iconst 0, 1) := by decide +kernel
theorem dX11_allItems_1 : decode cX11_allItems 1 = .ok (.istore_n 1, 1) := by decide +kernel
theorem dX11_allItems_2 : decode cX11_allItems 2 = .ok (.iconst 0, 1) := by decide +kernel
theorem dX11_allItems_3 : decode cX11_allItems 3 = .ok (.istore_n 2, 1) := by decide +kernel
theorem dX11_allItems_4 : decode cX11_allItems 4 = .ok (.iload_n 2, 1) := by decide +kernel
theorem dX11_allItems_5 : decode cX11_allItems 5 = .ok (.aload_n 0, 1) := by decide +kernel
theorem dX11_allItems_6 : decode cX11_allItems 6 = .ok (.getfield 7, 3) := by decide +kernel
theorem dX11_allItems_9 : decode cX11_allItems 9 = .ok (.bipush 8, 2) := by decide +kernel
theorem dX11_allItems_11 : decode cX11_allItems 11 = .ok (.iaload, 1) := by decide +kernel
theorem dX11_allItems_12 : decode cX11_allItems 12 = .ok (.if_icmp .ge 30, 3) := by decide +kernel
theorem dX11_allItems_15 : decode cX11_allItems 15 = .ok (.iload_n 1, 1) := by decide +kernel
theorem dX11_allItems_16 : decode cX11_allItems 16 = .ok (.aload_n 0, 1) := by decide +kernel
theorem dX11_allItems_17 : decode cX11_allItems 17 = .ok (.iload_n 2, 1) := by decide +kernel
theorem dX11_allItems_18 : decode cX11_allItems 18 = .ok (.iconst 0, 1) := by decide +kernel
theorem dX11_allItems_19 : decode cX11_allItems 19 = .ok (.invokevirtual 129, 3) := by decide +kernel
theorem dX11_allItems_22 : decode cX11_allItems 22 = .ok (.iconst 4, 1) := by decide +kernel
theorem dX11_allItems_23 : decode cX11_allItems 23 = .ok (.if_icmp .eq 7, 3) := by decide +kernel
theorem dX11_allItems_26 : decode cX11_allItems 26 = .ok (.iconst 1, 1) := by decide +kernel
theorem dX11_allItems_27 : decode cX11_allItems 27 = .ok (.goto 4, 3) := by decide +kernel
theorem dX11_allItems_30 : decode cX11_allItems 30 = .ok (.iconst 0, 1) := by decide +kernel
theorem dX11_allItems_31 : decode cX11_allItems 31 = .ok (.invokestatic 133, 3) := by decide +kernel
theorem dX11_allItems_34 : decode cX11_allItems 34 = .ok (.iadd, 1) := by decide +kernel
theorem dX11_allItems_35 : decode cX11_allItems 35 = .ok (.istore_n 1, 1) := by decide +kernel
theorem dX11_allItems_36 : decode cX11_allItems 36 = .ok (.iinc 2 1, 3) := by decide +kernel
theorem dX11_allItems_39 : decode cX11_allItems 39 = .ok (.goto (-35), 3) := by decide +kernel
theorem dX11_allItems_42 : decode cX11_allItems 42 = .ok (.iload_n 1, 1) := by decide +kernel
theorem dX11_allItems_43 : decode cX11_allItems 43 = .ok (.ireturn, 1) := by decide +kernel
theorem dX11_rowOf_0 : decode cX11_rowOf 0 = .ok (.iconst 0, 1) := by decide +kernel
theorem dX11_rowOf_1 : decode cX11_rowOf 1 = .ok (.istore_n 2, 1) := by decide +kernel
theorem dX11_rowOf_2 : decode cX11_rowOf 2 = .ok (.iconst 0, 1) := by decide +kernel
theorem dX11_rowOf_3 : decode cX11_rowOf 3 = .ok (.istore_n 3, 1) := by decide +kernel
theorem dX11_rowOf_4 : decode cX11_rowOf 4 = .ok (.iload_n 3, 1) := by decide +kernel
theorem dX11_rowOf_5 : decode cX11_rowOf 5 = .ok (.iload_n 1, 1) := by decide +kernel
theorem dX11_rowOf_6 : decode cX11_rowOf 6 = .ok (.if_icmp .ge 15, 3) := by decide +kernel
theorem dX11_rowOf_9 : decode cX11_rowOf 9 = .ok (.aload_n 0, 1) := by decide +kernel
theorem dX11_rowOf_10 : decode cX11_rowOf 10 = .ok (.iload_n 2, 1) := by decide +kernel
theorem dX11_rowOf_11 : decode cX11_rowOf 11 = .ok (.invokevirtual 411, 3) := by decide +kernel
theorem dX11_rowOf_14 : decode cX11_rowOf 14 = .ok (.istore_n 2, 1) := by decide +kernel
theorem dX11_rowOf_15 : decode cX11_rowOf 15 = .ok (.iinc 3 1, 3) := by decide +kernel
theorem dX11_rowOf_18 : decode cX11_rowOf 18 = .ok (.goto (-14), 3) := by decide +kernel
theorem dX11_rowOf_21 : decode cX11_rowOf 21 = .ok (.iload_n 2, 1) := by decide +kernel
theorem dX11_rowOf_22 : decode cX11_rowOf 22 = .ok (.ireturn, 1) := by decide +kernel
theorem dX11_deepest_0 : decode cX11_deepest 0 = .ok (.iconst 0, 1) := by decide +kernel
theorem dX11_deepest_1 : decode cX11_deepest 1 = .ok (.istore_n 1, 1) := by decide +kernel
theorem dX11_deepest_2 : decode cX11_deepest 2 = .ok (.iconst 0, 1) := by decide +kernel
theorem dX11_deepest_3 : decode cX11_deepest 3 = .ok (.istore_n 2, 1) := by decide +kernel
theorem dX11_deepest_4 : decode cX11_deepest 4 = .ok (.iconst 0, 1) := by decide +kernel
theorem dX11_deepest_5 : decode cX11_deepest 5 = .ok (.istore_n 3, 1) := by decide +kernel
theorem dX11_deepest_6 : decode cX11_deepest 6 = .ok (.iload_n 3, 1) := by decide +kernel
theorem dX11_deepest_7 : decode cX11_deepest 7 = .ok (.aload_n 0, 1) := by decide +kernel
theorem dX11_deepest_8 : decode cX11_deepest 8 = .ok (.getfield 7, 3) := by decide +kernel
theorem dX11_deepest_11 : decode cX11_deepest 11 = .ok (.bipush 8, 2) := by decide +kernel
theorem dX11_deepest_13 : decode cX11_deepest 13 = .ok (.iaload, 1) := by decide +kernel
theorem dX11_deepest_14 : decode cX11_deepest 14 = .ok (.if_icmp .ge 61, 3) := by decide +kernel
theorem dX11_deepest_17 : decode cX11_deepest 17 = .ok (.aload_n 0, 1) := by decide +kernel
theorem dX11_deepest_18 : decode cX11_deepest 18 = .ok (.iload_n 3, 1) := by decide +kernel
theorem dX11_deepest_19 : decode cX11_deepest 19 = .ok (.iconst 0, 1) := by decide +kernel
theorem dX11_deepest_20 : decode cX11_deepest 20 = .ok (.invokevirtual 129, 3) := by decide +kernel
theorem dX11_deepest_23 : decode cX11_deepest 23 = .ok (.istore 4, 2) := by decide +kernel
theorem dX11_deepest_25 : decode cX11_deepest 25 = .ok (.iload_n 2, 1) := by decide +kernel
theorem dX11_deepest_26 : decode cX11_deepest 26 = .ok (.iload 4, 2) := by decide +kernel
theorem dX11_deepest_28 : decode cX11_deepest 28 = .ok (.iconst 2, 1) := by decide +kernel
theorem dX11_deepest_29 : decode cX11_deepest 29 = .ok (.if_icmp .eq 9, 3) := by decide +kernel
theorem dX11_deepest_32 : decode cX11_deepest 32 = .ok (.iload 4, 2) := by decide +kernel
theorem dX11_deepest_34 : decode cX11_deepest 34 = .ok (.iconst 3, 1) := by decide +kernel
theorem dX11_deepest_35 : decode cX11_deepest 35 = .ok (.if_icmp .ne 7, 3) := by decide +kernel
theorem dX11_deepest_38 : decode cX11_deepest 38 = .ok (.iconst 1, 1) := by decide +kernel
theorem dX11_deepest_39 : decode cX11_deepest 39 = .ok (.goto 4, 3) := by decide +kernel
theorem dX11_deepest_42 : decode cX11_deepest 42 = .ok (.iconst 0, 1) := by decide +kernel
theorem dX11_deepest_43 : decode cX11_deepest 43 = .ok (.invokestatic 133, 3) := by decide +kernel
theorem dX11_deepest_46 : decode cX11_deepest 46 = .ok (.iload 4, 2) := by decide +kernel
theorem dX11_deepest_48 : decode cX11_deepest 48 = .ok (.iconst 4, 1) := by decide +kernel
theorem dX11_deepest_49 : decode cX11_deepest 49 = .ok (.if_icmp .ne 7, 3) := by decide +kernel
theorem dX11_deepest_52 : decode cX11_deepest 52 = .ok (.iconst 1, 1) := by decide +kernel
theorem dX11_deepest_53 : decode cX11_deepest 53 = .ok (.goto 4, 3) := by decide +kernel
theorem dX11_deepest_56 : decode cX11_deepest 56 = .ok (.iconst 0, 1) := by decide +kernel
theorem dX11_deepest_57 : decode cX11_deepest 57 = .ok (.invokestatic 133, 3) := by decide +kernel
theorem dX11_deepest_60 : decode cX11_deepest 60 = .ok (.isub, 1) := by decide +kernel
theorem dX11_deepest_61 : decode cX11_deepest 61 = .ok (.iadd, 1) := by decide +kernel
theorem dX11_deepest_62 : decode cX11_deepest 62 = .ok (.istore_n 2, 1) := by decide +kernel
theorem dX11_deepest_63 : decode cX11_deepest 63 = .ok (.iload_n 1, 1) := by decide +kernel
theorem dX11_deepest_64 : decode cX11_deepest 64 = .ok (.iload_n 2, 1) := by decide +kernel
theorem dX11_deepest_65 : decode cX11_deepest 65 = .ok (.invokestatic 162, 3) := by decide +kernel
theorem dX11_deepest_68 : decode cX11_deepest 68 = .ok (.istore_n 1, 1) := by decide +kernel
theorem dX11_deepest_69 : decode cX11_deepest 69 = .ok (.iinc 3 1, 3) := by decide +kernel
theorem dX11_deepest_72 : decode cX11_deepest 72 = .ok (.goto (-66), 3) := by decide +kernel
theorem dX11_deepest_75 : decode cX11_deepest 75 = .ok (.iload_n 1, 1) := by decide +kernel
theorem dX11_deepest_76 : decode cX11_deepest 76 = .ok (.ireturn, 1) := by decide +kernel
theorem dX11_shiftsBack_0 : decode cX11_shiftsBack 0 = .ok (.bipush 126, 2) := by decide +kernel
theorem dX11_shiftsBack_2 : decode cX11_shiftsBack 2 = .ok (.iconst 4, 1) := by decide +kernel
theorem dX11_shiftsBack_3 : decode cX11_shiftsBack 3 = .ok (.aload_n 0, 1) := by decide +kernel
theorem dX11_shiftsBack_4 : decode cX11_shiftsBack 4 = .ok (.getfield 7, 3) := by decide +kernel
theorem dX11_shiftsBack_7 : decode cX11_shiftsBack 7 = .ok (.bipush 8, 2) := by decide +kernel
theorem dX11_shiftsBack_9 : decode cX11_shiftsBack 9 = .ok (.iaload, 1) := by decide +kernel
theorem dX11_shiftsBack_10 : decode cX11_shiftsBack 10 = .ok (.imul, 1) := by decide +kernel
theorem dX11_shiftsBack_11 : decode cX11_shiftsBack 11 = .ok (.iadd, 1) := by decide +kernel
theorem dX11_shiftsBack_12 : decode cX11_shiftsBack 12 = .ok (.iconst 1, 1) := by decide +kernel
theorem dX11_shiftsBack_13 : decode cX11_shiftsBack 13 = .ok (.isub, 1) := by decide +kernel
theorem dX11_shiftsBack_14 : decode cX11_shiftsBack 14 = .ok (.istore_n 3, 1) := by decide +kernel
theorem dX11_shiftsBack_15 : decode cX11_shiftsBack 15 = .ok (.iload_n 3, 1) := by decide +kernel
theorem dX11_shiftsBack_16 : decode cX11_shiftsBack 16 = .ok (.bipush 126, 2) := by decide +kernel
theorem dX11_shiftsBack_18 : decode cX11_shiftsBack 18 = .ok (.iconst 4, 1) := by decide +kernel
theorem dX11_shiftsBack_19 : decode cX11_shiftsBack 19 = .ok (.iload_n 1, 1) := by decide +kernel
theorem dX11_shiftsBack_20 : decode cX11_shiftsBack 20 = .ok (.imul, 1) := by decide +kernel
theorem dX11_shiftsBack_21 : decode cX11_shiftsBack 21 = .ok (.iadd, 1) := by decide +kernel
theorem dX11_shiftsBack_22 : decode cX11_shiftsBack 22 = .ok (.if_icmp .lt 25, 3) := by decide +kernel
theorem dX11_shiftsBack_25 : decode cX11_shiftsBack 25 = .ok (.aload_n 0, 1) := by decide +kernel
theorem dX11_shiftsBack_26 : decode cX11_shiftsBack 26 = .ok (.getfield 7, 3) := by decide +kernel
theorem dX11_shiftsBack_29 : decode cX11_shiftsBack 29 = .ok (.iload_n 3, 1) := by decide +kernel
theorem dX11_shiftsBack_30 : decode cX11_shiftsBack 30 = .ok (.iconst 4, 1) := by decide +kernel
theorem dX11_shiftsBack_31 : decode cX11_shiftsBack 31 = .ok (.iload_n 2, 1) := by decide +kernel
theorem dX11_shiftsBack_32 : decode cX11_shiftsBack 32 = .ok (.imul, 1) := by decide +kernel
theorem dX11_shiftsBack_33 : decode cX11_shiftsBack 33 = .ok (.iadd, 1) := by decide +kernel
theorem dX11_shiftsBack_34 : decode cX11_shiftsBack 34 = .ok (.aload_n 0, 1) := by decide +kernel
theorem dX11_shiftsBack_35 : decode cX11_shiftsBack 35 = .ok (.getfield 7, 3) := by decide +kernel
theorem dX11_shiftsBack_38 : decode cX11_shiftsBack 38 = .ok (.iload_n 3, 1) := by decide +kernel
theorem dX11_shiftsBack_39 : decode cX11_shiftsBack 39 = .ok (.iaload, 1) := by decide +kernel
theorem dX11_shiftsBack_40 : decode cX11_shiftsBack 40 = .ok (.iastore, 1) := by decide +kernel
theorem dX11_shiftsBack_41 : decode cX11_shiftsBack 41 = .ok (.iinc 3 (-1), 3) := by decide +kernel
theorem dX11_shiftsBack_44 : decode cX11_shiftsBack 44 = .ok (.goto (-29), 3) := by decide +kernel
theorem dX11_shiftsBack_47 : decode cX11_shiftsBack 47 = .ok (.aload_n 0, 1) := by decide +kernel
theorem dX11_shiftsBack_48 : decode cX11_shiftsBack 48 = .ok (.getfield 7, 3) := by decide +kernel
theorem dX11_shiftsBack_51 : decode cX11_shiftsBack 51 = .ok (.bipush 8, 2) := by decide +kernel
theorem dX11_shiftsBack_53 : decode cX11_shiftsBack 53 = .ok (.dup2, 1) := by decide +kernel
theorem dX11_shiftsBack_54 : decode cX11_shiftsBack 54 = .ok (.iaload, 1) := by decide +kernel
theorem dX11_shiftsBack_55 : decode cX11_shiftsBack 55 = .ok (.iload_n 2, 1) := by decide +kernel
theorem dX11_shiftsBack_56 : decode cX11_shiftsBack 56 = .ok (.iadd, 1) := by decide +kernel
theorem dX11_shiftsBack_57 : decode cX11_shiftsBack 57 = .ok (.iastore, 1) := by decide +kernel
theorem dX11_shiftsBack_58 : decode cX11_shiftsBack 58 = .ok (.return_, 1) := by decide +kernel
theorem dX11_shiftsFront_0 : decode cX11_shiftsFront 0 = .ok (.bipush 126, 2) := by decide +kernel
theorem dX11_shiftsFront_2 : decode cX11_shiftsFront 2 = .ok (.iconst 4, 1) := by decide +kernel
theorem dX11_shiftsFront_3 : decode cX11_shiftsFront 3 = .ok (.iload_n 1, 1) := by decide +kernel
theorem dX11_shiftsFront_4 : decode cX11_shiftsFront 4 = .ok (.iload_n 2, 1) := by decide +kernel
theorem dX11_shiftsFront_5 : decode cX11_shiftsFront 5 = .ok (.iadd, 1) := by decide +kernel
theorem dX11_shiftsFront_6 : decode cX11_shiftsFront 6 = .ok (.imul, 1) := by decide +kernel
theorem dX11_shiftsFront_7 : decode cX11_shiftsFront 7 = .ok (.iadd, 1) := by decide +kernel
theorem dX11_shiftsFront_8 : decode cX11_shiftsFront 8 = .ok (.istore_n 3, 1) := by decide +kernel
theorem dX11_shiftsFront_9 : decode cX11_shiftsFront 9 = .ok (.iload_n 3, 1) := by decide +kernel
theorem dX11_shiftsFront_10 : decode cX11_shiftsFront 10 = .ok (.bipush 126, 2) := by decide +kernel
theorem dX11_shiftsFront_12 : decode cX11_shiftsFront 12 = .ok (.iconst 4, 1) := by decide +kernel
theorem dX11_shiftsFront_13 : decode cX11_shiftsFront 13 = .ok (.aload_n 0, 1) := by decide +kernel
theorem dX11_shiftsFront_14 : decode cX11_shiftsFront 14 = .ok (.getfield 7, 3) := by decide +kernel
theorem dX11_shiftsFront_17 : decode cX11_shiftsFront 17 = .ok (.bipush 8, 2) := by decide +kernel
theorem dX11_shiftsFront_19 : decode cX11_shiftsFront 19 = .ok (.iaload, 1) := by decide +kernel
theorem dX11_shiftsFront_20 : decode cX11_shiftsFront 20 = .ok (.imul, 1) := by decide +kernel
theorem dX11_shiftsFront_21 : decode cX11_shiftsFront 21 = .ok (.iadd, 1) := by decide +kernel
theorem dX11_shiftsFront_22 : decode cX11_shiftsFront 22 = .ok (.if_icmp .ge 25, 3) := by decide +kernel
theorem dX11_shiftsFront_25 : decode cX11_shiftsFront 25 = .ok (.aload_n 0, 1) := by decide +kernel
theorem dX11_shiftsFront_26 : decode cX11_shiftsFront 26 = .ok (.getfield 7, 3) := by decide +kernel
theorem dX11_shiftsFront_29 : decode cX11_shiftsFront 29 = .ok (.iload_n 3, 1) := by decide +kernel
theorem dX11_shiftsFront_30 : decode cX11_shiftsFront 30 = .ok (.iconst 4, 1) := by decide +kernel
theorem dX11_shiftsFront_31 : decode cX11_shiftsFront 31 = .ok (.iload_n 2, 1) := by decide +kernel
theorem dX11_shiftsFront_32 : decode cX11_shiftsFront 32 = .ok (.imul, 1) := by decide +kernel
theorem dX11_shiftsFront_33 : decode cX11_shiftsFront 33 = .ok (.isub, 1) := by decide +kernel
theorem dX11_shiftsFront_34 : decode cX11_shiftsFront 34 = .ok (.aload_n 0, 1) := by decide +kernel
theorem dX11_shiftsFront_35 : decode cX11_shiftsFront 35 = .ok (.getfield 7, 3) := by decide +kernel
theorem dX11_shiftsFront_38 : decode cX11_shiftsFront 38 = .ok (.iload_n 3, 1) := by decide +kernel
theorem dX11_shiftsFront_39 : decode cX11_shiftsFront 39 = .ok (.iaload, 1) := by decide +kernel
theorem dX11_shiftsFront_40 : decode cX11_shiftsFront 40 = .ok (.iastore, 1) := by decide +kernel
theorem dX11_shiftsFront_41 : decode cX11_shiftsFront 41 = .ok (.iinc 3 1, 3) := by decide +kernel
theorem dX11_shiftsFront_44 : decode cX11_shiftsFront 44 = .ok (.goto (-35), 3) := by decide +kernel
theorem dX11_shiftsFront_47 : decode cX11_shiftsFront 47 = .ok (.aload_n 0, 1) := by decide +kernel
theorem dX11_shiftsFront_48 : decode cX11_shiftsFront 48 = .ok (.getfield 7, 3) := by decide +kernel
theorem dX11_shiftsFront_51 : decode cX11_shiftsFront 51 = .ok (.bipush 8, 2) := by decide +kernel
theorem dX11_shiftsFront_53 : decode cX11_shiftsFront 53 = .ok (.dup2, 1) := by decide +kernel
theorem dX11_shiftsFront_54 : decode cX11_shiftsFront 54 = .ok (.iaload, 1) := by decide +kernel
theorem dX11_shiftsFront_55 : decode cX11_shiftsFront 55 = .ok (.iload_n 2, 1) := by decide +kernel
theorem dX11_shiftsFront_56 : decode cX11_shiftsFront 56 = .ok (.isub, 1) := by decide +kernel
theorem dX11_shiftsFront_57 : decode cX11_shiftsFront 57 = .ok (.iastore, 1) := by decide +kernel
theorem dX11_shiftsFront_58 : decode cX11_shiftsFront 58 = .ok (.return_, 1) := by decide +kernel
theorem dX11_count_0 : decode cX11_count 0 = .ok (.aload_n 0, 1) := by decide +kernel
theorem dX11_count_1 : decode cX11_count 1 = .ok (.iload_n 1, 1) := by decide +kernel
theorem dX11_count_2 : decode cX11_count 2 = .ok (.iconst 0, 1) := by decide +kernel
theorem dX11_count_3 : decode cX11_count 3 = .ok (.bipush 13, 2) := by decide +kernel
theorem dX11_count_5 : decode cX11_count 5 = .ok (.invokestatic 112, 3) := by decide +kernel
theorem dX11_count_8 : decode cX11_count 8 = .ok (.invokevirtual 239, 3) := by decide +kernel
theorem dX11_count_11 : decode cX11_count 11 = .ok (.ifCond .ne 5, 3) := by decide +kernel
theorem dX11_count_14 : decode cX11_count 14 = .ok (.iconst 0, 1) := by decide +kernel
theorem dX11_count_15 : decode cX11_count 15 = .ok (.ireturn, 1) := by decide +kernel
theorem dX11_count_16 : decode cX11_count 16 = .ok (.iload_n 1, 1) := by decide +kernel
theorem dX11_count_17 : decode cX11_count 17 = .ok (.tableswitch 120 0 13 #[71, 71, 71, 120, 120, 120, 120, 120, 80, 85, 90, 98, 103, 115], 71) := by decide +kernel
theorem dX11_count_88 : decode cX11_count 88 = .ok (.aload_n 0, 1) := by decide +kernel
theorem dX11_count_89 : decode cX11_count 89 = .ok (.getfield 7, 3) := by decide +kernel
theorem dX11_count_92 : decode cX11_count 92 = .ok (.iconst 5, 1) := by decide +kernel
theorem dX11_count_93 : decode cX11_count 93 = .ok (.iload_n 1, 1) := by decide +kernel
theorem dX11_count_94 : decode cX11_count 94 = .ok (.iadd, 1) := by decide +kernel
theorem dX11_count_95 : decode cX11_count 95 = .ok (.iaload, 1) := by decide +kernel
theorem dX11_count_96 : decode cX11_count 96 = .ok (.ireturn, 1) := by decide +kernel
theorem dX11_count_97 : decode cX11_count 97 = .ok (.aload_n 0, 1) := by decide +kernel
theorem dX11_count_98 : decode cX11_count 98 = .ok (.invokevirtual 414, 3) := by decide +kernel
theorem dX11_count_101 : decode cX11_count 101 = .ok (.ireturn, 1) := by decide +kernel
theorem dX11_count_102 : decode cX11_count 102 = .ok (.aload_n 0, 1) := by decide +kernel
theorem dX11_count_103 : decode cX11_count 103 = .ok (.invokevirtual 417, 3) := by decide +kernel
theorem dX11_count_106 : decode cX11_count 106 = .ok (.ireturn, 1) := by decide +kernel
theorem dX11_count_107 : decode cX11_count 107 = .ok (.aload_n 0, 1) := by decide +kernel
theorem dX11_count_108 : decode cX11_count 108 = .ok (.getfield 7, 3) := by decide +kernel
theorem dX11_count_111 : decode cX11_count 111 = .ok (.bipush 9, 2) := by decide +kernel
theorem dX11_count_113 : decode cX11_count 113 = .ok (.iaload, 1) := by decide +kernel
theorem dX11_count_114 : decode cX11_count 114 = .ok (.ireturn, 1) := by decide +kernel
theorem dX11_count_115 : decode cX11_count 115 = .ok (.aload_n 0, 1) := by decide +kernel
theorem dX11_count_116 : decode cX11_count 116 = .ok (.invokevirtual 420, 3) := by decide +kernel
theorem dX11_count_119 : decode cX11_count 119 = .ok (.ireturn, 1) := by decide +kernel
theorem dX11_count_120 : decode cX11_count 120 = .ok (.aload_n 0, 1) := by decide +kernel
theorem dX11_count_121 : decode cX11_count 121 = .ok (.aload_n 0, 1) := by decide +kernel
theorem dX11_count_122 : decode cX11_count 122 = .ok (.getfield 7, 3) := by decide +kernel
theorem dX11_count_125 : decode cX11_count 125 = .ok (.bipush 9, 2) := by decide +kernel
theorem dX11_count_127 : decode cX11_count 127 = .ok (.iaload, 1) := by decide +kernel
theorem dX11_count_128 : decode cX11_count 128 = .ok (.invokevirtual 423, 3) := by decide +kernel
theorem dX11_count_131 : decode cX11_count 131 = .ok (.ireturn, 1) := by decide +kernel
theorem dX11_count_132 : decode cX11_count 132 = .ok (.aload_n 0, 1) := by decide +kernel
theorem dX11_count_133 : decode cX11_count 133 = .ok (.getfield 359, 3) := by decide +kernel
theorem dX11_count_136 : decode cX11_count 136 = .ok (.ireturn, 1) := by decide +kernel
theorem dX11_count_137 : decode cX11_count 137 = .ok (.aload_n 0, 1) := by decide +kernel
theorem dX11_count_138 : decode cX11_count 138 = .ok (.getfield 7, 3) := by decide +kernel
theorem dX11_count_141 : decode cX11_count 141 = .ok (.iload_n 1, 1) := by decide +kernel
theorem dX11_count_142 : decode cX11_count 142 = .ok (.iconst 3, 1) := by decide +kernel
theorem dX11_count_143 : decode cX11_count 143 = .ok (.isub, 1) := by decide +kernel
theorem dX11_count_144 : decode cX11_count 144 = .ok (.iaload, 1) := by decide +kernel
theorem dX11_count_145 : decode cX11_count 145 = .ok (.ireturn, 1) := by decide +kernel
theorem dX11_isShotThere_0 : decode cX11_isShotThere 0 = .ok (.iload_n 1, 1) := by decide +kernel
theorem dX11_isShotThere_1 : decode cX11_isShotThere 1 = .ok (.iconst 0, 1) := by decide +kernel
theorem dX11_isShotThere_2 : decode cX11_isShotThere 2 = .ok (.aload_n 0, 1) := by decide +kernel
theorem dX11_isShotThere_3 : decode cX11_isShotThere 3 = .ok (.getfield 7, 3) := by decide +kernel
theorem dX11_isShotThere_6 : decode cX11_isShotThere 6 = .ok (.iconst 5, 1) := by decide +kernel
theorem dX11_isShotThere_7 : decode cX11_isShotThere 7 = .ok (.iaload, 1) := by decide +kernel
theorem dX11_isShotThere_8 : decode cX11_isShotThere 8 = .ok (.iconst 1, 1) := by decide +kernel
theorem dX11_isShotThere_9 : decode cX11_isShotThere 9 = .ok (.isub, 1) := by decide +kernel
theorem dX11_isShotThere_10 : decode cX11_isShotThere 10 = .ok (.invokestatic 112, 3) := by decide +kernel
theorem dX11_isShotThere_13 : decode cX11_isShotThere 13 = .ok (.ireturn, 1) := by decide +kernel
theorem dX11_piecesOf_0 : decode cX11_piecesOf 0 = .ok (.aload_n 0, 1) := by decide +kernel
theorem dX11_piecesOf_1 : decode cX11_piecesOf 1 = .ok (.invokevirtual 209, 3) := by decide +kernel
theorem dX11_piecesOf_4 : decode cX11_piecesOf 4 = .ok (.iconst 0, 1) := by decide +kernel
theorem dX11_piecesOf_5 : decode cX11_piecesOf 5 = .ok (.istore 4, 2) := by decide +kernel
theorem dX11_piecesOf_7 : decode cX11_piecesOf 7 = .ok (.iconst 0, 1) := by decide +kernel
theorem dX11_piecesOf_8 : decode cX11_piecesOf 8 = .ok (.istore 5, 2) := by decide +kernel
theorem dX11_piecesOf_10 : decode cX11_piecesOf 10 = .ok (.iload 5, 2) := by decide +kernel
theorem dX11_piecesOf_12 : decode cX11_piecesOf 12 = .ok (.aload_n 0, 1) := by decide +kernel
theorem dX11_piecesOf_13 : decode cX11_piecesOf 13 = .ok (.getfield 126, 3) := by decide +kernel
theorem dX11_piecesOf_16 : decode cX11_piecesOf 16 = .ok (.if_icmp .ge 51, 3) := by decide +kernel
theorem dX11_piecesOf_19 : decode cX11_piecesOf 19 = .ok (.aload_n 0, 1) := by decide +kernel
theorem dX11_piecesOf_20 : decode cX11_piecesOf 20 = .ok (.getfield 29, 3) := by decide +kernel
theorem dX11_piecesOf_23 : decode cX11_piecesOf 23 = .ok (.iload 5, 2) := by decide +kernel
theorem dX11_piecesOf_25 : decode cX11_piecesOf 25 = .ok (.iaload, 1) := by decide +kernel
theorem dX11_piecesOf_26 : decode cX11_piecesOf 26 = .ok (.iload_n 1, 1) := by decide +kernel
theorem dX11_piecesOf_27 : decode cX11_piecesOf 27 = .ok (.if_icmp .ne 34, 3) := by decide +kernel
theorem dX11_piecesOf_30 : decode cX11_piecesOf 30 = .ok (.aload_n 0, 1) := by decide +kernel
theorem dX11_piecesOf_31 : decode cX11_piecesOf 31 = .ok (.getfield 32, 3) := by decide +kernel
theorem dX11_piecesOf_34 : decode cX11_piecesOf 34 = .ok (.iload 5, 2) := by decide +kernel
theorem dX11_piecesOf_36 : decode cX11_piecesOf 36 = .ok (.iaload, 1) := by decide +kernel
theorem dX11_piecesOf_37 : decode cX11_piecesOf 37 = .ok (.iload_n 2, 1) := by decide +kernel
theorem dX11_piecesOf_38 : decode cX11_piecesOf 38 = .ok (.if_icmp .ne 23, 3) := by decide +kernel
theorem dX11_piecesOf_41 : decode cX11_piecesOf 41 = .ok (.iload 4, 2) := by decide +kernel
theorem dX11_piecesOf_43 : decode cX11_piecesOf 43 = .ok (.iload_n 3, 1) := by decide +kernel
theorem dX11_piecesOf_44 : decode cX11_piecesOf 44 = .ok (.ifCond .eq 13, 3) := by decide +kernel
theorem dX11_piecesOf_47 : decode cX11_piecesOf 47 = .ok (.aload_n 0, 1) := by decide +kernel
theorem dX11_piecesOf_48 : decode cX11_piecesOf 48 = .ok (.getfield 38, 3) := by decide +kernel
theorem dX11_piecesOf_51 : decode cX11_piecesOf 51 = .ok (.iload 5, 2) := by decide +kernel
theorem dX11_piecesOf_53 : decode cX11_piecesOf 53 = .ok (.iaload, 1) := by decide +kernel
theorem dX11_piecesOf_54 : decode cX11_piecesOf 54 = .ok (.goto 4, 3) := by decide +kernel
theorem dX11_piecesOf_57 : decode cX11_piecesOf 57 = .ok (.iconst 1, 1) := by decide +kernel
theorem dX11_piecesOf_58 : decode cX11_piecesOf 58 = .ok (.iadd, 1) := by decide +kernel
theorem dX11_piecesOf_59 : decode cX11_piecesOf 59 = .ok (.istore 4, 2) := by decide +kernel
theorem dX11_piecesOf_61 : decode cX11_piecesOf 61 = .ok (.iinc 5 1, 3) := by decide +kernel
theorem dX11_piecesOf_64 : decode cX11_piecesOf 64 = .ok (.goto (-54), 3) := by decide +kernel
theorem dX11_piecesOf_67 : decode cX11_piecesOf 67 = .ok (.iload 4, 2) := by decide +kernel
theorem dX11_piecesOf_69 : decode cX11_piecesOf 69 = .ok (.ireturn, 1) := by decide +kernel
theorem dX11_shot_0 : decode cX11_shot 0 = .ok (.aload_n 0, 1) := by decide +kernel
theorem dX11_shot_1 : decode cX11_shot 1 = .ok (.aload_n 0, 1) := by decide +kernel
theorem dX11_shot_2 : decode cX11_shot 2 = .ok (.iload_n 1, 1) := by decide +kernel
theorem dX11_shot_3 : decode cX11_shot 3 = .ok (.invokevirtual 426, 3) := by decide +kernel
theorem dX11_shot_6 : decode cX11_shot 6 = .ok (.iload_n 2, 1) := by decide +kernel
theorem dX11_shot_7 : decode cX11_shot 7 = .ok (.iconst 0, 1) := by decide +kernel
theorem dX11_shot_8 : decode cX11_shot 8 = .ok (.iconst 4, 1) := by decide +kernel
theorem dX11_shot_9 : decode cX11_shot 9 = .ok (.invokestatic 112, 3) := by decide +kernel
theorem dX11_shot_12 : decode cX11_shot 12 = .ok (.invokevirtual 429, 3) := by decide +kernel
theorem dX11_shot_15 : decode cX11_shot 15 = .ok (.ifCond .ne 5, 3) := by decide +kernel
theorem dX11_shot_18 : decode cX11_shot 18 = .ok (.iconst 0, 1) := by decide +kernel
theorem dX11_shot_19 : decode cX11_shot 19 = .ok (.ireturn, 1) := by decide +kernel
theorem dX11_shot_20 : decode cX11_shot 20 = .ok (.iload_n 2, 1) := by decide +kernel
theorem dX11_shot_21 : decode cX11_shot 21 = .ok (.tableswitch 48 0 2 #[27, 33, 39], 27) := by decide +kernel
theorem dX11_shot_48 : decode cX11_shot 48 = .ok (.aload_n 0, 1) := by decide +kernel
theorem dX11_shot_49 : decode cX11_shot 49 = .ok (.iload_n 1, 1) := by decide +kernel
theorem dX11_shot_50 : decode cX11_shot 50 = .ok (.invokevirtual 108, 3) := by decide +kernel
theorem dX11_shot_53 : decode cX11_shot 53 = .ok (.ireturn, 1) := by decide +kernel
theorem dX11_shot_54 : decode cX11_shot 54 = .ok (.aload_n 0, 1) := by decide +kernel
theorem dX11_shot_55 : decode cX11_shot 55 = .ok (.iload_n 1, 1) := by decide +kernel
theorem dX11_shot_56 : decode cX11_shot 56 = .ok (.invokevirtual 218, 3) := by decide +kernel
theorem dX11_shot_59 : decode cX11_shot 59 = .ok (.ireturn, 1) := by decide +kernel
theorem dX11_shot_60 : decode cX11_shot 60 = .ok (.aload_n 0, 1) := by decide +kernel
theorem dX11_shot_61 : decode cX11_shot 61 = .ok (.iload_n 1, 1) := by decide +kernel
theorem dX11_shot_62 : decode cX11_shot 62 = .ok (.invokevirtual 187, 3) := by decide +kernel
theorem dX11_shot_65 : decode cX11_shot 65 = .ok (.invokestatic 133, 3) := by decide +kernel
theorem dX11_shot_68 : decode cX11_shot 68 = .ok (.ireturn, 1) := by decide +kernel
theorem dX11_shot_69 : decode cX11_shot 69 = .ok (.aload_n 0, 1) := by decide +kernel
theorem dX11_shot_70 : decode cX11_shot 70 = .ok (.iconst 0, 1) := by decide +kernel
theorem dX11_shot_71 : decode cX11_shot 71 = .ok (.iload_n 1, 1) := by decide +kernel
theorem dX11_shot_72 : decode cX11_shot 72 = .ok (.iload_n 2, 1) := by decide +kernel
theorem dX11_shot_73 : decode cX11_shot 73 = .ok (.iconst 4, 1) := by decide +kernel
theorem dX11_shot_74 : decode cX11_shot 74 = .ok (.if_icmp .ne 7, 3) := by decide +kernel
theorem dX11_shot_77 : decode cX11_shot 77 = .ok (.iconst 1, 1) := by decide +kernel
theorem dX11_shot_78 : decode cX11_shot 78 = .ok (.goto 4, 3) := by decide +kernel
theorem dX11_shot_81 : decode cX11_shot 81 = .ok (.iconst 0, 1) := by decide +kernel
theorem dX11_shot_82 : decode cX11_shot 82 = .ok (.invokevirtual 433, 3) := by decide +kernel
theorem dX11_shot_85 : decode cX11_shot 85 = .ok (.ireturn, 1) := by decide +kernel
theorem dX11_isMap_0 : decode cX11_isMap 0 = .ok (.iload_n 1, 1) := by decide +kernel
theorem dX11_isMap_1 : decode cX11_isMap 1 = .ok (.iconst 0, 1) := by decide +kernel
theorem dX11_isMap_2 : decode cX11_isMap 2 = .ok (.aload_n 0, 1) := by decide +kernel
theorem dX11_isMap_3 : decode cX11_isMap 3 = .ok (.getfield 7, 3) := by decide +kernel
theorem dX11_isMap_6 : decode cX11_isMap 6 = .ok (.bipush 6, 2) := by decide +kernel
theorem dX11_isMap_8 : decode cX11_isMap 8 = .ok (.iaload, 1) := by decide +kernel
theorem dX11_isMap_9 : decode cX11_isMap 9 = .ok (.iconst 1, 1) := by decide +kernel
theorem dX11_isMap_10 : decode cX11_isMap 10 = .ok (.isub, 1) := by decide +kernel
theorem dX11_isMap_11 : decode cX11_isMap 11 = .ok (.invokestatic 112, 3) := by decide +kernel
theorem dX11_isMap_14 : decode cX11_isMap 14 = .ok (.ireturn, 1) := by decide +kernel
theorem dX11_namedBy_0 : decode cX11_namedBy 0 = .ok (.aload_n 0, 1) := by decide +kernel
theorem dX11_namedBy_1 : decode cX11_namedBy 1 = .ok (.invokevirtual 209, 3) := by decide +kernel
theorem dX11_namedBy_4 : decode cX11_namedBy 4 = .ok (.aload_n 0, 1) := by decide +kernel
theorem dX11_namedBy_5 : decode cX11_namedBy 5 = .ok (.invokevirtual 212, 3) := by decide +kernel
theorem dX11_namedBy_8 : decode cX11_namedBy 8 = .ok (.istore_n 3, 1) := by decide +kernel
theorem dX11_namedBy_9 : decode cX11_namedBy 9 = .ok (.iconst 0, 1) := by decide +kernel
theorem dX11_namedBy_10 : decode cX11_namedBy 10 = .ok (.istore 4, 2) := by decide +kernel
theorem dX11_namedBy_12 : decode cX11_namedBy 12 = .ok (.iconst 0, 1) := by decide +kernel
theorem dX11_namedBy_13 : decode cX11_namedBy 13 = .ok (.istore 5, 2) := by decide +kernel
theorem dX11_namedBy_15 : decode cX11_namedBy 15 = .ok (.iload 5, 2) := by decide +kernel
theorem dX11_namedBy_17 : decode cX11_namedBy 17 = .ok (.aload_n 0, 1) := by decide +kernel
theorem dX11_namedBy_18 : decode cX11_namedBy 18 = .ok (.getfield 7, 3) := by decide +kernel
theorem dX11_namedBy_21 : decode cX11_namedBy 21 = .ok (.bipush 9, 2) := by decide +kernel
theorem dX11_namedBy_23 : decode cX11_namedBy 23 = .ok (.iaload, 1) := by decide +kernel
theorem dX11_namedBy_24 : decode cX11_namedBy 24 = .ok (.if_icmp .ge 50, 3) := by decide +kernel
theorem dX11_namedBy_27 : decode cX11_namedBy 27 = .ok (.iload_n 3, 1) := by decide +kernel
theorem dX11_namedBy_28 : decode cX11_namedBy 28 = .ok (.ifCond .lt 46, 3) := by decide +kernel
theorem dX11_namedBy_31 : decode cX11_namedBy 31 = .ok (.iload 4, 2) := by decide +kernel
theorem dX11_namedBy_33 : decode cX11_namedBy 33 = .ok (.aload_n 0, 1) := by decide +kernel
theorem dX11_namedBy_34 : decode cX11_namedBy 34 = .ok (.iload 5, 2) := by decide +kernel
theorem dX11_namedBy_36 : decode cX11_namedBy 36 = .ok (.iload_n 1, 1) := by decide +kernel
theorem dX11_namedBy_37 : decode cX11_namedBy 37 = .ok (.invokevirtual 178, 3) := by decide +kernel
theorem dX11_namedBy_40 : decode cX11_namedBy 40 = .ok (.ifCond .eq 21, 3) := by decide +kernel
theorem dX11_namedBy_43 : decode cX11_namedBy 43 = .ok (.iload_n 2, 1) := by decide +kernel
theorem dX11_namedBy_44 : decode cX11_namedBy 44 = .ok (.ifCond .eq 13, 3) := by decide +kernel
theorem dX11_namedBy_47 : decode cX11_namedBy 47 = .ok (.aload_n 0, 1) := by decide +kernel
theorem dX11_namedBy_48 : decode cX11_namedBy 48 = .ok (.iload_n 1, 1) := by decide +kernel
theorem dX11_namedBy_49 : decode cX11_namedBy 49 = .ok (.iload 5, 2) := by decide +kernel
theorem dX11_namedBy_51 : decode cX11_namedBy 51 = .ok (.invokevirtual 193, 3) := by decide +kernel
theorem dX11_namedBy_54 : decode cX11_namedBy 54 = .ok (.ifCond .eq 7, 3) := by decide +kernel
theorem dX11_namedBy_57 : decode cX11_namedBy 57 = .ok (.iconst 1, 1) := by decide +kernel
theorem dX11_namedBy_58 : decode cX11_namedBy 58 = .ok (.goto 4, 3) := by decide +kernel
theorem dX11_namedBy_61 : decode cX11_namedBy 61 = .ok (.iconst 0, 1) := by decide +kernel
theorem dX11_namedBy_62 : decode cX11_namedBy 62 = .ok (.invokestatic 133, 3) := by decide +kernel
theorem dX11_namedBy_65 : decode cX11_namedBy 65 = .ok (.iadd, 1) := by decide +kernel
theorem dX11_namedBy_66 : decode cX11_namedBy 66 = .ok (.istore 4, 2) := by decide +kernel
theorem dX11_namedBy_68 : decode cX11_namedBy 68 = .ok (.iinc 5 1, 3) := by decide +kernel
theorem dX11_namedBy_71 : decode cX11_namedBy 71 = .ok (.goto (-56), 3) := by decide +kernel
theorem dX11_namedBy_74 : decode cX11_namedBy 74 = .ok (.iload 4, 2) := by decide +kernel
theorem dX11_namedBy_76 : decode cX11_namedBy 76 = .ok (.ireturn, 1) := by decide +kernel
theorem dX11_map_0 : decode cX11_map 0 = .ok (.aload_n 0, 1) := by decide +kernel
theorem dX11_map_1 : decode cX11_map 1 = .ok (.aload_n 0, 1) := by decide +kernel
theorem dX11_map_2 : decode cX11_map 2 = .ok (.iload_n 1, 1) := by decide +kernel
theorem dX11_map_3 : decode cX11_map 3 = .ok (.invokevirtual 437, 3) := by decide +kernel
theorem dX11_map_6 : decode cX11_map 6 = .ok (.iload_n 2, 1) := by decide +kernel
theorem dX11_map_7 : decode cX11_map 7 = .ok (.iconst 0, 1) := by decide +kernel
theorem dX11_map_8 : decode cX11_map 8 = .ok (.iconst 3, 1) := by decide +kernel
theorem dX11_map_9 : decode cX11_map 9 = .ok (.invokestatic 112, 3) := by decide +kernel
theorem dX11_map_12 : decode cX11_map 12 = .ok (.invokevirtual 429, 3) := by decide +kernel
theorem dX11_map_15 : decode cX11_map 15 = .ok (.ifCond .ne 5, 3) := by decide +kernel
theorem dX11_map_18 : decode cX11_map 18 = .ok (.iconst 0, 1) := by decide +kernel
theorem dX11_map_19 : decode cX11_map 19 = .ok (.ireturn, 1) := by decide +kernel
theorem dX11_map_20 : decode cX11_map 20 = .ok (.iload_n 2, 1) := by decide +kernel
theorem dX11_map_21 : decode cX11_map 21 = .ok (.lookupswitch 48 #[(0, 27), (2, 40)], 27) := by decide +kernel
theorem dX11_map_48 : decode cX11_map 48 = .ok (.aload_n 0, 1) := by decide +kernel
theorem dX11_map_49 : decode cX11_map 49 = .ok (.getfield 7, 3) := by decide +kernel
theorem dX11_map_52 : decode cX11_map 52 = .ok (.bipush 36, 2) := by decide +kernel
theorem dX11_map_54 : decode cX11_map 54 = .ok (.bipush 10, 2) := by decide +kernel
theorem dX11_map_56 : decode cX11_map 56 = .ok (.iload_n 1, 1) := by decide +kernel
theorem dX11_map_57 : decode cX11_map 57 = .ok (.imul, 1) := by decide +kernel
theorem dX11_map_58 : decode cX11_map 58 = .ok (.iadd, 1) := by decide +kernel
theorem dX11_map_59 : decode cX11_map 59 = .ok (.iaload, 1) := by decide +kernel
theorem dX11_map_60 : decode cX11_map 60 = .ok (.ireturn, 1) := by decide +kernel
theorem dX11_map_61 : decode cX11_map 61 = .ok (.aload_n 0, 1) := by decide +kernel
theorem dX11_map_62 : decode cX11_map 62 = .ok (.iconst 1, 1) := by decide +kernel
theorem dX11_map_63 : decode cX11_map 63 = .ok (.iload_n 1, 1) := by decide +kernel
theorem dX11_map_64 : decode cX11_map 64 = .ok (.iconst 0, 1) := by decide +kernel
theorem dX11_map_65 : decode cX11_map 65 = .ok (.invokevirtual 433, 3) := by decide +kernel
theorem dX11_map_68 : decode cX11_map 68 = .ok (.ireturn, 1) := by decide +kernel
theorem dX11_map_69 : decode cX11_map 69 = .ok (.aload_n 0, 1) := by decide +kernel
theorem dX11_map_70 : decode cX11_map 70 = .ok (.iload_n 1, 1) := by decide +kernel
theorem dX11_map_71 : decode cX11_map 71 = .ok (.iload_n 2, 1) := by decide +kernel
theorem dX11_map_72 : decode cX11_map 72 = .ok (.iconst 3, 1) := by decide +kernel
theorem dX11_map_73 : decode cX11_map 73 = .ok (.if_icmp .ne 7, 3) := by decide +kernel
theorem dX11_map_76 : decode cX11_map 76 = .ok (.iconst 1, 1) := by decide +kernel
theorem dX11_map_77 : decode cX11_map 77 = .ok (.goto 4, 3) := by decide +kernel
theorem dX11_map_80 : decode cX11_map 80 = .ok (.iconst 0, 1) := by decide +kernel
theorem dX11_map_81 : decode cX11_map 81 = .ok (.invokevirtual 440, 3) := by decide +kernel
theorem dX11_map_84 : decode cX11_map 84 = .ok (.ireturn, 1) := by decide +kernel
theorem dX11_shotsBy_0 : decode cX11_shotsBy 0 = .ok (.iconst 0, 1) := by decide +kernel
theorem dX11_shotsBy_1 : decode cX11_shotsBy 1 = .ok (.istore_n 2, 1) := by decide +kernel
theorem dX11_shotsBy_2 : decode cX11_shotsBy 2 = .ok (.iconst 0, 1) := by decide +kernel
theorem dX11_shotsBy_3 : decode cX11_shotsBy 3 = .ok (.istore_n 3, 1) := by decide +kernel
theorem dX11_shotsBy_4 : decode cX11_shotsBy 4 = .ok (.iload_n 3, 1) := by decide +kernel
theorem dX11_shotsBy_5 : decode cX11_shotsBy 5 = .ok (.aload_n 0, 1) := by decide +kernel
theorem dX11_shotsBy_6 : decode cX11_shotsBy 6 = .ok (.getfield 7, 3) := by decide +kernel
theorem dX11_shotsBy_9 : decode cX11_shotsBy 9 = .ok (.iconst 5, 1) := by decide +kernel
theorem dX11_shotsBy_10 : decode cX11_shotsBy 10 = .ok (.iaload, 1) := by decide +kernel
theorem dX11_shotsBy_11 : decode cX11_shotsBy 11 = .ok (.if_icmp .ge 29, 3) := by decide +kernel
theorem dX11_shotsBy_14 : decode cX11_shotsBy 14 = .ok (.iload_n 2, 1) := by decide +kernel
theorem dX11_shotsBy_15 : decode cX11_shotsBy 15 = .ok (.aload_n 0, 1) := by decide +kernel
theorem dX11_shotsBy_16 : decode cX11_shotsBy 16 = .ok (.iload_n 3, 1) := by decide +kernel
theorem dX11_shotsBy_17 : decode cX11_shotsBy 17 = .ok (.invokevirtual 108, 3) := by decide +kernel
theorem dX11_shotsBy_20 : decode cX11_shotsBy 20 = .ok (.iload_n 1, 1) := by decide +kernel
theorem dX11_shotsBy_21 : decode cX11_shotsBy 21 = .ok (.if_icmp .ne 7, 3) := by decide +kernel
theorem dX11_shotsBy_24 : decode cX11_shotsBy 24 = .ok (.iconst 1, 1) := by decide +kernel
theorem dX11_shotsBy_25 : decode cX11_shotsBy 25 = .ok (.goto 4, 3) := by decide +kernel
theorem dX11_shotsBy_28 : decode cX11_shotsBy 28 = .ok (.iconst 0, 1) := by decide +kernel
theorem dX11_shotsBy_29 : decode cX11_shotsBy 29 = .ok (.invokestatic 133, 3) := by decide +kernel
theorem dX11_shotsBy_32 : decode cX11_shotsBy 32 = .ok (.iadd, 1) := by decide +kernel
theorem dX11_shotsBy_33 : decode cX11_shotsBy 33 = .ok (.istore_n 2, 1) := by decide +kernel
theorem dX11_shotsBy_34 : decode cX11_shotsBy 34 = .ok (.iinc 3 1, 3) := by decide +kernel
theorem dX11_shotsBy_37 : decode cX11_shotsBy 37 = .ok (.goto (-33), 3) := by decide +kernel
theorem dX11_shotsBy_40 : decode cX11_shotsBy 40 = .ok (.iload_n 2, 1) := by decide +kernel
theorem dX11_shotsBy_41 : decode cX11_shotsBy 41 = .ok (.ireturn, 1) := by decide +kernel
theorem dX11_ban_0 : decode cX11_ban 0 = .ok (.aload_n 0, 1) := by decide +kernel
theorem dX11_ban_1 : decode cX11_ban 1 = .ok (.iload_n 1, 1) := by decide +kernel
theorem dX11_ban_2 : decode cX11_ban 2 = .ok (.iconst 0, 1) := by decide +kernel
theorem dX11_ban_3 : decode cX11_ban 3 = .ok (.aload_n 0, 1) := by decide +kernel
theorem dX11_ban_4 : decode cX11_ban 4 = .ok (.getfield 7, 3) := by decide +kernel
theorem dX11_ban_7 : decode cX11_ban 7 = .ok (.bipush 7, 2) := by decide +kernel
theorem dX11_ban_9 : decode cX11_ban 9 = .ok (.iaload, 1) := by decide +kernel
theorem dX11_ban_10 : decode cX11_ban 10 = .ok (.iconst 1, 1) := by decide +kernel
theorem dX11_ban_11 : decode cX11_ban 11 = .ok (.isub, 1) := by decide +kernel
theorem dX11_ban_12 : decode cX11_ban 12 = .ok (.invokestatic 112, 3) := by decide +kernel
theorem dX11_ban_15 : decode cX11_ban 15 = .ok (.iload_n 2, 1) := by decide +kernel
theorem dX11_ban_16 : decode cX11_ban 16 = .ok (.iconst 0, 1) := by decide +kernel
theorem dX11_ban_17 : decode cX11_ban 17 = .ok (.iconst 3, 1) := by decide +kernel
theorem dX11_ban_18 : decode cX11_ban 18 = .ok (.invokestatic 112, 3) := by decide +kernel
theorem dX11_ban_21 : decode cX11_ban 21 = .ok (.invokevirtual 429, 3) := by decide +kernel
theorem dX11_ban_24 : decode cX11_ban 24 = .ok (.ifCond .ne 5, 3) := by decide +kernel
theorem dX11_ban_27 : decode cX11_ban 27 = .ok (.iconst 0, 1) := by decide +kernel
theorem dX11_ban_28 : decode cX11_ban 28 = .ok (.ireturn, 1) := by decide +kernel
theorem dX11_ban_29 : decode cX11_ban 29 = .ok (.bipush 96, 2) := by decide +kernel
theorem dX11_ban_31 : decode cX11_ban 31 = .ok (.iconst 3, 1) := by decide +kernel
theorem dX11_ban_32 : decode cX11_ban 32 = .ok (.iload_n 1, 1) := by decide +kernel
theorem dX11_ban_33 : decode cX11_ban 33 = .ok (.imul, 1) := by decide +kernel
theorem dX11_ban_34 : decode cX11_ban 34 = .ok (.iadd, 1) := by decide +kernel
theorem dX11_ban_35 : decode cX11_ban 35 = .ok (.istore_n 3, 1) := by decide +kernel
theorem dX11_ban_36 : decode cX11_ban 36 = .ok (.iload_n 2, 1) := by decide +kernel
theorem dX11_ban_37 : decode cX11_ban 37 = .ok (.iconst 3, 1) := by decide +kernel
theorem dX11_ban_38 : decode cX11_ban 38 = .ok (.if_icmp .ge 14, 3) := by decide +kernel
theorem dX11_ban_41 : decode cX11_ban 41 = .ok (.aload_n 0, 1) := by decide +kernel
theorem dX11_ban_42 : decode cX11_ban 42 = .ok (.getfield 7, 3) := by decide +kernel
theorem dX11_ban_45 : decode cX11_ban 45 = .ok (.iload_n 3, 1) := by decide +kernel
theorem dX11_ban_46 : decode cX11_ban 46 = .ok (.iload_n 2, 1) := by decide +kernel
theorem dX11_ban_47 : decode cX11_ban 47 = .ok (.iadd, 1) := by decide +kernel
theorem dX11_ban_48 : decode cX11_ban 48 = .ok (.iaload, 1) := by decide +kernel
theorem dX11_ban_49 : decode cX11_ban 49 = .ok (.goto 13, 3) := by decide +kernel
theorem dX11_ban_52 : decode cX11_ban 52 = .ok (.aload_n 0, 1) := by decide +kernel
theorem dX11_ban_53 : decode cX11_ban 53 = .ok (.aload_n 0, 1) := by decide +kernel
theorem dX11_ban_54 : decode cX11_ban 54 = .ok (.getfield 7, 3) := by decide +kernel
theorem dX11_ban_57 : decode cX11_ban 57 = .ok (.iload_n 3, 1) := by decide +kernel
theorem dX11_ban_58 : decode cX11_ban 58 = .ok (.iaload, 1) := by decide +kernel
theorem dX11_ban_59 : decode cX11_ban 59 = .ok (.invokevirtual 444, 3) := by decide +kernel
theorem dX11_ban_62 : decode cX11_ban 62 = .ok (.ireturn, 1) := by decide +kernel
theorem dX11_word_0 : decode cX11_word 0 = .ok (.aload_n 0, 1) := by decide +kernel
theorem dX11_word_1 : decode cX11_word 1 = .ok (.iload_n 1, 1) := by decide +kernel
theorem dX11_word_2 : decode cX11_word 2 = .ok (.iconst 0, 1) := by decide +kernel
theorem dX11_word_3 : decode cX11_word 3 = .ok (.aload_n 0, 1) := by decide +kernel
theorem dX11_word_4 : decode cX11_word 4 = .ok (.getfield 7, 3) := by decide +kernel
theorem dX11_word_7 : decode cX11_word 7 = .ok (.bipush 9, 2) := by decide +kernel
theorem dX11_word_9 : decode cX11_word 9 = .ok (.iaload, 1) := by decide +kernel
theorem dX11_word_10 : decode cX11_word 10 = .ok (.iconst 1, 1) := by decide +kernel
theorem dX11_word_11 : decode cX11_word 11 = .ok (.isub, 1) := by decide +kernel
theorem dX11_word_12 : decode cX11_word 12 = .ok (.invokestatic 112, 3) := by decide +kernel
theorem dX11_word_15 : decode cX11_word 15 = .ok (.iload_n 2, 1) := by decide +kernel
theorem dX11_word_16 : decode cX11_word 16 = .ok (.iconst 0, 1) := by decide +kernel
theorem dX11_word_17 : decode cX11_word 17 = .ok (.iconst 5, 1) := by decide +kernel
theorem dX11_word_18 : decode cX11_word 18 = .ok (.invokestatic 112, 3) := by decide +kernel
theorem dX11_word_21 : decode cX11_word 21 = .ok (.invokevirtual 429, 3) := by decide +kernel
theorem dX11_word_24 : decode cX11_word 24 = .ok (.ifCond .ne 5, 3) := by decide +kernel
theorem dX11_word_27 : decode cX11_word 27 = .ok (.iconst 0, 1) := by decide +kernel
theorem dX11_word_28 : decode cX11_word 28 = .ok (.ireturn, 1) := by decide +kernel
theorem dX11_word_29 : decode cX11_word 29 = .ok (.aload_n 0, 1) := by decide +kernel
theorem dX11_word_30 : decode cX11_word 30 = .ok (.invokevirtual 212, 3) := by decide +kernel
theorem dX11_word_33 : decode cX11_word 33 = .ok (.istore_n 3, 1) := by decide +kernel
theorem dX11_word_34 : decode cX11_word 34 = .ok (.iload_n 2, 1) := by decide +kernel
theorem dX11_word_35 : decode cX11_word 35 = .ok (.tableswitch 66 0 4 #[33, 40, 46, 53, 60], 33) := by decide +kernel
theorem dX11_word_68 : decode cX11_word 68 = .ok (.aload_n 0, 1) := by decide +kernel
theorem dX11_word_69 : decode cX11_word 69 = .ok (.iload_n 1, 1) := by decide +kernel
theorem dX11_word_70 : decode cX11_word 70 = .ok (.iconst 1, 1) := by decide +kernel
theorem dX11_word_71 : decode cX11_word 71 = .ok (.invokevirtual 165, 3) := by decide +kernel
theorem dX11_word_74 : decode cX11_word 74 = .ok (.ireturn, 1) := by decide +kernel
theorem dX11_word_75 : decode cX11_word 75 = .ok (.aload_n 0, 1) := by decide +kernel
theorem dX11_word_76 : decode cX11_word 76 = .ok (.iload_n 1, 1) := by decide +kernel
theorem dX11_word_77 : decode cX11_word 77 = .ok (.invokevirtual 175, 3) := by decide +kernel
theorem dX11_word_80 : decode cX11_word 80 = .ok (.ireturn, 1) := by decide +kernel
theorem dX11_word_81 : decode cX11_word 81 = .ok (.aload_n 0, 1) := by decide +kernel
theorem dX11_word_82 : decode cX11_word 82 = .ok (.getfield 65, 3) := by decide +kernel
theorem dX11_word_85 : decode cX11_word 85 = .ok (.iload_n 1, 1) := by decide +kernel
theorem dX11_word_86 : decode cX11_word 86 = .ok (.iaload, 1) := by decide +kernel
theorem dX11_word_87 : decode cX11_word 87 = .ok (.ireturn, 1) := by decide +kernel
theorem dX11_word_88 : decode cX11_word 88 = .ok (.aload_n 0, 1) := by decide +kernel
theorem dX11_word_89 : decode cX11_word 89 = .ok (.getfield 68, 3) := by decide +kernel
theorem dX11_word_92 : decode cX11_word 92 = .ok (.iload_n 1, 1) := by decide +kernel
theorem dX11_word_93 : decode cX11_word 93 = .ok (.iaload, 1) := by decide +kernel
theorem dX11_word_94 : decode cX11_word 94 = .ok (.ireturn, 1) := by decide +kernel
theorem dX11_word_95 : decode cX11_word 95 = .ok (.aload_n 0, 1) := by decide +kernel
theorem dX11_word_96 : decode cX11_word 96 = .ok (.iload_n 1, 1) := by decide +kernel
theorem dX11_word_97 : decode cX11_word 97 = .ok (.invokevirtual 190, 3) := by decide +kernel
theorem dX11_word_100 : decode cX11_word 100 = .ok (.ireturn, 1) := by decide +kernel
theorem dX11_word_101 : decode cX11_word 101 = .ok (.aload_n 0, 1) := by decide +kernel
theorem dX11_word_102 : decode cX11_word 102 = .ok (.iload_n 1, 1) := by decide +kernel
theorem dX11_word_103 : decode cX11_word 103 = .ok (.invokevirtual 423, 3) := by decide +kernel
theorem dX11_word_106 : decode cX11_word 106 = .ok (.ireturn, 1) := by decide +kernel
theorem dX11_piece_0 : decode cX11_piece 0 = .ok (.aload_n 0, 1) := by decide +kernel
theorem dX11_piece_1 : decode cX11_piece 1 = .ok (.invokevirtual 209, 3) := by decide +kernel
theorem dX11_piece_4 : decode cX11_piece 4 = .ok (.aload_n 0, 1) := by decide +kernel
theorem dX11_piece_5 : decode cX11_piece 5 = .ok (.iload_n 1, 1) := by decide +kernel
theorem dX11_piece_6 : decode cX11_piece 6 = .ok (.iconst 0, 1) := by decide +kernel
theorem dX11_piece_7 : decode cX11_piece 7 = .ok (.aload_n 0, 1) := by decide +kernel
theorem dX11_piece_8 : decode cX11_piece 8 = .ok (.getfield 126, 3) := by decide +kernel
theorem dX11_piece_11 : decode cX11_piece 11 = .ok (.iconst 1, 1) := by decide +kernel
theorem dX11_piece_12 : decode cX11_piece 12 = .ok (.isub, 1) := by decide +kernel
theorem dX11_piece_13 : decode cX11_piece 13 = .ok (.invokestatic 112, 3) := by decide +kernel
theorem dX11_piece_16 : decode cX11_piece 16 = .ok (.iload_n 2, 1) := by decide +kernel
theorem dX11_piece_17 : decode cX11_piece 17 = .ok (.iconst 0, 1) := by decide +kernel
theorem dX11_piece_18 : decode cX11_piece 18 = .ok (.bipush 6, 2) := by decide +kernel
theorem dX11_piece_20 : decode cX11_piece 20 = .ok (.invokestatic 112, 3) := by decide +kernel
theorem dX11_piece_23 : decode cX11_piece 23 = .ok (.invokevirtual 429, 3) := by decide +kernel
theorem dX11_piece_26 : decode cX11_piece 26 = .ok (.ifCond .ne 5, 3) := by decide +kernel
theorem dX11_piece_29 : decode cX11_piece 29 = .ok (.iconst 0, 1) := by decide +kernel
theorem dX11_piece_30 : decode cX11_piece 30 = .ok (.ireturn, 1) := by decide +kernel
theorem dX11_piece_31 : decode cX11_piece 31 = .ok (.iload_n 2, 1) := by decide +kernel
theorem dX11_piece_32 : decode cX11_piece 32 = .ok (.tableswitch 81 0 5 #[40, 47, 54, 61, 68, 75], 40) := by decide +kernel
theorem dX11_piece_72 : decode cX11_piece 72 = .ok (.aload_n 0, 1) := by decide +kernel
theorem dX11_piece_73 : decode cX11_piece 73 = .ok (.getfield 29, 3) := by decide +kernel
theorem dX11_piece_76 : decode cX11_piece 76 = .ok (.iload_n 1, 1) := by decide +kernel
theorem dX11_piece_77 : decode cX11_piece 77 = .ok (.iaload, 1) := by decide +kernel
theorem dX11_piece_78 : decode cX11_piece 78 = .ok (.ireturn, 1) := by decide +kernel
theorem dX11_piece_79 : decode cX11_piece 79 = .ok (.aload_n 0, 1) := by decide +kernel
theorem dX11_piece_80 : decode cX11_piece 80 = .ok (.getfield 32, 3) := by decide +kernel
theorem dX11_piece_83 : decode cX11_piece 83 = .ok (.iload_n 1, 1) := by decide +kernel
theorem dX11_piece_84 : decode cX11_piece 84 = .ok (.iaload, 1) := by decide +kernel
theorem dX11_piece_85 : decode cX11_piece 85 = .ok (.ireturn, 1) := by decide +kernel
theorem dX11_piece_86 : decode cX11_piece 86 = .ok (.aload_n 0, 1) := by decide +kernel
theorem dX11_piece_87 : decode cX11_piece 87 = .ok (.getfield 35, 3) := by decide +kernel
theorem dX11_piece_90 : decode cX11_piece 90 = .ok (.iload_n 1, 1) := by decide +kernel
theorem dX11_piece_91 : decode cX11_piece 91 = .ok (.iaload, 1) := by decide +kernel
theorem dX11_piece_92 : decode cX11_piece 92 = .ok (.ireturn, 1) := by decide +kernel
theorem dX11_piece_93 : decode cX11_piece 93 = .ok (.aload_n 0, 1) := by decide +kernel
theorem dX11_piece_94 : decode cX11_piece 94 = .ok (.getfield 38, 3) := by decide +kernel
theorem dX11_piece_97 : decode cX11_piece 97 = .ok (.iload_n 1, 1) := by decide +kernel
theorem dX11_piece_98 : decode cX11_piece 98 = .ok (.iaload, 1) := by decide +kernel
theorem dX11_piece_99 : decode cX11_piece 99 = .ok (.ireturn, 1) := by decide +kernel
theorem dX11_piece_100 : decode cX11_piece 100 = .ok (.aload_n 0, 1) := by decide +kernel
theorem dX11_piece_101 : decode cX11_piece 101 = .ok (.getfield 41, 3) := by decide +kernel
theorem dX11_piece_104 : decode cX11_piece 104 = .ok (.iload_n 1, 1) := by decide +kernel
theorem dX11_piece_105 : decode cX11_piece 105 = .ok (.iaload, 1) := by decide +kernel
theorem dX11_piece_106 : decode cX11_piece 106 = .ok (.ireturn, 1) := by decide +kernel
theorem dX11_piece_107 : decode cX11_piece 107 = .ok (.aload_n 0, 1) := by decide +kernel
theorem dX11_piece_108 : decode cX11_piece 108 = .ok (.iload_n 1, 1) := by decide +kernel
theorem dX11_piece_109 : decode cX11_piece 109 = .ok (.invokevirtual 159, 3) := by decide +kernel
theorem dX11_piece_112 : decode cX11_piece 112 = .ok (.ireturn, 1) := by decide +kernel
theorem dX11_piece_113 : decode cX11_piece 113 = .ok (.aload_n 0, 1) := by decide +kernel
theorem dX11_piece_114 : decode cX11_piece 114 = .ok (.getfield 44, 3) := by decide +kernel
theorem dX11_piece_117 : decode cX11_piece 117 = .ok (.iload_n 1, 1) := by decide +kernel
theorem dX11_piece_118 : decode cX11_piece 118 = .ok (.iaload, 1) := by decide +kernel
theorem dX11_piece_119 : decode cX11_piece 119 = .ok (.ireturn, 1) := by decide +kernel
theorem dX11_longest_0 : decode cX11_longest 0 = .ok (.iconst 0, 1) := by decide +kernel
theorem dX11_longest_1 : decode cX11_longest 1 = .ok (.istore_n 1, 1) := by decide +kernel
theorem dX11_longest_2 : decode cX11_longest 2 = .ok (.iconst 0, 1) := by decide +kernel
theorem dX11_longest_3 : decode cX11_longest 3 = .ok (.istore_n 2, 1) := by decide +kernel
theorem dX11_longest_4 : decode cX11_longest 4 = .ok (.iload_n 2, 1) := by decide +kernel
theorem dX11_longest_5 : decode cX11_longest 5 = .ok (.aload_n 0, 1) := by decide +kernel
theorem dX11_longest_6 : decode cX11_longest 6 = .ok (.getfield 126, 3) := by decide +kernel
theorem dX11_longest_9 : decode cX11_longest 9 = .ok (.if_icmp .ge 20, 3) := by decide +kernel
theorem dX11_longest_12 : decode cX11_longest 12 = .ok (.iload_n 1, 1) := by decide +kernel
theorem dX11_longest_13 : decode cX11_longest 13 = .ok (.aload_n 0, 1) := by decide +kernel
theorem dX11_longest_14 : decode cX11_longest 14 = .ok (.getfield 38, 3) := by decide +kernel
theorem dX11_longest_17 : decode cX11_longest 17 = .ok (.iload_n 2, 1) := by decide +kernel
theorem dX11_longest_18 : decode cX11_longest 18 = .ok (.iaload, 1) := by decide +kernel
theorem dX11_longest_19 : decode cX11_longest 19 = .ok (.invokestatic 162, 3) := by decide +kernel
theorem dX11_longest_22 : decode cX11_longest 22 = .ok (.istore_n 1, 1) := by decide +kernel
theorem dX11_longest_23 : decode cX11_longest 23 = .ok (.iinc 2 1, 3) := by decide +kernel
theorem dX11_longest_26 : decode cX11_longest 26 = .ok (.goto (-22), 3) := by decide +kernel
theorem dX11_longest_29 : decode cX11_longest 29 = .ok (.iload_n 1, 1) := by decide +kernel
theorem dX11_longest_30 : decode cX11_longest 30 = .ok (.ireturn, 1) := by decide +kernel
theorem dX11_overlaps_0 : decode cX11_overlaps 0 = .ok (.iconst 0, 1) := by decide +kernel
theorem dX11_overlaps_1 : decode cX11_overlaps 1 = .ok (.istore_n 1, 1) := by decide +kernel
theorem dX11_overlaps_2 : decode cX11_overlaps 2 = .ok (.iconst 0, 1) := by decide +kernel
theorem dX11_overlaps_3 : decode cX11_overlaps 3 = .ok (.istore_n 2, 1) := by decide +kernel
theorem dX11_overlaps_4 : decode cX11_overlaps 4 = .ok (.iload_n 2, 1) := by decide +kernel
theorem dX11_overlaps_5 : decode cX11_overlaps 5 = .ok (.aload_n 0, 1) := by decide +kernel
theorem dX11_overlaps_6 : decode cX11_overlaps 6 = .ok (.getfield 126, 3) := by decide +kernel
theorem dX11_overlaps_9 : decode cX11_overlaps 9 = .ok (.if_icmp .ge 18, 3) := by decide +kernel
theorem dX11_overlaps_12 : decode cX11_overlaps 12 = .ok (.iload_n 1, 1) := by decide +kernel
theorem dX11_overlaps_13 : decode cX11_overlaps 13 = .ok (.aload_n 0, 1) := by decide +kernel
theorem dX11_overlaps_14 : decode cX11_overlaps 14 = .ok (.getfield 44, 3) := by decide +kernel
theorem dX11_overlaps_17 : decode cX11_overlaps 17 = .ok (.iload_n 2, 1) := by decide +kernel
theorem dX11_overlaps_18 : decode cX11_overlaps 18 = .ok (.iaload, 1) := by decide +kernel
theorem dX11_overlaps_19 : decode cX11_overlaps 19 = .ok (.iadd, 1) := by decide +kernel
theorem dX11_overlaps_20 : decode cX11_overlaps 20 = .ok (.istore_n 1, 1) := by decide +kernel
theorem dX11_overlaps_21 : decode cX11_overlaps 21 = .ok (.iinc 2 1, 3) := by decide +kernel
theorem dX11_overlaps_24 : decode cX11_overlaps 24 = .ok (.goto (-20), 3) := by decide +kernel
theorem dX11_overlaps_27 : decode cX11_overlaps 27 = .ok (.iload_n 1, 1) := by decide +kernel
theorem dX11_overlaps_28 : decode cX11_overlaps 28 = .ok (.ireturn, 1) := by decide +kernel
theorem dX11_reel_0 : decode cX11_reel 0 = .ok (.aload_n 0, 1) := by decide +kernel
theorem dX11_reel_1 : decode cX11_reel 1 = .ok (.iload_n 1, 1) := by decide +kernel
theorem dX11_reel_2 : decode cX11_reel 2 = .ok (.iconst 0, 1) := by decide +kernel
theorem dX11_reel_3 : decode cX11_reel 3 = .ok (.bipush 6, 2) := by decide +kernel
theorem dX11_reel_5 : decode cX11_reel 5 = .ok (.invokestatic 112, 3) := by decide +kernel
theorem dX11_reel_8 : decode cX11_reel 8 = .ok (.invokevirtual 239, 3) := by decide +kernel
theorem dX11_reel_11 : decode cX11_reel 11 = .ok (.ifCond .ne 5, 3) := by decide +kernel
theorem dX11_reel_14 : decode cX11_reel 14 = .ok (.iconst 0, 1) := by decide +kernel
theorem dX11_reel_15 : decode cX11_reel 15 = .ok (.ireturn, 1) := by decide +kernel
theorem dX11_reel_16 : decode cX11_reel 16 = .ok (.aload_n 0, 1) := by decide +kernel
theorem dX11_reel_17 : decode cX11_reel 17 = .ok (.invokevirtual 209, 3) := by decide +kernel
theorem dX11_reel_20 : decode cX11_reel 20 = .ok (.iload_n 1, 1) := by decide +kernel
theorem dX11_reel_21 : decode cX11_reel 21 = .ok (.tableswitch 74 0 5 #[39, 44, 49, 54, 64, 69], 39) := by decide +kernel
theorem dX11_reel_60 : decode cX11_reel 60 = .ok (.aload_n 0, 1) := by decide +kernel
theorem dX11_reel_61 : decode cX11_reel 61 = .ok (.getfield 126, 3) := by decide +kernel
theorem dX11_reel_64 : decode cX11_reel 64 = .ok (.ireturn, 1) := by decide +kernel
theorem dX11_reel_65 : decode cX11_reel 65 = .ok (.aload_n 0, 1) := by decide +kernel
theorem dX11_reel_66 : decode cX11_reel 66 = .ok (.invokevirtual 196, 3) := by decide +kernel
theorem dX11_reel_69 : decode cX11_reel 69 = .ok (.ireturn, 1) := by decide +kernel
theorem dX11_reel_70 : decode cX11_reel 70 = .ok (.aload_n 0, 1) := by decide +kernel
theorem dX11_reel_71 : decode cX11_reel 71 = .ok (.invokevirtual 212, 3) := by decide +kernel
theorem dX11_reel_74 : decode cX11_reel 74 = .ok (.ireturn, 1) := by decide +kernel
theorem dX11_reel_75 : decode cX11_reel 75 = .ok (.aload_n 0, 1) := by decide +kernel
theorem dX11_reel_76 : decode cX11_reel 76 = .ok (.invokevirtual 196, 3) := by decide +kernel
theorem dX11_reel_79 : decode cX11_reel 79 = .ok (.aload_n 0, 1) := by decide +kernel
theorem dX11_reel_80 : decode cX11_reel 80 = .ok (.invokevirtual 212, 3) := by decide +kernel
theorem dX11_reel_83 : decode cX11_reel 83 = .ok (.isub, 1) := by decide +kernel
theorem dX11_reel_84 : decode cX11_reel 84 = .ok (.ireturn, 1) := by decide +kernel
theorem dX11_reel_85 : decode cX11_reel 85 = .ok (.aload_n 0, 1) := by decide +kernel
theorem dX11_reel_86 : decode cX11_reel 86 = .ok (.invokevirtual 447, 3) := by decide +kernel
theorem dX11_reel_89 : decode cX11_reel 89 = .ok (.ireturn, 1) := by decide +kernel
theorem dX11_reel_90 : decode cX11_reel 90 = .ok (.aload_n 0, 1) := by decide +kernel
theorem dX11_reel_91 : decode cX11_reel 91 = .ok (.invokevirtual 450, 3) := by decide +kernel
theorem dX11_reel_94 : decode cX11_reel 94 = .ok (.ireturn, 1) := by decide +kernel
theorem dX11_reel_95 : decode cX11_reel 95 = .ok (.aload_n 0, 1) := by decide +kernel
theorem dX11_reel_96 : decode cX11_reel 96 = .ok (.invokevirtual 453, 3) := by decide +kernel
theorem dX11_reel_99 : decode cX11_reel 99 = .ok (.ireturn, 1) := by decide +kernel
theorem dX11_screen_0 : decode cX11_screen 0 = .ok (.aload_n 0, 1) := by decide +kernel
theorem dX11_screen_1 : decode cX11_screen 1 = .ok (.iconst 0, 1) := by decide +kernel
theorem dX11_screen_2 : decode cX11_screen 2 = .ok (.putfield 105, 3) := by decide +kernel
theorem dX11_screen_5 : decode cX11_screen 5 = .ok (.aload_n 0, 1) := by decide +kernel
theorem dX11_screen_6 : decode cX11_screen 6 = .ok (.invokevirtual 209, 3) := by decide +kernel
theorem dX11_screen_9 : decode cX11_screen 9 = .ok (.aload_n 0, 1) := by decide +kernel
theorem dX11_screen_10 : decode cX11_screen 10 = .ok (.iload_n 1, 1) := by decide +kernel
theorem dX11_screen_11 : decode cX11_screen 11 = .ok (.invokevirtual 181, 3) := by decide +kernel
theorem dX11_screen_14 : decode cX11_screen 14 = .ok (.ireturn, 1) := by decide +kernel
theorem dX11_spoken_0 : decode cX11_spoken 0 = .ok (.aload_n 0, 1) := by decide +kernel
theorem dX11_spoken_1 : decode cX11_spoken 1 = .ok (.iconst 0, 1) := by decide +kernel
theorem dX11_spoken_2 : decode cX11_spoken 2 = .ok (.putfield 105, 3) := by decide +kernel
theorem dX11_spoken_5 : decode cX11_spoken 5 = .ok (.aload_n 0, 1) := by decide +kernel
theorem dX11_spoken_6 : decode cX11_spoken 6 = .ok (.invokevirtual 212, 3) := by decide +kernel
theorem dX11_spoken_9 : decode cX11_spoken 9 = .ok (.istore_n 2, 1) := by decide +kernel
theorem dX11_spoken_10 : decode cX11_spoken 10 = .ok (.iconst 0, 1) := by decide +kernel
theorem dX11_spoken_11 : decode cX11_spoken 11 = .ok (.istore_n 3, 1) := by decide +kernel
theorem dX11_spoken_12 : decode cX11_spoken 12 = .ok (.iload_n 3, 1) := by decide +kernel
theorem dX11_spoken_13 : decode cX11_spoken 13 = .ok (.aload_n 0, 1) := by decide +kernel
theorem dX11_spoken_14 : decode cX11_spoken 14 = .ok (.getfield 7, 3) := by decide +kernel
theorem dX11_spoken_17 : decode cX11_spoken 17 = .ok (.bipush 9, 2) := by decide +kernel
theorem dX11_spoken_19 : decode cX11_spoken 19 = .ok (.iaload, 1) := by decide +kernel
theorem dX11_spoken_20 : decode cX11_spoken 20 = .ok (.if_icmp .ge 37, 3) := by decide +kernel
theorem dX11_spoken_23 : decode cX11_spoken 23 = .ok (.iload_n 1, 1) := by decide +kernel
theorem dX11_spoken_24 : decode cX11_spoken 24 = .ok (.iload_n 2, 1) := by decide +kernel
theorem dX11_spoken_25 : decode cX11_spoken 25 = .ok (.if_icmp .ge 32, 3) := by decide +kernel
theorem dX11_spoken_28 : decode cX11_spoken 28 = .ok (.iload_n 1, 1) := by decide +kernel
theorem dX11_spoken_29 : decode cX11_spoken 29 = .ok (.aload_n 0, 1) := by decide +kernel
theorem dX11_spoken_30 : decode cX11_spoken 30 = .ok (.getfield 65, 3) := by decide +kernel
theorem dX11_spoken_33 : decode cX11_spoken 33 = .ok (.iload_n 3, 1) := by decide +kernel
theorem dX11_spoken_34 : decode cX11_spoken 34 = .ok (.iaload, 1) := by decide +kernel
theorem dX11_spoken_35 : decode cX11_spoken 35 = .ok (.aload_n 0, 1) := by decide +kernel
theorem dX11_spoken_36 : decode cX11_spoken 36 = .ok (.getfield 68, 3) := by decide +kernel
theorem dX11_spoken_39 : decode cX11_spoken 39 = .ok (.iload_n 3, 1) := by decide +kernel
theorem dX11_spoken_40 : decode cX11_spoken 40 = .ok (.iaload, 1) := by decide +kernel
theorem dX11_spoken_41 : decode cX11_spoken 41 = .ok (.iconst 1, 1) := by decide +kernel
theorem dX11_spoken_42 : decode cX11_spoken 42 = .ok (.isub, 1) := by decide +kernel
theorem dX11_spoken_43 : decode cX11_spoken 43 = .ok (.invokestatic 112, 3) := by decide +kernel
theorem dX11_spoken_46 : decode cX11_spoken 46 = .ok (.ifCond .eq 5, 3) := by decide +kernel
theorem dX11_spoken_49 : decode cX11_spoken 49 = .ok (.iload_n 3, 1) := by decide +kernel
theorem dX11_spoken_50 : decode cX11_spoken 50 = .ok (.ireturn, 1) := by decide +kernel
theorem dX11_spoken_51 : decode cX11_spoken 51 = .ok (.iinc 3 1, 3) := by decide +kernel
theorem dX11_spoken_54 : decode cX11_spoken 54 = .ok (.goto (-42), 3) := by decide +kernel
theorem dX11_spoken_57 : decode cX11_spoken 57 = .ok (.iconst (-1), 1) := by decide +kernel
theorem dX11_spoken_58 : decode cX11_spoken 58 = .ok (.ireturn, 1) := by decide +kernel
theorem dX11_account_0 : decode cX11_account 0 = .ok (.aload_n 0, 1) := by decide +kernel
theorem dX11_account_1 : decode cX11_account 1 = .ok (.iload_n 1, 1) := by decide +kernel
theorem dX11_account_2 : decode cX11_account 2 = .ok (.iconst 0, 1) := by decide +kernel
theorem dX11_account_3 : decode cX11_account 3 = .ok (.bipush 6, 2) := by decide +kernel
theorem dX11_account_5 : decode cX11_account 5 = .ok (.invokestatic 112, 3) := by decide +kernel
theorem dX11_account_8 : decode cX11_account 8 = .ok (.invokevirtual 239, 3) := by decide +kernel
theorem dX11_account_11 : decode cX11_account 11 = .ok (.ifCond .eq 12, 3) := by decide +kernel
theorem dX11_account_14 : decode cX11_account 14 = .ok (.aload_n 0, 1) := by decide +kernel
theorem dX11_account_15 : decode cX11_account 15 = .ok (.getfield 22, 3) := by decide +kernel
theorem dX11_account_18 : decode cX11_account 18 = .ok (.iload_n 1, 1) := by decide +kernel
theorem dX11_account_19 : decode cX11_account 19 = .ok (.iaload, 1) := by decide +kernel
theorem dX11_account_20 : decode cX11_account 20 = .ok (.goto 4, 3) := by decide +kernel
theorem dX11_account_23 : decode cX11_account 23 = .ok (.iconst 0, 1) := by decide +kernel
theorem dX11_account_24 : decode cX11_account 24 = .ok (.ireturn, 1) := by decide +kernel
theorem dX11_faults_0 : decode cX11_faults 0 = .ok (.aload_n 0, 1) := by decide +kernel
theorem dX11_faults_1 : decode cX11_faults 1 = .ok (.iload_n 1, 1) := by decide +kernel
theorem dX11_faults_2 : decode cX11_faults 2 = .ok (.iconst 0, 1) := by decide +kernel
theorem dX11_faults_3 : decode cX11_faults 3 = .ok (.iconst 5, 1) := by decide +kernel
theorem dX11_faults_4 : decode cX11_faults 4 = .ok (.invokestatic 112, 3) := by decide +kernel
theorem dX11_faults_7 : decode cX11_faults 7 = .ok (.invokevirtual 239, 3) := by decide +kernel
theorem dX11_faults_10 : decode cX11_faults 10 = .ok (.ifCond .ne 5, 3) := by decide +kernel
theorem dX11_faults_13 : decode cX11_faults 13 = .ok (.iconst 0, 1) := by decide +kernel
theorem dX11_faults_14 : decode cX11_faults 14 = .ok (.ireturn, 1) := by decide +kernel
theorem dX11_faults_15 : decode cX11_faults 15 = .ok (.aload_n 0, 1) := by decide +kernel
theorem dX11_faults_16 : decode cX11_faults 16 = .ok (.invokevirtual 456, 3) := by decide +kernel
theorem dX11_faults_19 : decode cX11_faults 19 = .ok (.istore_n 2, 1) := by decide +kernel
theorem dX11_faults_20 : decode cX11_faults 20 = .ok (.iload_n 1, 1) := by decide +kernel
theorem dX11_faults_21 : decode cX11_faults 21 = .ok (.ifCond .ne 7, 3) := by decide +kernel
theorem dX11_faults_24 : decode cX11_faults 24 = .ok (.iload_n 2, 1) := by decide +kernel
theorem dX11_faults_25 : decode cX11_faults 25 = .ok (.goto 12, 3) := by decide +kernel
theorem dX11_faults_28 : decode cX11_faults 28 = .ok (.aload_n 0, 1) := by decide +kernel
theorem dX11_faults_29 : decode cX11_faults 29 = .ok (.iload_n 1, 1) := by decide +kernel
theorem dX11_faults_30 : decode cX11_faults 30 = .ok (.aload_n 0, 1) := by decide +kernel
theorem dX11_faults_31 : decode cX11_faults 31 = .ok (.invokevirtual 212, 3) := by decide +kernel
theorem dX11_faults_34 : decode cX11_faults 34 = .ok (.invokevirtual 215, 3) := by decide +kernel
theorem dX11_faults_37 : decode cX11_faults 37 = .ok (.ireturn, 1) := by decide +kernel
theorem dX11_fault_0 : decode cX11_fault 0 = .ok (.aload_n 0, 1) := by decide +kernel
theorem dX11_fault_1 : decode cX11_fault 1 = .ok (.iload_n 1, 1) := by decide +kernel
theorem dX11_fault_2 : decode cX11_fault 2 = .ok (.iconst 0, 1) := by decide +kernel
theorem dX11_fault_3 : decode cX11_fault 3 = .ok (.aload_n 0, 1) := by decide +kernel
theorem dX11_fault_4 : decode cX11_fault 4 = .ok (.invokevirtual 456, 3) := by decide +kernel
theorem dX11_fault_7 : decode cX11_fault 7 = .ok (.iconst 1, 1) := by decide +kernel
theorem dX11_fault_8 : decode cX11_fault 8 = .ok (.isub, 1) := by decide +kernel
theorem dX11_fault_9 : decode cX11_fault 9 = .ok (.invokestatic 112, 3) := by decide +kernel
theorem dX11_fault_12 : decode cX11_fault 12 = .ok (.iload_n 2, 1) := by decide +kernel
theorem dX11_fault_13 : decode cX11_fault 13 = .ok (.iconst 0, 1) := by decide +kernel
theorem dX11_fault_14 : decode cX11_fault 14 = .ok (.iconst 1, 1) := by decide +kernel
theorem dX11_fault_15 : decode cX11_fault 15 = .ok (.invokestatic 112, 3) := by decide +kernel
theorem dX11_fault_18 : decode cX11_fault 18 = .ok (.invokevirtual 429, 3) := by decide +kernel
theorem dX11_fault_21 : decode cX11_fault 21 = .ok (.ifCond .ne 5, 3) := by decide +kernel
theorem dX11_fault_24 : decode cX11_fault 24 = .ok (.iconst 0, 1) := by decide +kernel
theorem dX11_fault_25 : decode cX11_fault 25 = .ok (.ireturn, 1) := by decide +kernel
theorem dX11_fault_26 : decode cX11_fault 26 = .ok (.aload_n 0, 1) := by decide +kernel
theorem dX11_fault_27 : decode cX11_fault 27 = .ok (.invokevirtual 212, 3) := by decide +kernel
theorem dX11_fault_30 : decode cX11_fault 30 = .ok (.istore_n 3, 1) := by decide +kernel
theorem dX11_fault_31 : decode cX11_fault 31 = .ok (.iload_n 1, 1) := by decide +kernel
theorem dX11_fault_32 : decode cX11_fault 32 = .ok (.istore 4, 2) := by decide +kernel
theorem dX11_fault_34 : decode cX11_fault 34 = .ok (.iconst 1, 1) := by decide +kernel
theorem dX11_fault_35 : decode cX11_fault 35 = .ok (.istore 5, 2) := by decide +kernel
theorem dX11_fault_37 : decode cX11_fault 37 = .ok (.iload 4, 2) := by decide +kernel
theorem dX11_fault_39 : decode cX11_fault 39 = .ok (.aload_n 0, 1) := by decide +kernel
theorem dX11_fault_40 : decode cX11_fault 40 = .ok (.iload 5, 2) := by decide +kernel
theorem dX11_fault_42 : decode cX11_fault 42 = .ok (.iload_n 3, 1) := by decide +kernel
theorem dX11_fault_43 : decode cX11_fault 43 = .ok (.invokevirtual 215, 3) := by decide +kernel
theorem dX11_fault_46 : decode cX11_fault 46 = .ok (.if_icmp .lt 21, 3) := by decide +kernel
theorem dX11_fault_49 : decode cX11_fault 49 = .ok (.iload 4, 2) := by decide +kernel
theorem dX11_fault_51 : decode cX11_fault 51 = .ok (.aload_n 0, 1) := by decide +kernel
theorem dX11_fault_52 : decode cX11_fault 52 = .ok (.iload 5, 2) := by decide +kernel
theorem dX11_fault_54 : decode cX11_fault 54 = .ok (.iload_n 3, 1) := by decide +kernel
theorem dX11_fault_55 : decode cX11_fault 55 = .ok (.invokevirtual 215, 3) := by decide +kernel
theorem dX11_fault_58 : decode cX11_fault 58 = .ok (.isub, 1) := by decide +kernel
theorem dX11_fault_59 : decode cX11_fault 59 = .ok (.istore 4, 2) := by decide +kernel
theorem dX11_fault_61 : decode cX11_fault 61 = .ok (.iinc 5 1, 3) := by decide +kernel
theorem dX11_fault_64 : decode cX11_fault 64 = .ok (.goto (-27), 3) := by decide +kernel
theorem dX11_fault_67 : decode cX11_fault 67 = .ok (.iconst 0, 1) := by decide +kernel
theorem dX11_fault_68 : decode cX11_fault 68 = .ok (.istore 6, 2) := by decide +kernel
theorem dX11_fault_70 : decode cX11_fault 70 = .ok (.aload_n 0, 1) := by decide +kernel
theorem dX11_fault_71 : decode cX11_fault 71 = .ok (.iload 5, 2) := by decide +kernel
theorem dX11_fault_73 : decode cX11_fault 73 = .ok (.iload 6, 2) := by decide +kernel
theorem dX11_fault_75 : decode cX11_fault 75 = .ok (.iload_n 3, 1) := by decide +kernel
theorem dX11_fault_76 : decode cX11_fault 76 = .ok (.invokevirtual 206, 3) := by decide +kernel
theorem dX11_fault_79 : decode cX11_fault 79 = .ok (.ifCond .eq 8, 3) := by decide +kernel
theorem dX11_fault_82 : decode cX11_fault 82 = .ok (.iload 4, 2) := by decide +kernel
theorem dX11_fault_84 : decode cX11_fault 84 = .ok (.ifCond .le 26, 3) := by decide +kernel
theorem dX11_fault_87 : decode cX11_fault 87 = .ok (.iload 4, 2) := by decide +kernel
theorem dX11_fault_89 : decode cX11_fault 89 = .ok (.aload_n 0, 1) := by decide +kernel
theorem dX11_fault_90 : decode cX11_fault 90 = .ok (.iload 5, 2) := by decide +kernel
theorem dX11_fault_92 : decode cX11_fault 92 = .ok (.iload 6, 2) := by decide +kernel
theorem dX11_fault_94 : decode cX11_fault 94 = .ok (.iload_n 3, 1) := by decide +kernel
theorem dX11_fault_95 : decode cX11_fault 95 = .ok (.invokevirtual 206, 3) := by decide +kernel
theorem dX11_fault_98 : decode cX11_fault 98 = .ok (.invokestatic 133, 3) := by decide +kernel
theorem dX11_fault_101 : decode cX11_fault 101 = .ok (.isub, 1) := by decide +kernel
theorem dX11_fault_102 : decode cX11_fault 102 = .ok (.istore 4, 2) := by decide +kernel
theorem dX11_fault_104 : decode cX11_fault 104 = .ok (.iinc 6 1, 3) := by decide +kernel
theorem dX11_fault_107 : decode cX11_fault 107 = .ok (.goto (-37), 3) := by decide +kernel
theorem dX11_fault_110 : decode cX11_fault 110 = .ok (.iload_n 2, 1) := by decide +kernel
theorem dX11_fault_111 : decode cX11_fault 111 = .ok (.ifCond .ne 8, 3) := by decide +kernel
theorem dX11_fault_114 : decode cX11_fault 114 = .ok (.iload 5, 2) := by decide +kernel
theorem dX11_fault_116 : decode cX11_fault 116 = .ok (.goto 15, 3) := by decide +kernel
theorem dX11_fault_119 : decode cX11_fault 119 = .ok (.iload 5, 2) := by decide +kernel
theorem dX11_fault_121 : decode cX11_fault 121 = .ok (.iconst 5, 1) := by decide +kernel
theorem dX11_fault_122 : decode cX11_fault 122 = .ok (.if_icmp .ne 7, 3) := by decide +kernel
theorem dX11_fault_125 : decode cX11_fault 125 = .ok (.iconst (-1), 1) := by decide +kernel
theorem dX11_fault_126 : decode cX11_fault 126 = .ok (.goto 5, 3) := by decide +kernel
theorem dX11_fault_129 : decode cX11_fault 129 = .ok (.iload 6, 2) := by decide +kernel
theorem dX11_fault_131 : decode cX11_fault 131 = .ok (.ireturn, 1) := by decide +kernel
theorem dX11_fits_0 : decode cX11_fits 0 = .ok (.aload_n 0, 1) := by decide +kernel
theorem dX11_fits_1 : decode cX11_fits 1 = .ok (.iconst 0, 1) := by decide +kernel
theorem dX11_fits_2 : decode cX11_fits 2 = .ok (.putfield 105, 3) := by decide +kernel
theorem dX11_fits_5 : decode cX11_fits 5 = .ok (.aload_n 0, 1) := by decide +kernel
theorem dX11_fits_6 : decode cX11_fits 6 = .ok (.invokevirtual 456, 3) := by decide +kernel
theorem dX11_fits_9 : decode cX11_fits 9 = .ok (.ifCond .ne 7, 3) := by decide +kernel
theorem dX11_fits_12 : decode cX11_fits 12 = .ok (.iconst 1, 1) := by decide +kernel
theorem dX11_fits_13 : decode cX11_fits 13 = .ok (.goto 4, 3) := by decide +kernel
theorem dX11_fits_16 : decode cX11_fits 16 = .ok (.iconst 0, 1) := by decide +kernel
theorem dX11_fits_17 : decode cX11_fits 17 = .ok (.ireturn, 1) := by decide +kernel
theorem dX11_isBy_0 : decode cX11_isBy 0 = .ok (.aload_n 0, 1) := by decide +kernel
theorem dX11_isBy_1 : decode cX11_isBy 1 = .ok (.iload_n 2, 1) := by decide +kernel
theorem dX11_isBy_2 : decode cX11_isBy 2 = .ok (.invokevirtual 181, 3) := by decide +kernel
theorem dX11_isBy_5 : decode cX11_isBy 5 = .ok (.istore_n 3, 1) := by decide +kernel
theorem dX11_isBy_6 : decode cX11_isBy 6 = .ok (.iload_n 3, 1) := by decide +kernel
theorem dX11_isBy_7 : decode cX11_isBy 7 = .ok (.iconst (-1), 1) := by decide +kernel
theorem dX11_isBy_8 : decode cX11_isBy 8 = .ok (.if_icmp .eq 29, 3) := by decide +kernel
theorem dX11_isBy_11 : decode cX11_isBy 11 = .ok (.aload_n 0, 1) := by decide +kernel
theorem dX11_isBy_12 : decode cX11_isBy 12 = .ok (.iload_n 3, 1) := by decide +kernel
theorem dX11_isBy_13 : decode cX11_isBy 13 = .ok (.invokevirtual 184, 3) := by decide +kernel
theorem dX11_isBy_16 : decode cX11_isBy 16 = .ok (.ifCond .eq 21, 3) := by decide +kernel
theorem dX11_isBy_19 : decode cX11_isBy 19 = .ok (.aload_n 0, 1) := by decide +kernel
theorem dX11_isBy_20 : decode cX11_isBy 20 = .ok (.aload_n 0, 1) := by decide +kernel
theorem dX11_isBy_21 : decode cX11_isBy 21 = .ok (.getfield 32, 3) := by decide +kernel
theorem dX11_isBy_24 : decode cX11_isBy 24 = .ok (.iload_n 3, 1) := by decide +kernel
theorem dX11_isBy_25 : decode cX11_isBy 25 = .ok (.iaload, 1) := by decide +kernel
theorem dX11_isBy_26 : decode cX11_isBy 26 = .ok (.invokevirtual 108, 3) := by decide +kernel
theorem dX11_isBy_29 : decode cX11_isBy 29 = .ok (.iload_n 1, 1) := by decide +kernel
theorem dX11_isBy_30 : decode cX11_isBy 30 = .ok (.if_icmp .ne 7, 3) := by decide +kernel
theorem dX11_isBy_33 : decode cX11_isBy 33 = .ok (.iconst 1, 1) := by decide +kernel
theorem dX11_isBy_34 : decode cX11_isBy 34 = .ok (.goto 4, 3) := by decide +kernel
theorem dX11_isBy_37 : decode cX11_isBy 37 = .ok (.iconst 0, 1) := by decide +kernel
theorem dX11_isBy_38 : decode cX11_isBy 38 = .ok (.ireturn, 1) := by decide +kernel
theorem dX11_share_0 : decode cX11_share 0 = .ok (.aload_n 0, 1) := by decide +kernel
theorem dX11_share_1 : decode cX11_share 1 = .ok (.iload_n 1, 1) := by decide +kernel
theorem dX11_share_2 : decode cX11_share 2 = .ok (.iconst 0, 1) := by decide +kernel
theorem dX11_share_3 : decode cX11_share 3 = .ok (.iconst 5, 1) := by decide +kernel
theorem dX11_share_4 : decode cX11_share 4 = .ok (.invokestatic 112, 3) := by decide +kernel
theorem dX11_share_7 : decode cX11_share 7 = .ok (.invokevirtual 239, 3) := by decide +kernel
theorem dX11_share_10 : decode cX11_share 10 = .ok (.ifCond .ne 5, 3) := by decide +kernel
theorem dX11_share_13 : decode cX11_share 13 = .ok (.dconst 0, 1) := by decide +kernel
theorem dX11_share_14 : decode cX11_share 14 = .ok (.dreturn, 1) := by decide +kernel
theorem dX11_share_15 : decode cX11_share 15 = .ok (.aload_n 0, 1) := by decide +kernel
theorem dX11_share_16 : decode cX11_share 16 = .ok (.invokevirtual 209, 3) := by decide +kernel
theorem dX11_share_19 : decode cX11_share 19 = .ok (.aload_n 0, 1) := by decide +kernel
theorem dX11_share_20 : decode cX11_share 20 = .ok (.invokevirtual 196, 3) := by decide +kernel
theorem dX11_share_23 : decode cX11_share 23 = .ok (.istore_n 2, 1) := by decide +kernel
theorem dX11_share_24 : decode cX11_share 24 = .ok (.iconst 0, 1) := by decide +kernel
theorem dX11_share_25 : decode cX11_share 25 = .ok (.istore_n 3, 1) := by decide +kernel
theorem dX11_share_26 : decode cX11_share 26 = .ok (.iconst 0, 1) := by decide +kernel
theorem dX11_share_27 : decode cX11_share 27 = .ok (.istore 4, 2) := by decide +kernel
theorem dX11_share_29 : decode cX11_share 29 = .ok (.iload 4, 2) := by decide +kernel
theorem dX11_share_31 : decode cX11_share 31 = .ok (.iload_n 2, 1) := by decide +kernel
theorem dX11_share_32 : decode cX11_share 32 = .ok (.if_icmp .ge 22, 3) := by decide +kernel
theorem dX11_share_35 : decode cX11_share 35 = .ok (.iload_n 3, 1) := by decide +kernel
theorem dX11_share_36 : decode cX11_share 36 = .ok (.aload_n 0, 1) := by decide +kernel
theorem dX11_share_37 : decode cX11_share 37 = .ok (.iload_n 1, 1) := by decide +kernel
theorem dX11_share_38 : decode cX11_share 38 = .ok (.iload 4, 2) := by decide +kernel
theorem dX11_share_40 : decode cX11_share 40 = .ok (.invokevirtual 459, 3) := by decide +kernel
theorem dX11_share_43 : decode cX11_share 43 = .ok (.invokestatic 133, 3) := by decide +kernel
theorem dX11_share_46 : decode cX11_share 46 = .ok (.iadd, 1) := by decide +kernel
theorem dX11_share_47 : decode cX11_share 47 = .ok (.istore_n 3, 1) := by decide +kernel
theorem dX11_share_48 : decode cX11_share 48 = .ok (.iinc 4 1, 3) := by decide +kernel
theorem dX11_share_51 : decode cX11_share 51 = .ok (.goto (-22), 3) := by decide +kernel
theorem dX11_share_54 : decode cX11_share 54 = .ok (.iload_n 2, 1) := by decide +kernel
theorem dX11_share_55 : decode cX11_share 55 = .ok (.ifCond .ne 7, 3) := by decide +kernel
theorem dX11_share_58 : decode cX11_share 58 = .ok (.dconst 0, 1) := by decide +kernel
theorem dX11_share_59 : decode cX11_share 59 = .ok (.goto 8, 3) := by decide +kernel
theorem dX11_share_62 : decode cX11_share 62 = .ok (.iload_n 3, 1) := by decide +kernel
theorem dX11_share_63 : decode cX11_share 63 = .ok (.i2d, 1) := by decide +kernel
theorem dX11_share_64 : decode cX11_share 64 = .ok (.iload_n 2, 1) := by decide +kernel
theorem dX11_share_65 : decode cX11_share 65 = .ok (.i2d, 1) := by decide +kernel
theorem dX11_share_66 : decode cX11_share 66 = .ok (.ddiv, 1) := by decide +kernel
theorem dX11_share_67 : decode cX11_share 67 = .ok (.dreturn, 1) := by decide +kernel
theorem dX11_pace_0 : decode cX11_pace 0 = .ok (.aload_n 0, 1) := by decide +kernel
theorem dX11_pace_1 : decode cX11_pace 1 = .ok (.iconst 0, 1) := by decide +kernel
theorem dX11_pace_2 : decode cX11_pace 2 = .ok (.putfield 105, 3) := by decide +kernel
theorem dX11_pace_5 : decode cX11_pace 5 = .ok (.aload_n 0, 1) := by decide +kernel
theorem dX11_pace_6 : decode cX11_pace 6 = .ok (.getfield 7, 3) := by decide +kernel
theorem dX11_pace_9 : decode cX11_pace 9 = .ok (.bipush 9, 2) := by decide +kernel
theorem dX11_pace_11 : decode cX11_pace 11 = .ok (.iaload, 1) := by decide +kernel
theorem dX11_pace_12 : decode cX11_pace 12 = .ok (.ifCond .ne 7, 3) := by decide +kernel
theorem dX11_pace_15 : decode cX11_pace 15 = .ok (.fconst 0, 1) := by decide +kernel
theorem dX11_pace_16 : decode cX11_pace 16 = .ok (.goto 17, 3) := by decide +kernel
theorem dX11_pace_19 : decode cX11_pace 19 = .ok (.aload_n 0, 1) := by decide +kernel
theorem dX11_pace_20 : decode cX11_pace 20 = .ok (.invokevirtual 420, 3) := by decide +kernel
theorem dX11_pace_23 : decode cX11_pace 23 = .ok (.i2f, 1) := by decide +kernel
theorem dX11_pace_24 : decode cX11_pace 24 = .ok (.aload_n 0, 1) := by decide +kernel
theorem dX11_pace_25 : decode cX11_pace 25 = .ok (.getfield 7, 3) := by decide +kernel
theorem dX11_pace_28 : decode cX11_pace 28 = .ok (.bipush 9, 2) := by decide +kernel
theorem dX11_pace_30 : decode cX11_pace 30 = .ok (.iaload, 1) := by decide +kernel
theorem dX11_pace_31 : decode cX11_pace 31 = .ok (.i2f, 1) := by decide +kernel
theorem dX11_pace_32 : decode cX11_pace 32 = .ok (.fdiv, 1) := by decide +kernel
theorem dX11_pace_33 : decode cX11_pace 33 = .ok (.freturn, 1) := by decide +kernel
theorem dX11_best_0 : decode cX11_best 0 = .ok (.aload_n 0, 1) := by decide +kernel
theorem dX11_best_1 : decode cX11_best 1 = .ok (.iload_n 1, 1) := by decide +kernel
theorem dX11_best_2 : decode cX11_best 2 = .ok (.iconst 0, 1) := by decide +kernel
theorem dX11_best_3 : decode cX11_best 3 = .ok (.iconst 2, 1) := by decide +kernel
theorem dX11_best_4 : decode cX11_best 4 = .ok (.invokestatic 112, 3) := by decide +kernel
theorem dX11_best_7 : decode cX11_best 7 = .ok (.invokevirtual 239, 3) := by decide +kernel
theorem dX11_best_10 : decode cX11_best 10 = .ok (.ifCond .ne 5, 3) := by decide +kernel
theorem dX11_best_13 : decode cX11_best 13 = .ok (.iconst 0, 1) := by decide +kernel
theorem dX11_best_14 : decode cX11_best 14 = .ok (.ireturn, 1) := by decide +kernel
theorem dX11_best_15 : decode cX11_best 15 = .ok (.aload_n 0, 1) := by decide +kernel
theorem dX11_best_16 : decode cX11_best 16 = .ok (.invokevirtual 462, 3) := by decide +kernel
theorem dX11_best_19 : decode cX11_best 19 = .ok (.aload_n 0, 1) := by decide +kernel
theorem dX11_best_20 : decode cX11_best 20 = .ok (.aload_n 0, 1) := by decide +kernel
theorem dX11_best_21 : decode cX11_best 21 = .ok (.getfield 7, 3) := by decide +kernel
theorem dX11_best_24 : decode cX11_best 24 = .ok (.iconst 0, 1) := by decide +kernel
theorem dX11_best_25 : decode cX11_best 25 = .ok (.iaload, 1) := by decide +kernel
theorem dX11_best_26 : decode cX11_best 26 = .ok (.aload_n 0, 1) := by decide +kernel
theorem dX11_best_27 : decode cX11_best 27 = .ok (.invokevirtual 212, 3) := by decide +kernel
theorem dX11_best_30 : decode cX11_best 30 = .ok (.invokevirtual 465, 3) := by decide +kernel
theorem dX11_best_33 : decode cX11_best 33 = .ok (.ifCond .ne 5, 3) := by decide +kernel
theorem dX11_best_36 : decode cX11_best 36 = .ok (.iconst (-1), 1) := by decide +kernel
theorem dX11_best_37 : decode cX11_best 37 = .ok (.ireturn, 1) := by decide +kernel
theorem dX11_best_38 : decode cX11_best 38 = .ok (.iload_n 1, 1) := by decide +kernel
theorem dX11_best_39 : decode cX11_best 39 = .ok (.ifCond .ne 10, 3) := by decide +kernel
theorem dX11_best_42 : decode cX11_best 42 = .ok (.aload_n 0, 1) := by decide +kernel
theorem dX11_best_43 : decode cX11_best 43 = .ok (.getfield 221, 3) := by decide +kernel
theorem dX11_best_46 : decode cX11_best 46 = .ok (.goto 22, 3) := by decide +kernel
theorem dX11_best_49 : decode cX11_best 49 = .ok (.iload_n 1, 1) := by decide +kernel
theorem dX11_best_50 : decode cX11_best 50 = .ok (.iconst 1, 1) := by decide +kernel
theorem dX11_best_51 : decode cX11_best 51 = .ok (.if_icmp .ne 10, 3) := by decide +kernel
theorem dX11_best_54 : decode cX11_best 54 = .ok (.aload_n 0, 1) := by decide +kernel
theorem dX11_best_55 : decode cX11_best 55 = .ok (.getfield 224, 3) := by decide +kernel
theorem dX11_best_58 : decode cX11_best 58 = .ok (.goto 10, 3) := by decide +kernel
theorem dX11_best_61 : decode cX11_best 61 = .ok (.aload_n 0, 1) := by decide +kernel
theorem dX11_best_62 : decode cX11_best 62 = .ok (.getfield 221, 3) := by decide +kernel
theorem dX11_best_65 : decode cX11_best 65 = .ok (.invokestatic 227, 3) := by decide +kernel
theorem dX11_best_68 : decode cX11_best 68 = .ok (.ireturn, 1) := by decide +kernel
theorem dX11_bestWeek_0 : decode cX11_bestWeek 0 = .ok (.aload_n 0, 1) := by decide +kernel
theorem dX11_bestWeek_1 : decode cX11_bestWeek 1 = .ok (.iconst 0, 1) := by decide +kernel
theorem dX11_bestWeek_2 : decode cX11_bestWeek 2 = .ok (.putfield 105, 3) := by decide +kernel
theorem dX11_bestWeek_5 : decode cX11_bestWeek 5 = .ok (.aload_n 0, 1) := by decide +kernel
theorem dX11_bestWeek_6 : decode cX11_bestWeek 6 = .ok (.invokevirtual 462, 3) := by decide +kernel
theorem dX11_bestWeek_9 : decode cX11_bestWeek 9 = .ok (.aload_n 0, 1) := by decide +kernel
theorem dX11_bestWeek_10 : decode cX11_bestWeek 10 = .ok (.invokevirtual 212, 3) := by decide +kernel
theorem dX11_bestWeek_13 : decode cX11_bestWeek 13 = .ok (.istore_n 1, 1) := by decide +kernel
theorem dX11_bestWeek_14 : decode cX11_bestWeek 14 = .ok (.iconst (-1), 1) := by decide +kernel
theorem dX11_bestWeek_15 : decode cX11_bestWeek 15 = .ok (.istore_n 2, 1) := by decide +kernel
theorem dX11_bestWeek_16 : decode cX11_bestWeek 16 = .ok (.iconst 0, 1) := by decide +kernel
theorem dX11_bestWeek_17 : decode cX11_bestWeek 17 = .ok (.istore_n 3, 1) := by decide +kernel
theorem dX11_bestWeek_18 : decode cX11_bestWeek 18 = .ok (.aload_n 0, 1) := by decide +kernel
theorem dX11_bestWeek_19 : decode cX11_bestWeek 19 = .ok (.getfield 7, 3) := by decide +kernel
theorem dX11_bestWeek_22 : decode cX11_bestWeek 22 = .ok (.iconst 0, 1) := by decide +kernel
theorem dX11_bestWeek_23 : decode cX11_bestWeek 23 = .ok (.iaload, 1) := by decide +kernel
theorem dX11_bestWeek_24 : decode cX11_bestWeek 24 = .ok (.istore 4, 2) := by decide +kernel
theorem dX11_bestWeek_26 : decode cX11_bestWeek 26 = .ok (.iload 4, 2) := by decide +kernel
theorem dX11_bestWeek_28 : decode cX11_bestWeek 28 = .ok (.bipush 99, 2) := by decide +kernel
theorem dX11_bestWeek_30 : decode cX11_bestWeek 30 = .ok (.if_icmp .gt 40, 3) := by decide +kernel
theorem dX11_bestWeek_33 : decode cX11_bestWeek 33 = .ok (.aload_n 0, 1) := by decide +kernel
theorem dX11_bestWeek_34 : decode cX11_bestWeek 34 = .ok (.iload 4, 2) := by decide +kernel
theorem dX11_bestWeek_36 : decode cX11_bestWeek 36 = .ok (.iload_n 1, 1) := by decide +kernel
theorem dX11_bestWeek_37 : decode cX11_bestWeek 37 = .ok (.invokevirtual 465, 3) := by decide +kernel
theorem dX11_bestWeek_40 : decode cX11_bestWeek 40 = .ok (.ifCond .eq 24, 3) := by decide +kernel
theorem dX11_bestWeek_43 : decode cX11_bestWeek 43 = .ok (.iload_n 2, 1) := by decide +kernel
theorem dX11_bestWeek_44 : decode cX11_bestWeek 44 = .ok (.iconst (-1), 1) := by decide +kernel
theorem dX11_bestWeek_45 : decode cX11_bestWeek 45 = .ok (.if_icmp .eq 11, 3) := by decide +kernel
theorem dX11_bestWeek_48 : decode cX11_bestWeek 48 = .ok (.aload_n 0, 1) := by decide +kernel
theorem dX11_bestWeek_49 : decode cX11_bestWeek 49 = .ok (.getfield 224, 3) := by decide +kernel
theorem dX11_bestWeek_52 : decode cX11_bestWeek 52 = .ok (.iload_n 3, 1) := by decide +kernel
theorem dX11_bestWeek_53 : decode cX11_bestWeek 53 = .ok (.if_icmp .ge 11, 3) := by decide +kernel
theorem dX11_bestWeek_56 : decode cX11_bestWeek 56 = .ok (.iload 4, 2) := by decide +kernel
theorem dX11_bestWeek_58 : decode cX11_bestWeek 58 = .ok (.istore_n 2, 1) := by decide +kernel
theorem dX11_bestWeek_59 : decode cX11_bestWeek 59 = .ok (.aload_n 0, 1) := by decide +kernel
theorem dX11_bestWeek_60 : decode cX11_bestWeek 60 = .ok (.getfield 224, 3) := by decide +kernel
theorem dX11_bestWeek_63 : decode cX11_bestWeek 63 = .ok (.istore_n 3, 1) := by decide +kernel
theorem dX11_bestWeek_64 : decode cX11_bestWeek 64 = .ok (.iinc 4 1, 3) := by decide +kernel
theorem dX11_bestWeek_67 : decode cX11_bestWeek 67 = .ok (.goto (-41), 3) := by decide +kernel
theorem dX11_bestWeek_70 : decode cX11_bestWeek 70 = .ok (.iload_n 2, 1) := by decide +kernel
theorem dX11_bestWeek_71 : decode cX11_bestWeek 71 = .ok (.ireturn, 1) := by decide +kernel
theorem dX11_bestSpeed_0 : decode cX11_bestSpeed 0 = .ok (.aload_n 0, 1) := by decide +kernel
theorem dX11_bestSpeed_1 : decode cX11_bestSpeed 1 = .ok (.iconst 0, 1) := by decide +kernel
theorem dX11_bestSpeed_2 : decode cX11_bestSpeed 2 = .ok (.putfield 105, 3) := by decide +kernel
theorem dX11_bestSpeed_5 : decode cX11_bestSpeed 5 = .ok (.aload_n 0, 1) := by decide +kernel
theorem dX11_bestSpeed_6 : decode cX11_bestSpeed 6 = .ok (.invokevirtual 209, 3) := by decide +kernel
theorem dX11_bestSpeed_9 : decode cX11_bestSpeed 9 = .ok (.aload_n 0, 1) := by decide +kernel
theorem dX11_bestSpeed_10 : decode cX11_bestSpeed 10 = .ok (.invokevirtual 196, 3) := by decide +kernel
theorem dX11_bestSpeed_13 : decode cX11_bestSpeed 13 = .ok (.istore_n 1, 1) := by decide +kernel
theorem dX11_bestSpeed_14 : decode cX11_bestSpeed 14 = .ok (.aload_n 0, 1) := by decide +kernel
theorem dX11_bestSpeed_15 : decode cX11_bestSpeed 15 = .ok (.getfield 7, 3) := by decide +kernel
theorem dX11_bestSpeed_18 : decode cX11_bestSpeed 18 = .ok (.iconst 1, 1) := by decide +kernel
theorem dX11_bestSpeed_19 : decode cX11_bestSpeed 19 = .ok (.iaload, 1) := by decide +kernel
theorem dX11_bestSpeed_20 : decode cX11_bestSpeed 20 = .ok (.istore_n 2, 1) := by decide +kernel
theorem dX11_bestSpeed_21 : decode cX11_bestSpeed 21 = .ok (.iconst (-1), 1) := by decide +kernel
theorem dX11_bestSpeed_22 : decode cX11_bestSpeed 22 = .ok (.istore_n 3, 1) := by decide +kernel
theorem dX11_bestSpeed_23 : decode cX11_bestSpeed 23 = .ok (.iconst 0, 1) := by decide +kernel
theorem dX11_bestSpeed_24 : decode cX11_bestSpeed 24 = .ok (.istore 4, 2) := by decide +kernel
theorem dX11_bestSpeed_26 : decode cX11_bestSpeed 26 = .ok (.iconst 1, 1) := by decide +kernel
theorem dX11_bestSpeed_27 : decode cX11_bestSpeed 27 = .ok (.istore 5, 2) := by decide +kernel
theorem dX11_bestSpeed_29 : decode cX11_bestSpeed 29 = .ok (.iload 5, 2) := by decide +kernel
theorem dX11_bestSpeed_31 : decode cX11_bestSpeed 31 = .ok (.bipush 20, 2) := by decide +kernel
theorem dX11_bestSpeed_33 : decode cX11_bestSpeed 33 = .ok (.if_icmp .gt 47, 3) := by decide +kernel
theorem dX11_bestSpeed_36 : decode cX11_bestSpeed 36 = .ok (.aload_n 0, 1) := by decide +kernel
theorem dX11_bestSpeed_37 : decode cX11_bestSpeed 37 = .ok (.getfield 7, 3) := by decide +kernel
theorem dX11_bestSpeed_40 : decode cX11_bestSpeed 40 = .ok (.iconst 1, 1) := by decide +kernel
theorem dX11_bestSpeed_41 : decode cX11_bestSpeed 41 = .ok (.iload 5, 2) := by decide +kernel
theorem dX11_bestSpeed_43 : decode cX11_bestSpeed 43 = .ok (.iastore, 1) := by decide +kernel
theorem dX11_bestSpeed_44 : decode cX11_bestSpeed 44 = .ok (.iload_n 1, 1) := by decide +kernel
theorem dX11_bestSpeed_45 : decode cX11_bestSpeed 45 = .ok (.aload_n 0, 1) := by decide +kernel
theorem dX11_bestSpeed_46 : decode cX11_bestSpeed 46 = .ok (.invokevirtual 212, 3) := by decide +kernel
theorem dX11_bestSpeed_49 : decode cX11_bestSpeed 49 = .ok (.isub, 1) := by decide +kernel
theorem dX11_bestSpeed_50 : decode cX11_bestSpeed 50 = .ok (.invokestatic 200, 3) := by decide +kernel
theorem dX11_bestSpeed_53 : decode cX11_bestSpeed 53 = .ok (.istore 6, 2) := by decide +kernel
theorem dX11_bestSpeed_55 : decode cX11_bestSpeed 55 = .ok (.iload_n 3, 1) := by decide +kernel
theorem dX11_bestSpeed_56 : decode cX11_bestSpeed 56 = .ok (.iconst (-1), 1) := by decide +kernel
theorem dX11_bestSpeed_57 : decode cX11_bestSpeed 57 = .ok (.if_icmp .eq 10, 3) := by decide +kernel
theorem dX11_bestSpeed_60 : decode cX11_bestSpeed 60 = .ok (.iload 6, 2) := by decide +kernel
theorem dX11_bestSpeed_62 : decode cX11_bestSpeed 62 = .ok (.iload 4, 2) := by decide +kernel
theorem dX11_bestSpeed_64 : decode cX11_bestSpeed 64 = .ok (.if_icmp .ge 10, 3) := by decide +kernel
theorem dX11_bestSpeed_67 : decode cX11_bestSpeed 67 = .ok (.iload 5, 2) := by decide +kernel
theorem dX11_bestSpeed_69 : decode cX11_bestSpeed 69 = .ok (.istore_n 3, 1) := by decide +kernel
theorem dX11_bestSpeed_70 : decode cX11_bestSpeed 70 = .ok (.iload 6, 2) := by decide +kernel
theorem dX11_bestSpeed_72 : decode cX11_bestSpeed 72 = .ok (.istore 4, 2) := by decide +kernel
theorem dX11_bestSpeed_74 : decode cX11_bestSpeed 74 = .ok (.iinc 5 1, 3) := by decide +kernel
theorem dX11_bestSpeed_77 : decode cX11_bestSpeed 77 = .ok (.goto (-48), 3) := by decide +kernel
theorem dX11_bestSpeed_80 : decode cX11_bestSpeed 80 = .ok (.aload_n 0, 1) := by decide +kernel
theorem dX11_bestSpeed_81 : decode cX11_bestSpeed 81 = .ok (.getfield 7, 3) := by decide +kernel
theorem dX11_bestSpeed_84 : decode cX11_bestSpeed 84 = .ok (.iconst 1, 1) := by decide +kernel
theorem dX11_bestSpeed_85 : decode cX11_bestSpeed 85 = .ok (.iload_n 2, 1) := by decide +kernel
theorem dX11_bestSpeed_86 : decode cX11_bestSpeed 86 = .ok (.iastore, 1) := by decide +kernel
theorem dX11_bestSpeed_87 : decode cX11_bestSpeed 87 = .ok (.iload_n 3, 1) := by decide +kernel
theorem dX11_bestSpeed_88 : decode cX11_bestSpeed 88 = .ok (.ireturn, 1) := by decide +kernel
theorem dX11_begins_0 : decode cX11_begins 0 = .ok (.aload_n 0, 1) := by decide +kernel
theorem dX11_begins_1 : decode cX11_begins 1 = .ok (.getfield 359, 3) := by decide +kernel
theorem dX11_begins_4 : decode cX11_begins 4 = .ok (.bipush 8, 2) := by decide +kernel
theorem dX11_begins_6 : decode cX11_begins 6 = .ok (.if_icmp .ne 49, 3) := by decide +kernel
theorem dX11_begins_9 : decode cX11_begins 9 = .ok (.aload_n 0, 1) := by decide +kernel
theorem dX11_begins_10 : decode cX11_begins 10 = .ok (.dup, 1) := by decide +kernel
theorem dX11_begins_11 : decode cX11_begins 11 = .ok (.getfield 359, 3) := by decide +kernel
theorem dX11_begins_14 : decode cX11_begins 14 = .ok (.iconst 1, 1) := by decide +kernel
theorem dX11_begins_15 : decode cX11_begins 15 = .ok (.isub, 1) := by decide +kernel
theorem dX11_begins_16 : decode cX11_begins 16 = .ok (.putfield 359, 3) := by decide +kernel
theorem dX11_begins_19 : decode cX11_begins 19 = .ok (.iconst 0, 1) := by decide +kernel
theorem dX11_begins_20 : decode cX11_begins 20 = .ok (.istore_n 1, 1) := by decide +kernel
theorem dX11_begins_21 : decode cX11_begins 21 = .ok (.iload_n 1, 1) := by decide +kernel
theorem dX11_begins_22 : decode cX11_begins 22 = .ok (.sipush 1062, 3) := by decide +kernel
theorem dX11_begins_25 : decode cX11_begins 25 = .ok (.aload_n 0, 1) := by decide +kernel
theorem dX11_begins_26 : decode cX11_begins 26 = .ok (.getfield 359, 3) := by decide +kernel
theorem dX11_begins_29 : decode cX11_begins 29 = .ok (.imul, 1) := by decide +kernel
theorem dX11_begins_30 : decode cX11_begins 30 = .ok (.if_icmp .ge 25, 3) := by decide +kernel
theorem dX11_begins_33 : decode cX11_begins 33 = .ok (.aload_n 0, 1) := by decide +kernel
theorem dX11_begins_34 : decode cX11_begins 34 = .ok (.getfield 16, 3) := by decide +kernel
theorem dX11_begins_37 : decode cX11_begins 37 = .ok (.iload_n 1, 1) := by decide +kernel
theorem dX11_begins_38 : decode cX11_begins 38 = .ok (.aload_n 0, 1) := by decide +kernel
theorem dX11_begins_39 : decode cX11_begins 39 = .ok (.getfield 16, 3) := by decide +kernel
theorem dX11_begins_42 : decode cX11_begins 42 = .ok (.iload_n 1, 1) := by decide +kernel
theorem dX11_begins_43 : decode cX11_begins 43 = .ok (.sipush 1062, 3) := by decide +kernel
theorem dX11_begins_46 : decode cX11_begins 46 = .ok (.iadd, 1) := by decide +kernel
theorem dX11_begins_47 : decode cX11_begins 47 = .ok (.iaload, 1) := by decide +kernel
theorem dX11_begins_48 : decode cX11_begins 48 = .ok (.iastore, 1) := by decide +kernel
theorem dX11_begins_49 : decode cX11_begins 49 = .ok (.iinc 1 1, 3) := by decide +kernel
theorem dX11_begins_52 : decode cX11_begins 52 = .ok (.goto (-31), 3) := by decide +kernel
theorem dX11_begins_55 : decode cX11_begins 55 = .ok (.aload_n 0, 1) := by decide +kernel
theorem dX11_begins_56 : decode cX11_begins 56 = .ok (.getfield 7, 3) := by decide +kernel
theorem dX11_begins_59 : decode cX11_begins 59 = .ok (.iconst 0, 1) := by decide +kernel
theorem dX11_begins_60 : decode cX11_begins 60 = .ok (.aload_n 0, 1) := by decide +kernel
theorem dX11_begins_61 : decode cX11_begins 61 = .ok (.getfield 16, 3) := by decide +kernel
theorem dX11_begins_64 : decode cX11_begins 64 = .ok (.sipush 1062, 3) := by decide +kernel
theorem dX11_begins_67 : decode cX11_begins 67 = .ok (.aload_n 0, 1) := by decide +kernel
theorem dX11_begins_68 : decode cX11_begins 68 = .ok (.getfield 359, 3) := by decide +kernel
theorem dX11_begins_71 : decode cX11_begins 71 = .ok (.imul, 1) := by decide +kernel
theorem dX11_begins_72 : decode cX11_begins 72 = .ok (.invokestatic 346, 3) := by decide +kernel
theorem dX11_begins_75 : decode cX11_begins 75 = .ok (.aload_n 0, 1) := by decide +kernel
theorem dX11_begins_76 : decode cX11_begins 76 = .ok (.dup, 1) := by decide +kernel
theorem dX11_begins_77 : decode cX11_begins 77 = .ok (.getfield 359, 3) := by decide +kernel
theorem dX11_begins_80 : decode cX11_begins 80 = .ok (.iconst 1, 1) := by decide +kernel
theorem dX11_begins_81 : decode cX11_begins 81 = .ok (.iadd, 1) := by decide +kernel
theorem dX11_begins_82 : decode cX11_begins 82 = .ok (.putfield 359, 3) := by decide +kernel
theorem dX11_begins_85 : decode cX11_begins 85 = .ok (.aload_n 0, 1) := by decide +kernel
theorem dX11_begins_86 : decode cX11_begins 86 = .ok (.getfield 22, 3) := by decide +kernel
theorem dX11_begins_89 : decode cX11_begins 89 = .ok (.iconst 0, 1) := by decide +kernel
theorem dX11_begins_90 : decode cX11_begins 90 = .ok (.dup2, 1) := by decide +kernel
theorem dX11_begins_91 : decode cX11_begins 91 = .ok (.iaload, 1) := by decide +kernel
theorem dX11_begins_92 : decode cX11_begins 92 = .ok (.iconst 1, 1) := by decide +kernel
theorem dX11_begins_93 : decode cX11_begins 93 = .ok (.iadd, 1) := by decide +kernel
theorem dX11_begins_94 : decode cX11_begins 94 = .ok (.iastore, 1) := by decide +kernel
theorem dX11_begins_95 : decode cX11_begins 95 = .ok (.return_, 1) := by decide +kernel
theorem dX11_refuses_0 : decode cX11_refuses 0 = .ok (.aload_n 0, 1) := by decide +kernel
theorem dX11_refuses_1 : decode cX11_refuses 1 = .ok (.getfield 22, 3) := by decide +kernel
theorem dX11_refuses_4 : decode cX11_refuses 4 = .ok (.iload_n 1, 1) := by decide +kernel
theorem dX11_refuses_5 : decode cX11_refuses 5 = .ok (.dup2, 1) := by decide +kernel
theorem dX11_refuses_6 : decode cX11_refuses 6 = .ok (.iaload, 1) := by decide +kernel
theorem dX11_refuses_7 : decode cX11_refuses 7 = .ok (.iconst 1, 1) := by decide +kernel
theorem dX11_refuses_8 : decode cX11_refuses 8 = .ok (.iadd, 1) := by decide +kernel
theorem dX11_refuses_9 : decode cX11_refuses 9 = .ok (.iastore, 1) := by decide +kernel
theorem dX11_refuses_10 : decode cX11_refuses 10 = .ok (.iload_n 1, 1) := by decide +kernel
theorem dX11_refuses_11 : decode cX11_refuses 11 = .ok (.ineg, 1) := by decide +kernel
theorem dX11_refuses_12 : decode cX11_refuses 12 = .ok (.ireturn, 1) := by decide +kernel
theorem dX11_endNow_0 : decode cX11_endNow 0 = .ok (.aload_n 0, 1) := by decide +kernel
theorem dX11_endNow_1 : decode cX11_endNow 1 = .ok (.invokevirtual 209, 3) := by decide +kernel
theorem dX11_endNow_4 : decode cX11_endNow 4 = .ok (.aload_n 0, 1) := by decide +kernel
theorem dX11_endNow_5 : decode cX11_endNow 5 = .ok (.invokevirtual 196, 3) := by decide +kernel
theorem dX11_endNow_8 : decode cX11_endNow 8 = .ok (.ireturn, 1) := by decide +kernel
theorem dX11_edit_0 : decode cX11_edit 0 = .ok (.aload_n 0, 1) := by decide +kernel
theorem dX11_edit_1 : decode cX11_edit 1 = .ok (.iconst 0, 1) := by decide +kernel
theorem dX11_edit_2 : decode cX11_edit 2 = .ok (.putfield 105, 3) := by decide +kernel
theorem dX11_edit_5 : decode cX11_edit 5 = .ok (.aload_n 0, 1) := by decide +kernel
theorem dX11_edit_6 : decode cX11_edit 6 = .ok (.invokevirtual 468, 3) := by decide +kernel
theorem dX11_edit_9 : decode cX11_edit 9 = .ok (.aload_n 0, 1) := by decide +kernel
theorem dX11_edit_10 : decode cX11_edit 10 = .ok (.invokevirtual 277, 3) := by decide +kernel
theorem dX11_edit_13 : decode cX11_edit 13 = .ok (.ifCond .ne 9, 3) := by decide +kernel
theorem dX11_edit_16 : decode cX11_edit 16 = .ok (.aload_n 0, 1) := by decide +kernel
theorem dX11_edit_17 : decode cX11_edit 17 = .ok (.iconst 1, 1) := by decide +kernel
theorem dX11_edit_18 : decode cX11_edit 18 = .ok (.invokevirtual 471, 3) := by decide +kernel
theorem dX11_edit_21 : decode cX11_edit 21 = .ok (.ireturn, 1) := by decide +kernel
theorem dX11_edit_22 : decode cX11_edit 22 = .ok (.aload_n 0, 1) := by decide +kernel
theorem dX11_edit_23 : decode cX11_edit 23 = .ok (.getfield 7, 3) := by decide +kernel
theorem dX11_edit_26 : decode cX11_edit 26 = .ok (.iconst 0, 1) := by decide +kernel
theorem dX11_edit_27 : decode cX11_edit 27 = .ok (.aload_n 0, 1) := by decide +kernel
theorem dX11_edit_28 : decode cX11_edit 28 = .ok (.getfield 13, 3) := by decide +kernel
theorem dX11_edit_31 : decode cX11_edit 31 = .ok (.iconst 0, 1) := by decide +kernel
theorem dX11_edit_32 : decode cX11_edit 32 = .ok (.invokestatic 346, 3) := by decide +kernel
theorem dX11_edit_35 : decode cX11_edit 35 = .ok (.aload_n 0, 1) := by decide +kernel
theorem dX11_edit_36 : decode cX11_edit 36 = .ok (.invokevirtual 474, 3) := by decide +kernel
theorem dX11_edit_39 : decode cX11_edit 39 = .ok (.aload_n 0, 1) := by decide +kernel
theorem dX11_edit_40 : decode cX11_edit 40 = .ok (.invokevirtual 209, 3) := by decide +kernel
theorem dX11_edit_43 : decode cX11_edit 43 = .ok (.aload_n 0, 1) := by decide +kernel
theorem dX11_edit_44 : decode cX11_edit 44 = .ok (.getfield 13, 3) := by decide +kernel
theorem dX11_edit_47 : decode cX11_edit 47 = .ok (.iconst 0, 1) := by decide +kernel
theorem dX11_edit_48 : decode cX11_edit 48 = .ok (.aload_n 0, 1) := by decide +kernel
theorem dX11_edit_49 : decode cX11_edit 49 = .ok (.getfield 7, 3) := by decide +kernel
theorem dX11_edit_52 : decode cX11_edit 52 = .ok (.iconst 0, 1) := by decide +kernel
theorem dX11_edit_53 : decode cX11_edit 53 = .ok (.invokestatic 346, 3) := by decide +kernel
theorem dX11_edit_56 : decode cX11_edit 56 = .ok (.aload_n 0, 1) := by decide +kernel
theorem dX11_edit_57 : decode cX11_edit 57 = .ok (.getfield 126, 3) := by decide +kernel
theorem dX11_edit_60 : decode cX11_edit 60 = .ok (.bipush 60, 2) := by decide +kernel
theorem dX11_edit_62 : decode cX11_edit 62 = .ok (.if_icmp .le 9, 3) := by decide +kernel
theorem dX11_edit_65 : decode cX11_edit 65 = .ok (.aload_n 0, 1) := by decide +kernel
theorem dX11_edit_66 : decode cX11_edit 66 = .ok (.iconst 2, 1) := by decide +kernel
theorem dX11_edit_67 : decode cX11_edit 67 = .ok (.invokevirtual 471, 3) := by decide +kernel
theorem dX11_edit_70 : decode cX11_edit 70 = .ok (.ireturn, 1) := by decide +kernel
theorem dX11_edit_71 : decode cX11_edit 71 = .ok (.aload_n 0, 1) := by decide +kernel
theorem dX11_edit_72 : decode cX11_edit 72 = .ok (.invokevirtual 477, 3) := by decide +kernel
theorem dX11_edit_75 : decode cX11_edit 75 = .ok (.aload_n 0, 1) := by decide +kernel
theorem dX11_edit_76 : decode cX11_edit 76 = .ok (.invokevirtual 474, 3) := by decide +kernel
theorem dX11_edit_79 : decode cX11_edit 79 = .ok (.aload_n 0, 1) := by decide +kernel
theorem dX11_edit_80 : decode cX11_edit 80 = .ok (.getfield 126, 3) := by decide +kernel
theorem dX11_edit_83 : decode cX11_edit 83 = .ok (.ireturn, 1) := by decide +kernel
theorem dX11_say_0 : decode cX11_say 0 = .ok (.aload_n 0, 1) := by decide +kernel
theorem dX11_say_1 : decode cX11_say 1 = .ok (.iconst 0, 1) := by decide +kernel
theorem dX11_say_2 : decode cX11_say 2 = .ok (.putfield 105, 3) := by decide +kernel
theorem dX11_say_5 : decode cX11_say 5 = .ok (.aload_n 0, 1) := by decide +kernel
theorem dX11_say_6 : decode cX11_say 6 = .ok (.invokevirtual 480, 3) := by decide +kernel
theorem dX11_say_9 : decode cX11_say 9 = .ok (.aload_n 0, 1) := by decide +kernel
theorem dX11_say_10 : decode cX11_say 10 = .ok (.invokevirtual 277, 3) := by decide +kernel
theorem dX11_say_13 : decode cX11_say 13 = .ok (.ifCond .ne 9, 3) := by decide +kernel
theorem dX11_say_16 : decode cX11_say 16 = .ok (.aload_n 0, 1) := by decide +kernel
theorem dX11_say_17 : decode cX11_say 17 = .ok (.iconst 1, 1) := by decide +kernel
theorem dX11_say_18 : decode cX11_say 18 = .ok (.invokevirtual 471, 3) := by decide +kernel
theorem dX11_say_21 : decode cX11_say 21 = .ok (.ireturn, 1) := by decide +kernel
theorem dX11_say_22 : decode cX11_say 22 = .ok (.aload_n 0, 1) := by decide +kernel
theorem dX11_say_23 : decode cX11_say 23 = .ok (.invokevirtual 477, 3) := by decide +kernel
theorem dX11_say_26 : decode cX11_say 26 = .ok (.aload_n 0, 1) := by decide +kernel
theorem dX11_say_27 : decode cX11_say 27 = .ok (.invokevirtual 483, 3) := by decide +kernel
theorem dX11_say_30 : decode cX11_say 30 = .ok (.aload_n 0, 1) := by decide +kernel
theorem dX11_say_31 : decode cX11_say 31 = .ok (.getfield 399, 3) := by decide +kernel
theorem dX11_say_34 : decode cX11_say 34 = .ok (.ireturn, 1) := by decide +kernel
theorem dX11_assemble_0 : decode cX11_assemble 0 = .ok (.aload_n 0, 1) := by decide +kernel
theorem dX11_assemble_1 : decode cX11_assemble 1 = .ok (.iconst 0, 1) := by decide +kernel
theorem dX11_assemble_2 : decode cX11_assemble 2 = .ok (.putfield 105, 3) := by decide +kernel
theorem dX11_assemble_5 : decode cX11_assemble 5 = .ok (.aload_n 0, 1) := by decide +kernel
theorem dX11_assemble_6 : decode cX11_assemble 6 = .ok (.invokevirtual 462, 3) := by decide +kernel
theorem dX11_assemble_9 : decode cX11_assemble 9 = .ok (.aload_n 0, 1) := by decide +kernel
theorem dX11_assemble_10 : decode cX11_assemble 10 = .ok (.aload_n 0, 1) := by decide +kernel
theorem dX11_assemble_11 : decode cX11_assemble 11 = .ok (.getfield 7, 3) := by decide +kernel
theorem dX11_assemble_14 : decode cX11_assemble 14 = .ok (.iconst 0, 1) := by decide +kernel
theorem dX11_assemble_15 : decode cX11_assemble 15 = .ok (.iaload, 1) := by decide +kernel
theorem dX11_assemble_16 : decode cX11_assemble 16 = .ok (.aload_n 0, 1) := by decide +kernel
theorem dX11_assemble_17 : decode cX11_assemble 17 = .ok (.invokevirtual 212, 3) := by decide +kernel
theorem dX11_assemble_20 : decode cX11_assemble 20 = .ok (.invokevirtual 465, 3) := by decide +kernel
theorem dX11_assemble_23 : decode cX11_assemble 23 = .ok (.ifCond .ne 9, 3) := by decide +kernel
theorem dX11_assemble_26 : decode cX11_assemble 26 = .ok (.aload_n 0, 1) := by decide +kernel
theorem dX11_assemble_27 : decode cX11_assemble 27 = .ok (.iconst 3, 1) := by decide +kernel
theorem dX11_assemble_28 : decode cX11_assemble 28 = .ok (.invokevirtual 471, 3) := by decide +kernel
theorem dX11_assemble_31 : decode cX11_assemble 31 = .ok (.ireturn, 1) := by decide +kernel
theorem dX11_assemble_32 : decode cX11_assemble 32 = .ok (.aload_n 0, 1) := by decide +kernel
theorem dX11_assemble_33 : decode cX11_assemble 33 = .ok (.invokevirtual 477, 3) := by decide +kernel
theorem dX11_assemble_36 : decode cX11_assemble 36 = .ok (.aload_n 0, 1) := by decide +kernel
theorem dX11_assemble_37 : decode cX11_assemble 37 = .ok (.getfield 7, 3) := by decide +kernel
theorem dX11_assemble_40 : decode cX11_assemble 40 = .ok (.bipush 8, 2) := by decide +kernel
theorem dX11_assemble_42 : decode cX11_assemble 42 = .ok (.iconst 0, 1) := by decide +kernel
theorem dX11_assemble_43 : decode cX11_assemble 43 = .ok (.iastore, 1) := by decide +kernel
theorem dX11_assemble_44 : decode cX11_assemble 44 = .ok (.iconst 0, 1) := by decide +kernel
theorem dX11_assemble_45 : decode cX11_assemble 45 = .ok (.istore_n 1, 1) := by decide +kernel
theorem dX11_assemble_46 : decode cX11_assemble 46 = .ok (.iload_n 1, 1) := by decide +kernel
theorem dX11_assemble_47 : decode cX11_assemble 47 = .ok (.aload_n 0, 1) := by decide +kernel
theorem dX11_assemble_48 : decode cX11_assemble 48 = .ok (.getfield 7, 3) := by decide +kernel
theorem dX11_assemble_51 : decode cX11_assemble 51 = .ok (.iconst 5, 1) := by decide +kernel
theorem dX11_assemble_52 : decode cX11_assemble 52 = .ok (.iaload, 1) := by decide +kernel
theorem dX11_assemble_53 : decode cX11_assemble 53 = .ok (.if_icmp .ge 84, 3) := by decide +kernel
theorem dX11_assemble_56 : decode cX11_assemble 56 = .ok (.aload_n 0, 1) := by decide +kernel
theorem dX11_assemble_57 : decode cX11_assemble 57 = .ok (.getfield 221, 3) := by decide +kernel
theorem dX11_assemble_60 : decode cX11_assemble 60 = .ok (.iload_n 1, 1) := by decide +kernel
theorem dX11_assemble_61 : decode cX11_assemble 61 = .ok (.ishr, 1) := by decide +kernel
theorem dX11_assemble_62 : decode cX11_assemble 62 = .ok (.iconst 1, 1) := by decide +kernel
theorem dX11_assemble_63 : decode cX11_assemble 63 = .ok (.iand, 1) := by decide +kernel
theorem dX11_assemble_64 : decode cX11_assemble 64 = .ok (.ifCond .ne 6, 3) := by decide +kernel
theorem dX11_assemble_67 : decode cX11_assemble 67 = .ok (.goto 64, 3) := by decide +kernel
theorem dX11_assemble_70 : decode cX11_assemble 70 = .ok (.aload_n 0, 1) := by decide +kernel
theorem dX11_assemble_71 : decode cX11_assemble 71 = .ok (.getfield 221, 3) := by decide +kernel
theorem dX11_assemble_74 : decode cX11_assemble 74 = .ok (.iload_n 1, 1) := by decide +kernel
theorem dX11_assemble_75 : decode cX11_assemble 75 = .ok (.ishr, 1) := by decide +kernel
theorem dX11_assemble_76 : decode cX11_assemble 76 = .ok (.iconst 1, 1) := by decide +kernel
theorem dX11_assemble_77 : decode cX11_assemble 77 = .ok (.if_icmp .ne 7, 3) := by decide +kernel
theorem dX11_assemble_80 : decode cX11_assemble 80 = .ok (.iconst 1, 1) := by decide +kernel
theorem dX11_assemble_81 : decode cX11_assemble 81 = .ok (.goto 4, 3) := by decide +kernel
theorem dX11_assemble_84 : decode cX11_assemble 84 = .ok (.iconst 0, 1) := by decide +kernel
theorem dX11_assemble_85 : decode cX11_assemble 85 = .ok (.istore_n 2, 1) := by decide +kernel
theorem dX11_assemble_86 : decode cX11_assemble 86 = .ok (.aload_n 0, 1) := by decide +kernel
theorem dX11_assemble_87 : decode cX11_assemble 87 = .ok (.aload_n 0, 1) := by decide +kernel
theorem dX11_assemble_88 : decode cX11_assemble 88 = .ok (.getfield 7, 3) := by decide +kernel
theorem dX11_assemble_91 : decode cX11_assemble 91 = .ok (.bipush 8, 2) := by decide +kernel
theorem dX11_assemble_93 : decode cX11_assemble 93 = .ok (.iaload, 1) := by decide +kernel
theorem dX11_assemble_94 : decode cX11_assemble 94 = .ok (.iconst 0, 1) := by decide +kernel
theorem dX11_assemble_95 : decode cX11_assemble 95 = .ok (.iload_n 1, 1) := by decide +kernel
theorem dX11_assemble_96 : decode cX11_assemble 96 = .ok (.iconst 0, 1) := by decide +kernel
theorem dX11_assemble_97 : decode cX11_assemble 97 = .ok (.aload_n 0, 1) := by decide +kernel
theorem dX11_assemble_98 : decode cX11_assemble 98 = .ok (.iload_n 1, 1) := by decide +kernel
theorem dX11_assemble_99 : decode cX11_assemble 99 = .ok (.invokevirtual 218, 3) := by decide +kernel
theorem dX11_assemble_102 : decode cX11_assemble 102 = .ok (.iconst 1, 1) := by decide +kernel
theorem dX11_assemble_103 : decode cX11_assemble 103 = .ok (.isub, 1) := by decide +kernel
theorem dX11_assemble_104 : decode cX11_assemble 104 = .ok (.iload_n 2, 1) := by decide +kernel
theorem dX11_assemble_105 : decode cX11_assemble 105 = .ok (.ifCond .eq 10, 3) := by decide +kernel
theorem dX11_assemble_108 : decode cX11_assemble 108 = .ok (.aload_n 0, 1) := by decide +kernel
theorem dX11_assemble_109 : decode cX11_assemble 109 = .ok (.getfield 224, 3) := by decide +kernel
theorem dX11_assemble_112 : decode cX11_assemble 112 = .ok (.goto 4, 3) := by decide +kernel
theorem dX11_assemble_115 : decode cX11_assemble 115 = .ok (.iconst 0, 1) := by decide +kernel
theorem dX11_assemble_116 : decode cX11_assemble 116 = .ok (.isub, 1) := by decide +kernel
theorem dX11_assemble_117 : decode cX11_assemble 117 = .ok (.invokevirtual 486, 3) := by decide +kernel
theorem dX11_assemble_120 : decode cX11_assemble 120 = .ok (.aload_n 0, 1) := by decide +kernel
theorem dX11_assemble_121 : decode cX11_assemble 121 = .ok (.getfield 7, 3) := by decide +kernel
theorem dX11_assemble_124 : decode cX11_assemble 124 = .ok (.bipush 8, 2) := by decide +kernel
theorem dX11_assemble_126 : decode cX11_assemble 126 = .ok (.dup2, 1) := by decide +kernel
theorem dX11_assemble_127 : decode cX11_assemble 127 = .ok (.iaload, 1) := by decide +kernel
theorem dX11_assemble_128 : decode cX11_assemble 128 = .ok (.iconst 1, 1) := by decide +kernel
theorem dX11_assemble_129 : decode cX11_assemble 129 = .ok (.iadd, 1) := by decide +kernel
theorem dX11_assemble_130 : decode cX11_assemble 130 = .ok (.iastore, 1) := by decide +kernel
theorem dX11_assemble_131 : decode cX11_assemble 131 = .ok (.iinc 1 1, 3) := by decide +kernel
theorem dX11_assemble_134 : decode cX11_assemble 134 = .ok (.goto (-88), 3) := by decide +kernel
theorem dX11_assemble_137 : decode cX11_assemble 137 = .ok (.aload_n 0, 1) := by decide +kernel
theorem dX11_assemble_138 : decode cX11_assemble 138 = .ok (.getfield 224, 3) := by decide +kernel
theorem dX11_assemble_141 : decode cX11_assemble 141 = .ok (.ireturn, 1) := by decide +kernel
theorem dX11_insert_0 : decode cX11_insert 0 = .ok (.aload_n 0, 1) := by decide +kernel
theorem dX11_insert_1 : decode cX11_insert 1 = .ok (.iload_n 1, 1) := by decide +kernel
theorem dX11_insert_2 : decode cX11_insert 2 = .ok (.iconst 0, 1) := by decide +kernel
theorem dX11_insert_3 : decode cX11_insert 3 = .ok (.aload_n 0, 1) := by decide +kernel
theorem dX11_insert_4 : decode cX11_insert 4 = .ok (.invokevirtual 414, 3) := by decide +kernel
theorem dX11_insert_7 : decode cX11_insert 7 = .ok (.invokestatic 112, 3) := by decide +kernel
theorem dX11_insert_10 : decode cX11_insert 10 = .ok (.ifCond .eq 15, 3) := by decide +kernel
theorem dX11_insert_13 : decode cX11_insert 13 = .ok (.aload_n 0, 1) := by decide +kernel
theorem dX11_insert_14 : decode cX11_insert 14 = .ok (.iload_n 2, 1) := by decide +kernel
theorem dX11_insert_15 : decode cX11_insert 15 = .ok (.invokevirtual 437, 3) := by decide +kernel
theorem dX11_insert_18 : decode cX11_insert 18 = .ok (.ifCond .eq 7, 3) := by decide +kernel
theorem dX11_insert_21 : decode cX11_insert 21 = .ok (.iconst 1, 1) := by decide +kernel
theorem dX11_insert_22 : decode cX11_insert 22 = .ok (.goto 4, 3) := by decide +kernel
theorem dX11_insert_25 : decode cX11_insert 25 = .ok (.iconst 0, 1) := by decide +kernel
theorem dX11_insert_26 : decode cX11_insert 26 = .ok (.iload_n 3, 1) := by decide +kernel
theorem dX11_insert_27 : decode cX11_insert 27 = .ok (.iconst 1, 1) := by decide +kernel
theorem dX11_insert_28 : decode cX11_insert 28 = .ok (.sipush 400, 3) := by decide +kernel
theorem dX11_insert_31 : decode cX11_insert 31 = .ok (.invokestatic 112, 3) := by decide +kernel
theorem dX11_insert_34 : decode cX11_insert 34 = .ok (.invokevirtual 429, 3) := by decide +kernel
theorem dX11_insert_37 : decode cX11_insert 37 = .ok (.ifCond .ne 5, 3) := by decide +kernel
theorem dX11_insert_40 : decode cX11_insert 40 = .ok (.iconst 0, 1) := by decide +kernel
theorem dX11_insert_41 : decode cX11_insert 41 = .ok (.ireturn, 1) := by decide +kernel
theorem dX11_insert_42 : decode cX11_insert 42 = .ok (.aload_n 0, 1) := by decide +kernel
theorem dX11_insert_43 : decode cX11_insert 43 = .ok (.invokevirtual 417, 3) := by decide +kernel
theorem dX11_insert_46 : decode cX11_insert 46 = .ok (.bipush 30, 2) := by decide +kernel
theorem dX11_insert_48 : decode cX11_insert 48 = .ok (.if_icmp .ne 9, 3) := by decide +kernel
theorem dX11_insert_51 : decode cX11_insert 51 = .ok (.aload_n 0, 1) := by decide +kernel
theorem dX11_insert_52 : decode cX11_insert 52 = .ok (.iconst 4, 1) := by decide +kernel
theorem dX11_insert_53 : decode cX11_insert 53 = .ok (.invokevirtual 471, 3) := by decide +kernel
theorem dX11_insert_56 : decode cX11_insert 56 = .ok (.ireturn, 1) := by decide +kernel
theorem dX11_insert_57 : decode cX11_insert 57 = .ok (.aload_n 0, 1) := by decide +kernel
theorem dX11_insert_58 : decode cX11_insert 58 = .ok (.invokevirtual 209, 3) := by decide +kernel
theorem dX11_insert_61 : decode cX11_insert 61 = .ok (.aload_n 0, 1) := by decide +kernel
theorem dX11_insert_62 : decode cX11_insert 62 = .ok (.getfield 126, 3) := by decide +kernel
theorem dX11_insert_65 : decode cX11_insert 65 = .ok (.bipush 60, 2) := by decide +kernel
theorem dX11_insert_67 : decode cX11_insert 67 = .ok (.if_icmp .ne 9, 3) := by decide +kernel
theorem dX11_insert_70 : decode cX11_insert 70 = .ok (.aload_n 0, 1) := by decide +kernel
theorem dX11_insert_71 : decode cX11_insert 71 = .ok (.iconst 2, 1) := by decide +kernel
theorem dX11_insert_72 : decode cX11_insert 72 = .ok (.invokevirtual 471, 3) := by decide +kernel
theorem dX11_insert_75 : decode cX11_insert 75 = .ok (.ireturn, 1) := by decide +kernel
theorem dX11_insert_76 : decode cX11_insert 76 = .ok (.aload_n 0, 1) := by decide +kernel
theorem dX11_insert_77 : decode cX11_insert 77 = .ok (.invokevirtual 477, 3) := by decide +kernel
theorem dX11_insert_80 : decode cX11_insert 80 = .ok (.aload_n 0, 1) := by decide +kernel
theorem dX11_insert_81 : decode cX11_insert 81 = .ok (.iload_n 1, 1) := by decide +kernel
theorem dX11_insert_82 : decode cX11_insert 82 = .ok (.invokevirtual 490, 3) := by decide +kernel
theorem dX11_insert_85 : decode cX11_insert 85 = .ok (.istore 4, 2) := by decide +kernel
theorem dX11_insert_87 : decode cX11_insert 87 = .ok (.aload_n 0, 1) := by decide +kernel
theorem dX11_insert_88 : decode cX11_insert 88 = .ok (.iload 4, 2) := by decide +kernel
theorem dX11_insert_90 : decode cX11_insert 90 = .ok (.iconst 1, 1) := by decide +kernel
theorem dX11_insert_91 : decode cX11_insert 91 = .ok (.invokevirtual 493, 3) := by decide +kernel
theorem dX11_insert_94 : decode cX11_insert 94 = .ok (.aload_n 0, 1) := by decide +kernel
theorem dX11_insert_95 : decode cX11_insert 95 = .ok (.iload 4, 2) := by decide +kernel
theorem dX11_insert_97 : decode cX11_insert 97 = .ok (.iconst 1, 1) := by decide +kernel
theorem dX11_insert_98 : decode cX11_insert 98 = .ok (.iload_n 2, 1) := by decide +kernel
theorem dX11_insert_99 : decode cX11_insert 99 = .ok (.iload_n 3, 1) := by decide +kernel
theorem dX11_insert_100 : decode cX11_insert 100 = .ok (.iconst 0, 1) := by decide +kernel
theorem dX11_insert_101 : decode cX11_insert 101 = .ok (.invokevirtual 486, 3) := by decide +kernel
theorem dX11_insert_104 : decode cX11_insert 104 = .ok (.aload_n 0, 1) := by decide +kernel
theorem dX11_insert_105 : decode cX11_insert 105 = .ok (.invokevirtual 497, 3) := by decide +kernel
theorem dX11_insert_108 : decode cX11_insert 108 = .ok (.ireturn, 1) := by decide +kernel
theorem dX11_isItem_0 : decode cX11_isItem 0 = .ok (.iload_n 1, 1) := by decide +kernel
theorem dX11_isItem_1 : decode cX11_isItem 1 = .ok (.iconst 0, 1) := by decide +kernel
theorem dX11_isItem_2 : decode cX11_isItem 2 = .ok (.aload_n 0, 1) := by decide +kernel
theorem dX11_isItem_3 : decode cX11_isItem 3 = .ok (.invokevirtual 414, 3) := by decide +kernel
theorem dX11_isItem_6 : decode cX11_isItem 6 = .ok (.iconst 1, 1) := by decide +kernel
theorem dX11_isItem_7 : decode cX11_isItem 7 = .ok (.isub, 1) := by decide +kernel
theorem dX11_isItem_8 : decode cX11_isItem 8 = .ok (.invokestatic 112, 3) := by decide +kernel
theorem dX11_isItem_11 : decode cX11_isItem 11 = .ok (.ireturn, 1) := by decide +kernel
theorem dX11_framesOf_0 : decode cX11_framesOf 0 = .ok (.aload_n 0, 1) := by decide +kernel
theorem dX11_framesOf_1 : decode cX11_framesOf 1 = .ok (.iload_n 1, 1) := by decide +kernel
theorem dX11_framesOf_2 : decode cX11_framesOf 2 = .ok (.iconst 0, 1) := by decide +kernel
theorem dX11_framesOf_3 : decode cX11_framesOf 3 = .ok (.invokevirtual 129, 3) := by decide +kernel
theorem dX11_framesOf_6 : decode cX11_framesOf 6 = .ok (.ifCond .ne 21, 3) := by decide +kernel
theorem dX11_framesOf_9 : decode cX11_framesOf 9 = .ok (.aload_n 0, 1) := by decide +kernel
theorem dX11_framesOf_10 : decode cX11_framesOf 10 = .ok (.iload_n 1, 1) := by decide +kernel
theorem dX11_framesOf_11 : decode cX11_framesOf 11 = .ok (.iconst 3, 1) := by decide +kernel
theorem dX11_framesOf_12 : decode cX11_framesOf 12 = .ok (.invokevirtual 129, 3) := by decide +kernel
theorem dX11_framesOf_15 : decode cX11_framesOf 15 = .ok (.aload_n 0, 1) := by decide +kernel
theorem dX11_framesOf_16 : decode cX11_framesOf 16 = .ok (.iload_n 1, 1) := by decide +kernel
theorem dX11_framesOf_17 : decode cX11_framesOf 17 = .ok (.iconst 2, 1) := by decide +kernel
theorem dX11_framesOf_18 : decode cX11_framesOf 18 = .ok (.invokevirtual 129, 3) := by decide +kernel
theorem dX11_framesOf_21 : decode cX11_framesOf 21 = .ok (.isub, 1) := by decide +kernel
theorem dX11_framesOf_22 : decode cX11_framesOf 22 = .ok (.iconst 1, 1) := by decide +kernel
theorem dX11_framesOf_23 : decode cX11_framesOf 23 = .ok (.iadd, 1) := by decide +kernel
theorem dX11_framesOf_24 : decode cX11_framesOf 24 = .ok (.goto 9, 3) := by decide +kernel
theorem dX11_framesOf_27 : decode cX11_framesOf 27 = .ok (.aload_n 0, 1) := by decide +kernel
theorem dX11_framesOf_28 : decode cX11_framesOf 28 = .ok (.iload_n 1, 1) := by decide +kernel
theorem dX11_framesOf_29 : decode cX11_framesOf 29 = .ok (.iconst 2, 1) := by decide +kernel
theorem dX11_framesOf_30 : decode cX11_framesOf 30 = .ok (.invokevirtual 129, 3) := by decide +kernel
theorem dX11_framesOf_33 : decode cX11_framesOf 33 = .ok (.ireturn, 1) := by decide +kernel
theorem dX11_trim_0 : decode cX11_trim 0 = .ok (.aload_n 0, 1) := by decide +kernel
theorem dX11_trim_1 : decode cX11_trim 1 = .ok (.aload_n 0, 1) := by decide +kernel
theorem dX11_trim_2 : decode cX11_trim 2 = .ok (.iload_n 1, 1) := by decide +kernel
theorem dX11_trim_3 : decode cX11_trim 3 = .ok (.invokevirtual 500, 3) := by decide +kernel
theorem dX11_trim_6 : decode cX11_trim 6 = .ok (.iload_n 2, 1) := by decide +kernel
theorem dX11_trim_7 : decode cX11_trim 7 = .ok (.iconst 1, 1) := by decide +kernel
theorem dX11_trim_8 : decode cX11_trim 8 = .ok (.sipush 399, 3) := by decide +kernel
theorem dX11_trim_11 : decode cX11_trim 11 = .ok (.invokestatic 112, 3) := by decide +kernel
theorem dX11_trim_14 : decode cX11_trim 14 = .ok (.invokevirtual 429, 3) := by decide +kernel
theorem dX11_trim_17 : decode cX11_trim 17 = .ok (.ifCond .ne 5, 3) := by decide +kernel
theorem dX11_trim_20 : decode cX11_trim 20 = .ok (.iconst 0, 1) := by decide +kernel
theorem dX11_trim_21 : decode cX11_trim 21 = .ok (.ireturn, 1) := by decide +kernel
theorem dX11_trim_22 : decode cX11_trim 22 = .ok (.aload_n 0, 1) := by decide +kernel
theorem dX11_trim_23 : decode cX11_trim 23 = .ok (.iload_n 1, 1) := by decide +kernel
theorem dX11_trim_24 : decode cX11_trim 24 = .ok (.invokevirtual 490, 3) := by decide +kernel
theorem dX11_trim_27 : decode cX11_trim 27 = .ok (.istore_n 3, 1) := by decide +kernel
theorem dX11_trim_28 : decode cX11_trim 28 = .ok (.aload_n 0, 1) := by decide +kernel
theorem dX11_trim_29 : decode cX11_trim 29 = .ok (.iload_n 3, 1) := by decide +kernel
theorem dX11_trim_30 : decode cX11_trim 30 = .ok (.iconst 0, 1) := by decide +kernel
theorem dX11_trim_31 : decode cX11_trim 31 = .ok (.invokevirtual 129, 3) := by decide +kernel
theorem dX11_trim_34 : decode cX11_trim 34 = .ok (.ifCond .eq 19, 3) := by decide +kernel
theorem dX11_trim_37 : decode cX11_trim 37 = .ok (.aload_n 0, 1) := by decide +kernel
theorem dX11_trim_38 : decode cX11_trim 38 = .ok (.iload_n 3, 1) := by decide +kernel
theorem dX11_trim_39 : decode cX11_trim 39 = .ok (.iconst 0, 1) := by decide +kernel
theorem dX11_trim_40 : decode cX11_trim 40 = .ok (.invokevirtual 129, 3) := by decide +kernel
theorem dX11_trim_43 : decode cX11_trim 43 = .ok (.iconst 1, 1) := by decide +kernel
theorem dX11_trim_44 : decode cX11_trim 44 = .ok (.if_icmp .eq 9, 3) := by decide +kernel
theorem dX11_trim_47 : decode cX11_trim 47 = .ok (.aload_n 0, 1) := by decide +kernel
theorem dX11_trim_48 : decode cX11_trim 48 = .ok (.iconst 5, 1) := by decide +kernel
theorem dX11_trim_49 : decode cX11_trim 49 = .ok (.invokevirtual 471, 3) := by decide +kernel
theorem dX11_trim_52 : decode cX11_trim 52 = .ok (.ireturn, 1) := by decide +kernel
theorem dX11_trim_53 : decode cX11_trim 53 = .ok (.aload_n 0, 1) := by decide +kernel
theorem dX11_trim_54 : decode cX11_trim 54 = .ok (.iload_n 3, 1) := by decide +kernel
theorem dX11_trim_55 : decode cX11_trim 55 = .ok (.invokevirtual 503, 3) := by decide +kernel
theorem dX11_trim_58 : decode cX11_trim 58 = .ok (.iload_n 2, 1) := by decide +kernel
theorem dX11_trim_59 : decode cX11_trim 59 = .ok (.if_icmp .gt 10, 3) := by decide +kernel
theorem dX11_trim_62 : decode cX11_trim 62 = .ok (.aload_n 0, 1) := by decide +kernel
theorem dX11_trim_63 : decode cX11_trim 63 = .ok (.bipush 6, 2) := by decide +kernel
theorem dX11_trim_65 : decode cX11_trim 65 = .ok (.invokevirtual 471, 3) := by decide +kernel
theorem dX11_trim_68 : decode cX11_trim 68 = .ok (.ireturn, 1) := by decide +kernel
theorem dX11_trim_69 : decode cX11_trim 69 = .ok (.aload_n 0, 1) := by decide +kernel
theorem dX11_trim_70 : decode cX11_trim 70 = .ok (.invokevirtual 477, 3) := by decide +kernel
theorem dX11_trim_73 : decode cX11_trim 73 = .ok (.bipush 126, 2) := by decide +kernel
theorem dX11_trim_75 : decode cX11_trim 75 = .ok (.iconst 4, 1) := by decide +kernel
theorem dX11_trim_76 : decode cX11_trim 76 = .ok (.iload_n 3, 1) := by decide +kernel
theorem dX11_trim_77 : decode cX11_trim 77 = .ok (.imul, 1) := by decide +kernel
theorem dX11_trim_78 : decode cX11_trim 78 = .ok (.iadd, 1) := by decide +kernel
theorem dX11_trim_79 : decode cX11_trim 79 = .ok (.aload_n 0, 1) := by decide +kernel
theorem dX11_trim_80 : decode cX11_trim 80 = .ok (.iload_n 3, 1) := by decide +kernel
theorem dX11_trim_81 : decode cX11_trim 81 = .ok (.iconst 0, 1) := by decide +kernel
theorem dX11_trim_82 : decode cX11_trim 82 = .ok (.invokevirtual 129, 3) := by decide +kernel
theorem dX11_trim_85 : decode cX11_trim 85 = .ok (.ifCond .ne 7, 3) := by decide +kernel
theorem dX11_trim_88 : decode cX11_trim 88 = .ok (.iconst 3, 1) := by decide +kernel
theorem dX11_trim_89 : decode cX11_trim 89 = .ok (.goto 4, 3) := by decide +kernel
theorem dX11_trim_92 : decode cX11_trim 92 = .ok (.iconst 2, 1) := by decide +kernel
theorem dX11_trim_93 : decode cX11_trim 93 = .ok (.iadd, 1) := by decide +kernel
theorem dX11_trim_94 : decode cX11_trim 94 = .ok (.istore 4, 2) := by decide +kernel
theorem dX11_trim_96 : decode cX11_trim 96 = .ok (.aload_n 0, 1) := by decide +kernel
theorem dX11_trim_97 : decode cX11_trim 97 = .ok (.getfield 7, 3) := by decide +kernel
theorem dX11_trim_100 : decode cX11_trim 100 = .ok (.iload 4, 2) := by decide +kernel
theorem dX11_trim_102 : decode cX11_trim 102 = .ok (.dup2, 1) := by decide +kernel
theorem dX11_trim_103 : decode cX11_trim 103 = .ok (.iaload, 1) := by decide +kernel
theorem dX11_trim_104 : decode cX11_trim 104 = .ok (.iload_n 2, 1) := by decide +kernel
theorem dX11_trim_105 : decode cX11_trim 105 = .ok (.isub, 1) := by decide +kernel
theorem dX11_trim_106 : decode cX11_trim 106 = .ok (.iastore, 1) := by decide +kernel
theorem dX11_trim_107 : decode cX11_trim 107 = .ok (.aload_n 0, 1) := by decide +kernel
theorem dX11_trim_108 : decode cX11_trim 108 = .ok (.iload_n 3, 1) := by decide +kernel
theorem dX11_trim_109 : decode cX11_trim 109 = .ok (.invokevirtual 503, 3) := by decide +kernel
theorem dX11_trim_112 : decode cX11_trim 112 = .ok (.ireturn, 1) := by decide +kernel
theorem dX11_remove_0 : decode cX11_remove 0 = .ok (.aload_n 0, 1) := by decide +kernel
theorem dX11_remove_1 : decode cX11_remove 1 = .ok (.aload_n 0, 1) := by decide +kernel
theorem dX11_remove_2 : decode cX11_remove 2 = .ok (.iload_n 1, 1) := by decide +kernel
theorem dX11_remove_3 : decode cX11_remove 3 = .ok (.invokevirtual 500, 3) := by decide +kernel
theorem dX11_remove_6 : decode cX11_remove 6 = .ok (.invokevirtual 239, 3) := by decide +kernel
theorem dX11_remove_9 : decode cX11_remove 9 = .ok (.ifCond .ne 5, 3) := by decide +kernel
theorem dX11_remove_12 : decode cX11_remove 12 = .ok (.iconst 0, 1) := by decide +kernel
theorem dX11_remove_13 : decode cX11_remove 13 = .ok (.ireturn, 1) := by decide +kernel
theorem dX11_remove_14 : decode cX11_remove 14 = .ok (.aload_n 0, 1) := by decide +kernel
theorem dX11_remove_15 : decode cX11_remove 15 = .ok (.invokevirtual 477, 3) := by decide +kernel
theorem dX11_remove_18 : decode cX11_remove 18 = .ok (.aload_n 0, 1) := by decide +kernel
theorem dX11_remove_19 : decode cX11_remove 19 = .ok (.iload_n 1, 1) := by decide +kernel
theorem dX11_remove_20 : decode cX11_remove 20 = .ok (.invokevirtual 490, 3) := by decide +kernel
theorem dX11_remove_23 : decode cX11_remove 23 = .ok (.istore_n 2, 1) := by decide +kernel
theorem dX11_remove_24 : decode cX11_remove 24 = .ok (.aload_n 0, 1) := by decide +kernel
theorem dX11_remove_25 : decode cX11_remove 25 = .ok (.iload_n 2, 1) := by decide +kernel
theorem dX11_remove_26 : decode cX11_remove 26 = .ok (.aload_n 0, 1) := by decide +kernel
theorem dX11_remove_27 : decode cX11_remove 27 = .ok (.iload_n 2, 1) := by decide +kernel
theorem dX11_remove_28 : decode cX11_remove 28 = .ok (.invokevirtual 411, 3) := by decide +kernel
theorem dX11_remove_31 : decode cX11_remove 31 = .ok (.iload_n 2, 1) := by decide +kernel
theorem dX11_remove_32 : decode cX11_remove 32 = .ok (.isub, 1) := by decide +kernel
theorem dX11_remove_33 : decode cX11_remove 33 = .ok (.invokevirtual 506, 3) := by decide +kernel
theorem dX11_remove_36 : decode cX11_remove 36 = .ok (.aload_n 0, 1) := by decide +kernel
theorem dX11_remove_37 : decode cX11_remove 37 = .ok (.invokevirtual 497, 3) := by decide +kernel
theorem dX11_remove_40 : decode cX11_remove 40 = .ok (.ireturn, 1) := by decide +kernel
theorem dX11_move_0 : decode cX11_move 0 = .ok (.aload_n 0, 1) := by decide +kernel
theorem dX11_move_1 : decode cX11_move 1 = .ok (.aload_n 0, 1) := by decide +kernel
theorem dX11_move_2 : decode cX11_move 2 = .ok (.iload_n 1, 1) := by decide +kernel
theorem dX11_move_3 : decode cX11_move 3 = .ok (.invokevirtual 500, 3) := by decide +kernel
theorem dX11_move_6 : decode cX11_move 6 = .ok (.ifCond .eq 15, 3) := by decide +kernel
theorem dX11_move_9 : decode cX11_move 9 = .ok (.aload_n 0, 1) := by decide +kernel
theorem dX11_move_10 : decode cX11_move 10 = .ok (.iload_n 2, 1) := by decide +kernel
theorem dX11_move_11 : decode cX11_move 11 = .ok (.invokevirtual 500, 3) := by decide +kernel
theorem dX11_move_14 : decode cX11_move 14 = .ok (.ifCond .eq 7, 3) := by decide +kernel
theorem dX11_move_17 : decode cX11_move 17 = .ok (.iconst 1, 1) := by decide +kernel
theorem dX11_move_18 : decode cX11_move 18 = .ok (.goto 4, 3) := by decide +kernel
theorem dX11_move_21 : decode cX11_move 21 = .ok (.iconst 0, 1) := by decide +kernel
theorem dX11_move_22 : decode cX11_move 22 = .ok (.invokevirtual 239, 3) := by decide +kernel
theorem dX11_move_25 : decode cX11_move 25 = .ok (.ifCond .ne 5, 3) := by decide +kernel
theorem dX11_move_28 : decode cX11_move 28 = .ok (.iconst 0, 1) := by decide +kernel
theorem dX11_move_29 : decode cX11_move 29 = .ok (.ireturn, 1) := by decide +kernel
theorem dX11_move_30 : decode cX11_move 30 = .ok (.aload_n 0, 1) := by decide +kernel
theorem dX11_move_31 : decode cX11_move 31 = .ok (.invokevirtual 477, 3) := by decide +kernel
theorem dX11_move_34 : decode cX11_move 34 = .ok (.aload_n 0, 1) := by decide +kernel
theorem dX11_move_35 : decode cX11_move 35 = .ok (.iload_n 1, 1) := by decide +kernel
theorem dX11_move_36 : decode cX11_move 36 = .ok (.invokevirtual 490, 3) := by decide +kernel
theorem dX11_move_39 : decode cX11_move 39 = .ok (.istore_n 3, 1) := by decide +kernel
theorem dX11_move_40 : decode cX11_move 40 = .ok (.aload_n 0, 1) := by decide +kernel
theorem dX11_move_41 : decode cX11_move 41 = .ok (.iload_n 3, 1) := by decide +kernel
theorem dX11_move_42 : decode cX11_move 42 = .ok (.invokevirtual 411, 3) := by decide +kernel
theorem dX11_move_45 : decode cX11_move 45 = .ok (.iload_n 3, 1) := by decide +kernel
theorem dX11_move_46 : decode cX11_move 46 = .ok (.isub, 1) := by decide +kernel
theorem dX11_move_47 : decode cX11_move 47 = .ok (.istore 4, 2) := by decide +kernel
theorem dX11_move_49 : decode cX11_move 49 = .ok (.iconst 0, 1) := by decide +kernel
theorem dX11_move_50 : decode cX11_move 50 = .ok (.istore 5, 2) := by decide +kernel
theorem dX11_move_52 : decode cX11_move 52 = .ok (.iload 5, 2) := by decide +kernel
theorem dX11_move_54 : decode cX11_move 54 = .ok (.iconst 4, 1) := by decide +kernel
theorem dX11_move_55 : decode cX11_move 55 = .ok (.iload 4, 2) := by decide +kernel
theorem dX11_move_57 : decode cX11_move 57 = .ok (.imul, 1) := by decide +kernel
theorem dX11_move_58 : decode cX11_move 58 = .ok (.if_icmp .ge 30, 3) := by decide +kernel
theorem dX11_move_61 : decode cX11_move 61 = .ok (.aload_n 0, 1) := by decide +kernel
theorem dX11_move_62 : decode cX11_move 62 = .ok (.getfield 96, 3) := by decide +kernel
theorem dX11_move_65 : decode cX11_move 65 = .ok (.iload 5, 2) := by decide +kernel
theorem dX11_move_67 : decode cX11_move 67 = .ok (.aload_n 0, 1) := by decide +kernel
theorem dX11_move_68 : decode cX11_move 68 = .ok (.getfield 7, 3) := by decide +kernel
theorem dX11_move_71 : decode cX11_move 71 = .ok (.bipush 126, 2) := by decide +kernel
theorem dX11_move_73 : decode cX11_move 73 = .ok (.iconst 4, 1) := by decide +kernel
theorem dX11_move_74 : decode cX11_move 74 = .ok (.iload_n 3, 1) := by decide +kernel
theorem dX11_move_75 : decode cX11_move 75 = .ok (.imul, 1) := by decide +kernel
theorem dX11_move_76 : decode cX11_move 76 = .ok (.iadd, 1) := by decide +kernel
theorem dX11_move_77 : decode cX11_move 77 = .ok (.iload 5, 2) := by decide +kernel
theorem dX11_move_79 : decode cX11_move 79 = .ok (.iadd, 1) := by decide +kernel
theorem dX11_move_80 : decode cX11_move 80 = .ok (.iaload, 1) := by decide +kernel
theorem dX11_move_81 : decode cX11_move 81 = .ok (.iastore, 1) := by decide +kernel
theorem dX11_move_82 : decode cX11_move 82 = .ok (.iinc 5 1, 3) := by decide +kernel
theorem dX11_move_85 : decode cX11_move 85 = .ok (.goto (-33), 3) := by decide +kernel
theorem dX11_move_88 : decode cX11_move 88 = .ok (.aload_n 0, 1) := by decide +kernel
theorem dX11_move_89 : decode cX11_move 89 = .ok (.iload_n 3, 1) := by decide +kernel
theorem dX11_move_90 : decode cX11_move 90 = .ok (.iload 4, 2) := by decide +kernel
theorem dX11_move_92 : decode cX11_move 92 = .ok (.invokevirtual 506, 3) := by decide +kernel
theorem dX11_move_95 : decode cX11_move 95 = .ok (.aload_n 0, 1) := by decide +kernel
theorem dX11_move_96 : decode cX11_move 96 = .ok (.iload_n 2, 1) := by decide +kernel
theorem dX11_move_97 : decode cX11_move 97 = .ok (.invokevirtual 490, 3) := by decide +kernel
theorem dX11_move_100 : decode cX11_move 100 = .ok (.istore 5, 2) := by decide +kernel
theorem dX11_move_102 : decode cX11_move 102 = .ok (.aload_n 0, 1) := by decide +kernel
theorem dX11_move_103 : decode cX11_move 103 = .ok (.iload 5, 2) := by decide +kernel
theorem dX11_move_105 : decode cX11_move 105 = .ok (.iload 4, 2) := by decide +kernel
theorem dX11_move_107 : decode cX11_move 107 = .ok (.invokevirtual 493, 3) := by decide +kernel
theorem dX11_move_110 : decode cX11_move 110 = .ok (.iconst 0, 1) := by decide +kernel
theorem dX11_move_111 : decode cX11_move 111 = .ok (.istore 6, 2) := by decide +kernel
theorem dX11_move_113 : decode cX11_move 113 = .ok (.iload 6, 2) := by decide +kernel
theorem dX11_move_115 : decode cX11_move 115 = .ok (.iconst 4, 1) := by decide +kernel
theorem dX11_move_116 : decode cX11_move 116 = .ok (.iload 4, 2) := by decide +kernel
theorem dX11_move_118 : decode cX11_move 118 = .ok (.imul, 1) := by decide +kernel
theorem dX11_move_119 : decode cX11_move 119 = .ok (.if_icmp .ge 31, 3) := by decide +kernel
theorem dX11_move_122 : decode cX11_move 122 = .ok (.aload_n 0, 1) := by decide +kernel
theorem dX11_move_123 : decode cX11_move 123 = .ok (.getfield 7, 3) := by decide +kernel
theorem dX11_move_126 : decode cX11_move 126 = .ok (.bipush 126, 2) := by decide +kernel
theorem dX11_move_128 : decode cX11_move 128 = .ok (.iconst 4, 1) := by decide +kernel
theorem dX11_move_129 : decode cX11_move 129 = .ok (.iload 5, 2) := by decide +kernel
theorem dX11_move_131 : decode cX11_move 131 = .ok (.imul, 1) := by decide +kernel
theorem dX11_move_132 : decode cX11_move 132 = .ok (.iadd, 1) := by decide +kernel
theorem dX11_move_133 : decode cX11_move 133 = .ok (.iload 6, 2) := by decide +kernel
theorem dX11_move_135 : decode cX11_move 135 = .ok (.iadd, 1) := by decide +kernel
theorem dX11_move_136 : decode cX11_move 136 = .ok (.aload_n 0, 1) := by decide +kernel
theorem dX11_move_137 : decode cX11_move 137 = .ok (.getfield 96, 3) := by decide +kernel
theorem dX11_move_140 : decode cX11_move 140 = .ok (.iload 6, 2) := by decide +kernel
theorem dX11_move_142 : decode cX11_move 142 = .ok (.iaload, 1) := by decide +kernel
theorem dX11_move_143 : decode cX11_move 143 = .ok (.iastore, 1) := by decide +kernel
theorem dX11_move_144 : decode cX11_move 144 = .ok (.iinc 6 1, 3) := by decide +kernel
theorem dX11_move_147 : decode cX11_move 147 = .ok (.goto (-34), 3) := by decide +kernel
theorem dX11_move_150 : decode cX11_move 150 = .ok (.aload_n 0, 1) := by decide +kernel
theorem dX11_move_151 : decode cX11_move 151 = .ok (.invokevirtual 497, 3) := by decide +kernel
theorem dX11_move_154 : decode cX11_move 154 = .ok (.ireturn, 1) := by decide +kernel
theorem dX11_setWeek_0 : decode cX11_setWeek 0 = .ok (.aload_n 0, 1) := by decide +kernel
theorem dX11_setWeek_1 : decode cX11_setWeek 1 = .ok (.iload_n 1, 1) := by decide +kernel
theorem dX11_setWeek_2 : decode cX11_setWeek 2 = .ok (.iconst 0, 1) := by decide +kernel
theorem dX11_setWeek_3 : decode cX11_setWeek 3 = .ok (.bipush 99, 2) := by decide +kernel
theorem dX11_setWeek_5 : decode cX11_setWeek 5 = .ok (.invokestatic 112, 3) := by decide +kernel
theorem dX11_setWeek_8 : decode cX11_setWeek 8 = .ok (.invokevirtual 239, 3) := by decide +kernel
theorem dX11_setWeek_11 : decode cX11_setWeek 11 = .ok (.ifCond .ne 5, 3) := by decide +kernel
theorem dX11_setWeek_14 : decode cX11_setWeek 14 = .ok (.iconst 0, 1) := by decide +kernel
theorem dX11_setWeek_15 : decode cX11_setWeek 15 = .ok (.ireturn, 1) := by decide +kernel
theorem dX11_setWeek_16 : decode cX11_setWeek 16 = .ok (.aload_n 0, 1) := by decide +kernel
theorem dX11_setWeek_17 : decode cX11_setWeek 17 = .ok (.invokevirtual 477, 3) := by decide +kernel
theorem dX11_setWeek_20 : decode cX11_setWeek 20 = .ok (.aload_n 0, 1) := by decide +kernel
theorem dX11_setWeek_21 : decode cX11_setWeek 21 = .ok (.getfield 7, 3) := by decide +kernel
theorem dX11_setWeek_24 : decode cX11_setWeek 24 = .ok (.iconst 0, 1) := by decide +kernel
theorem dX11_setWeek_25 : decode cX11_setWeek 25 = .ok (.iload_n 1, 1) := by decide +kernel
theorem dX11_setWeek_26 : decode cX11_setWeek 26 = .ok (.iastore, 1) := by decide +kernel
theorem dX11_setWeek_27 : decode cX11_setWeek 27 = .ok (.aload_n 0, 1) := by decide +kernel
theorem dX11_setWeek_28 : decode cX11_setWeek 28 = .ok (.iload_n 1, 1) := by decide +kernel
theorem dX11_setWeek_29 : decode cX11_setWeek 29 = .ok (.invokevirtual 230, 3) := by decide +kernel
theorem dX11_setWeek_32 : decode cX11_setWeek 32 = .ok (.invokestatic 227, 3) := by decide +kernel
theorem dX11_setWeek_35 : decode cX11_setWeek 35 = .ok (.ireturn, 1) := by decide +kernel
theorem dX11_setVoice_0 : decode cX11_setVoice 0 = .ok (.aload_n 0, 1) := by decide +kernel
theorem dX11_setVoice_1 : decode cX11_setVoice 1 = .ok (.iload_n 1, 1) := by decide +kernel
theorem dX11_setVoice_2 : decode cX11_setVoice 2 = .ok (.iconst 1, 1) := by decide +kernel
theorem dX11_setVoice_3 : decode cX11_setVoice 3 = .ok (.bipush 20, 2) := by decide +kernel
theorem dX11_setVoice_5 : decode cX11_setVoice 5 = .ok (.invokestatic 112, 3) := by decide +kernel
theorem dX11_setVoice_8 : decode cX11_setVoice 8 = .ok (.ifCond .eq 17, 3) := by decide +kernel
theorem dX11_setVoice_11 : decode cX11_setVoice 11 = .ok (.iload_n 2, 1) := by decide +kernel
theorem dX11_setVoice_12 : decode cX11_setVoice 12 = .ok (.iconst 0, 1) := by decide +kernel
theorem dX11_setVoice_13 : decode cX11_setVoice 13 = .ok (.bipush 50, 2) := by decide +kernel
theorem dX11_setVoice_15 : decode cX11_setVoice 15 = .ok (.invokestatic 112, 3) := by decide +kernel
theorem dX11_setVoice_18 : decode cX11_setVoice 18 = .ok (.ifCond .eq 7, 3) := by decide +kernel
theorem dX11_setVoice_21 : decode cX11_setVoice 21 = .ok (.iconst 1, 1) := by decide +kernel
theorem dX11_setVoice_22 : decode cX11_setVoice 22 = .ok (.goto 4, 3) := by decide +kernel
theorem dX11_setVoice_25 : decode cX11_setVoice 25 = .ok (.iconst 0, 1) := by decide +kernel
theorem dX11_setVoice_26 : decode cX11_setVoice 26 = .ok (.invokevirtual 239, 3) := by decide +kernel
theorem dX11_setVoice_29 : decode cX11_setVoice 29 = .ok (.ifCond .ne 5, 3) := by decide +kernel
theorem dX11_setVoice_32 : decode cX11_setVoice 32 = .ok (.iconst 0, 1) := by decide +kernel
theorem dX11_setVoice_33 : decode cX11_setVoice 33 = .ok (.ireturn, 1) := by decide +kernel
theorem dX11_setVoice_34 : decode cX11_setVoice 34 = .ok (.aload_n 0, 1) := by decide +kernel
theorem dX11_setVoice_35 : decode cX11_setVoice 35 = .ok (.invokevirtual 477, 3) := by decide +kernel
theorem dX11_setVoice_38 : decode cX11_setVoice 38 = .ok (.aload_n 0, 1) := by decide +kernel
theorem dX11_setVoice_39 : decode cX11_setVoice 39 = .ok (.getfield 7, 3) := by decide +kernel
theorem dX11_setVoice_42 : decode cX11_setVoice 42 = .ok (.iconst 1, 1) := by decide +kernel
theorem dX11_setVoice_43 : decode cX11_setVoice 43 = .ok (.iload_n 1, 1) := by decide +kernel
theorem dX11_setVoice_44 : decode cX11_setVoice 44 = .ok (.iastore, 1) := by decide +kernel
theorem dX11_setVoice_45 : decode cX11_setVoice 45 = .ok (.aload_n 0, 1) := by decide +kernel
theorem dX11_setVoice_46 : decode cX11_setVoice 46 = .ok (.getfield 7, 3) := by decide +kernel
theorem dX11_setVoice_49 : decode cX11_setVoice 49 = .ok (.iconst 2, 1) := by decide +kernel
theorem dX11_setVoice_50 : decode cX11_setVoice 50 = .ok (.iload_n 2, 1) := by decide +kernel
theorem dX11_setVoice_51 : decode cX11_setVoice 51 = .ok (.iastore, 1) := by decide +kernel
theorem dX11_setVoice_52 : decode cX11_setVoice 52 = .ok (.aload_n 0, 1) := by decide +kernel
theorem dX11_setVoice_53 : decode cX11_setVoice 53 = .ok (.invokevirtual 212, 3) := by decide +kernel
theorem dX11_setVoice_56 : decode cX11_setVoice 56 = .ok (.ireturn, 1) := by decide +kernel
theorem dX11_setSlack_0 : decode cX11_setSlack 0 = .ok (.aload_n 0, 1) := by decide +kernel
theorem dX11_setSlack_1 : decode cX11_setSlack 1 = .ok (.iload_n 1, 1) := by decide +kernel
theorem dX11_setSlack_2 : decode cX11_setSlack 2 = .ok (.iconst 0, 1) := by decide +kernel
theorem dX11_setSlack_3 : decode cX11_setSlack 3 = .ok (.bipush 100, 2) := by decide +kernel
theorem dX11_setSlack_5 : decode cX11_setSlack 5 = .ok (.invokestatic 112, 3) := by decide +kernel
theorem dX11_setSlack_8 : decode cX11_setSlack 8 = .ok (.invokevirtual 239, 3) := by decide +kernel
theorem dX11_setSlack_11 : decode cX11_setSlack 11 = .ok (.ifCond .ne 5, 3) := by decide +kernel
theorem dX11_setSlack_14 : decode cX11_setSlack 14 = .ok (.iconst 0, 1) := by decide +kernel
theorem dX11_setSlack_15 : decode cX11_setSlack 15 = .ok (.ireturn, 1) := by decide +kernel
theorem dX11_setSlack_16 : decode cX11_setSlack 16 = .ok (.aload_n 0, 1) := by decide +kernel
theorem dX11_setSlack_17 : decode cX11_setSlack 17 = .ok (.invokevirtual 477, 3) := by decide +kernel
theorem dX11_setSlack_20 : decode cX11_setSlack 20 = .ok (.aload_n 0, 1) := by decide +kernel
theorem dX11_setSlack_21 : decode cX11_setSlack 21 = .ok (.getfield 7, 3) := by decide +kernel
theorem dX11_setSlack_24 : decode cX11_setSlack 24 = .ok (.iconst 4, 1) := by decide +kernel
theorem dX11_setSlack_25 : decode cX11_setSlack 25 = .ok (.iaload, 1) := by decide +kernel
theorem dX11_setSlack_26 : decode cX11_setSlack 26 = .ok (.istore_n 2, 1) := by decide +kernel
theorem dX11_setSlack_27 : decode cX11_setSlack 27 = .ok (.aload_n 0, 1) := by decide +kernel
theorem dX11_setSlack_28 : decode cX11_setSlack 28 = .ok (.getfield 7, 3) := by decide +kernel
theorem dX11_setSlack_31 : decode cX11_setSlack 31 = .ok (.iconst 4, 1) := by decide +kernel
theorem dX11_setSlack_32 : decode cX11_setSlack 32 = .ok (.iload_n 1, 1) := by decide +kernel
theorem dX11_setSlack_33 : decode cX11_setSlack 33 = .ok (.iastore, 1) := by decide +kernel
theorem dX11_setSlack_34 : decode cX11_setSlack 34 = .ok (.iload_n 2, 1) := by decide +kernel
theorem dX11_setSlack_35 : decode cX11_setSlack 35 = .ok (.ireturn, 1) := by decide +kernel
theorem dX11_writes_0 : decode cX11_writes 0 = .ok (.aload_n 0, 1) := by decide +kernel
theorem dX11_writes_1 : decode cX11_writes 1 = .ok (.getfield 99, 3) := by decide +kernel
theorem dX11_writes_4 : decode cX11_writes 4 = .ok (.aload_n 0, 1) := by decide +kernel
theorem dX11_writes_5 : decode cX11_writes 5 = .ok (.getfield 509, 3) := by decide +kernel
theorem dX11_writes_8 : decode cX11_writes 8 = .ok (.iload_n 1, 1) := by decide +kernel
theorem dX11_writes_9 : decode cX11_writes 9 = .ok (.iastore, 1) := by decide +kernel
theorem dX11_writes_10 : decode cX11_writes 10 = .ok (.aload_n 0, 1) := by decide +kernel
theorem dX11_writes_11 : decode cX11_writes 11 = .ok (.dup, 1) := by decide +kernel
theorem dX11_writes_12 : decode cX11_writes 12 = .ok (.getfield 509, 3) := by decide +kernel
theorem dX11_writes_15 : decode cX11_writes 15 = .ok (.iconst 1, 1) := by decide +kernel
theorem dX11_writes_16 : decode cX11_writes 16 = .ok (.iadd, 1) := by decide +kernel
theorem dX11_writes_17 : decode cX11_writes 17 = .ok (.putfield 509, 3) := by decide +kernel
theorem dX11_writes_20 : decode cX11_writes 20 = .ok (.return_, 1) := by decide +kernel
theorem dX11_writesWord_0 : decode cX11_writesWord 0 = .ok (.iconst 0, 1) := by decide +kernel
theorem dX11_writesWord_1 : decode cX11_writesWord 1 = .ok (.istore_n 2, 1) := by decide +kernel
theorem dX11_writesWord_2 : decode cX11_writesWord 2 = .ok (.iload_n 2, 1) := by decide +kernel
theorem dX11_writesWord_3 : decode cX11_writesWord 3 = .ok (.aload_n 1, 1) := by decide +kernel
theorem dX11_writesWord_4 : decode cX11_writesWord 4 = .ok (.invokevirtual 284, 3) := by decide +kernel
theorem dX11_writesWord_7 : decode cX11_writesWord 7 = .ok (.if_icmp .ge 18, 3) := by decide +kernel
theorem dX11_writesWord_10 : decode cX11_writesWord 10 = .ok (.aload_n 0, 1) := by decide +kernel
theorem dX11_writesWord_11 : decode cX11_writesWord 11 = .ok (.aload_n 1, 1) := by decide +kernel
theorem dX11_writesWord_12 : decode cX11_writesWord 12 = .ok (.iload_n 2, 1) := by decide +kernel
theorem dX11_writesWord_13 : decode cX11_writesWord 13 = .ok (.invokevirtual 288, 3) := by decide +kernel
theorem dX11_writesWord_16 : decode cX11_writesWord 16 = .ok (.invokevirtual 512, 3) := by decide +kernel
theorem dX11_writesWord_19 : decode cX11_writesWord 19 = .ok (.iinc 2 1, 3) := by decide +kernel
theorem dX11_writesWord_22 : decode cX11_writesWord 22 = .ok (.goto (-20), 3) := by decide +kernel
theorem dX11_writesWord_25 : decode cX11_writesWord 25 = .ok (.return_, 1) := by decide +kernel
theorem dX11_writesNumber_0 : decode cX11_writesNumber 0 = .ok (.iconst 1, 1) := by decide +kernel
theorem dX11_writesNumber_1 : decode cX11_writesNumber 1 = .ok (.istore_n 2, 1) := by decide +kernel
theorem dX11_writesNumber_2 : decode cX11_writesNumber 2 = .ok (.iload_n 1, 1) := by decide +kernel
theorem dX11_writesNumber_3 : decode cX11_writesNumber 3 = .ok (.iload_n 2, 1) := by decide +kernel
theorem dX11_writesNumber_4 : decode cX11_writesNumber 4 = .ok (.idiv, 1) := by decide +kernel
theorem dX11_writesNumber_5 : decode cX11_writesNumber 5 = .ok (.bipush 9, 2) := by decide +kernel
theorem dX11_writesNumber_7 : decode cX11_writesNumber 7 = .ok (.if_icmp .le 11, 3) := by decide +kernel
theorem dX11_writesNumber_10 : decode cX11_writesNumber 10 = .ok (.iload_n 2, 1) := by decide +kernel
theorem dX11_writesNumber_11 : decode cX11_writesNumber 11 = .ok (.bipush 10, 2) := by decide +kernel
theorem dX11_writesNumber_13 : decode cX11_writesNumber 13 = .ok (.imul, 1) := by decide +kernel
theorem dX11_writesNumber_14 : decode cX11_writesNumber 14 = .ok (.istore_n 2, 1) := by decide +kernel
theorem dX11_writesNumber_15 : decode cX11_writesNumber 15 = .ok (.goto (-13), 3) := by decide +kernel
theorem dX11_writesNumber_18 : decode cX11_writesNumber 18 = .ok (.iload_n 2, 1) := by decide +kernel
theorem dX11_writesNumber_19 : decode cX11_writesNumber 19 = .ok (.istore_n 3, 1) := by decide +kernel
theorem dX11_writesNumber_20 : decode cX11_writesNumber 20 = .ok (.iload_n 3, 1) := by decide +kernel
theorem dX11_writesNumber_21 : decode cX11_writesNumber 21 = .ok (.ifCond .le 24, 3) := by decide +kernel
theorem dX11_writesNumber_24 : decode cX11_writesNumber 24 = .ok (.aload_n 0, 1) := by decide +kernel
theorem dX11_writesNumber_25 : decode cX11_writesNumber 25 = .ok (.bipush 48, 2) := by decide +kernel
theorem dX11_writesNumber_27 : decode cX11_writesNumber 27 = .ok (.iload_n 1, 1) := by decide +kernel
theorem dX11_writesNumber_28 : decode cX11_writesNumber 28 = .ok (.iload_n 3, 1) := by decide +kernel
theorem dX11_writesNumber_29 : decode cX11_writesNumber 29 = .ok (.idiv, 1) := by decide +kernel
theorem dX11_writesNumber_30 : decode cX11_writesNumber 30 = .ok (.bipush 10, 2) := by decide +kernel
theorem dX11_writesNumber_32 : decode cX11_writesNumber 32 = .ok (.irem, 1) := by decide +kernel
theorem dX11_writesNumber_33 : decode cX11_writesNumber 33 = .ok (.iadd, 1) := by decide +kernel
theorem dX11_writesNumber_34 : decode cX11_writesNumber 34 = .ok (.invokevirtual 512, 3) := by decide +kernel
theorem dX11_writesNumber_37 : decode cX11_writesNumber 37 = .ok (.iload_n 3, 1) := by decide +kernel
theorem dX11_writesNumber_38 : decode cX11_writesNumber 38 = .ok (.bipush 10, 2) := by decide +kernel
theorem dX11_writesNumber_40 : decode cX11_writesNumber 40 = .ok (.idiv, 1) := by decide +kernel
theorem dX11_writesNumber_41 : decode cX11_writesNumber 41 = .ok (.istore_n 3, 1) := by decide +kernel
theorem dX11_writesNumber_42 : decode cX11_writesNumber 42 = .ok (.goto (-22), 3) := by decide +kernel
theorem dX11_writesNumber_45 : decode cX11_writesNumber 45 = .ok (.return_, 1) := by decide +kernel
theorem dX11_writesCut_0 : decode cX11_writesCut 0 = .ok (.aload_n 0, 1) := by decide +kernel
theorem dX11_writesCut_1 : decode cX11_writesCut 1 = .ok (.ldc_w 515, 3) := by decide +kernel
theorem dX11_writesCut_4 : decode cX11_writesCut 4 = .ok (.invokevirtual 517, 3) := by decide +kernel
theorem dX11_writesCut_7 : decode cX11_writesCut 7 = .ok (.aload_n 0, 1) := by decide +kernel
theorem dX11_writesCut_8 : decode cX11_writesCut 8 = .ok (.aload_n 0, 1) := by decide +kernel
theorem dX11_writesCut_9 : decode cX11_writesCut 9 = .ok (.iload_n 1, 1) := by decide +kernel
theorem dX11_writesCut_10 : decode cX11_writesCut 10 = .ok (.iconst 1, 1) := by decide +kernel
theorem dX11_writesCut_11 : decode cX11_writesCut 11 = .ok (.invokevirtual 129, 3) := by decide +kernel
theorem dX11_writesCut_14 : decode cX11_writesCut 14 = .ok (.invokevirtual 520, 3) := by decide +kernel
theorem dX11_writesCut_17 : decode cX11_writesCut 17 = .ok (.aload_n 0, 1) := by decide +kernel
theorem dX11_writesCut_18 : decode cX11_writesCut 18 = .ok (.iload_n 1, 1) := by decide +kernel
theorem dX11_writesCut_19 : decode cX11_writesCut 19 = .ok (.iconst 2, 1) := by decide +kernel
theorem dX11_writesCut_20 : decode cX11_writesCut 20 = .ok (.invokevirtual 129, 3) := by decide +kernel
theorem dX11_writesCut_23 : decode cX11_writesCut 23 = .ok (.ifCond .gt 24, 3) := by decide +kernel
theorem dX11_writesCut_26 : decode cX11_writesCut 26 = .ok (.aload_n 0, 1) := by decide +kernel
theorem dX11_writesCut_27 : decode cX11_writesCut 27 = .ok (.iload_n 1, 1) := by decide +kernel
theorem dX11_writesCut_28 : decode cX11_writesCut 28 = .ok (.iconst 3, 1) := by decide +kernel
theorem dX11_writesCut_29 : decode cX11_writesCut 29 = .ok (.invokevirtual 129, 3) := by decide +kernel
theorem dX11_writesCut_32 : decode cX11_writesCut 32 = .ok (.aload_n 0, 1) := by decide +kernel
theorem dX11_writesCut_33 : decode cX11_writesCut 33 = .ok (.aload_n 0, 1) := by decide +kernel
theorem dX11_writesCut_34 : decode cX11_writesCut 34 = .ok (.iload_n 1, 1) := by decide +kernel
theorem dX11_writesCut_35 : decode cX11_writesCut 35 = .ok (.iconst 1, 1) := by decide +kernel
theorem dX11_writesCut_36 : decode cX11_writesCut 36 = .ok (.invokevirtual 129, 3) := by decide +kernel
theorem dX11_writesCut_39 : decode cX11_writesCut 39 = .ok (.invokevirtual 218, 3) := by decide +kernel
theorem dX11_writesCut_42 : decode cX11_writesCut 42 = .ok (.iconst 1, 1) := by decide +kernel
theorem dX11_writesCut_43 : decode cX11_writesCut 43 = .ok (.isub, 1) := by decide +kernel
theorem dX11_writesCut_44 : decode cX11_writesCut 44 = .ok (.if_icmp .ge 37, 3) := by decide +kernel
theorem dX11_writesCut_47 : decode cX11_writesCut 47 = .ok (.aload_n 0, 1) := by decide +kernel
theorem dX11_writesCut_48 : decode cX11_writesCut 48 = .ok (.ldc_w 523, 3) := by decide +kernel
theorem dX11_writesCut_51 : decode cX11_writesCut 51 = .ok (.invokevirtual 517, 3) := by decide +kernel
theorem dX11_writesCut_54 : decode cX11_writesCut 54 = .ok (.aload_n 0, 1) := by decide +kernel
theorem dX11_writesCut_55 : decode cX11_writesCut 55 = .ok (.aload_n 0, 1) := by decide +kernel
theorem dX11_writesCut_56 : decode cX11_writesCut 56 = .ok (.iload_n 1, 1) := by decide +kernel
theorem dX11_writesCut_57 : decode cX11_writesCut 57 = .ok (.iconst 2, 1) := by decide +kernel
theorem dX11_writesCut_58 : decode cX11_writesCut 58 = .ok (.invokevirtual 129, 3) := by decide +kernel
theorem dX11_writesCut_61 : decode cX11_writesCut 61 = .ok (.invokevirtual 520, 3) := by decide +kernel
theorem dX11_writesCut_64 : decode cX11_writesCut 64 = .ok (.aload_n 0, 1) := by decide +kernel
theorem dX11_writesCut_65 : decode cX11_writesCut 65 = .ok (.ldc_w 525, 3) := by decide +kernel
theorem dX11_writesCut_68 : decode cX11_writesCut 68 = .ok (.invokevirtual 517, 3) := by decide +kernel
theorem dX11_writesCut_71 : decode cX11_writesCut 71 = .ok (.aload_n 0, 1) := by decide +kernel
theorem dX11_writesCut_72 : decode cX11_writesCut 72 = .ok (.aload_n 0, 1) := by decide +kernel
theorem dX11_writesCut_73 : decode cX11_writesCut 73 = .ok (.iload_n 1, 1) := by decide +kernel
theorem dX11_writesCut_74 : decode cX11_writesCut 74 = .ok (.iconst 3, 1) := by decide +kernel
theorem dX11_writesCut_75 : decode cX11_writesCut 75 = .ok (.invokevirtual 129, 3) := by decide +kernel
theorem dX11_writesCut_78 : decode cX11_writesCut 78 = .ok (.invokevirtual 520, 3) := by decide +kernel
theorem dX11_writesCut_81 : decode cX11_writesCut 81 = .ok (.aload_n 0, 1) := by decide +kernel
theorem dX11_writesCut_82 : decode cX11_writesCut 82 = .ok (.bipush 59, 2) := by decide +kernel
theorem dX11_writesCut_84 : decode cX11_writesCut 84 = .ok (.invokevirtual 512, 3) := by decide +kernel
theorem dX11_writesCut_87 : decode cX11_writesCut 87 = .ok (.return_, 1) := by decide +kernel
theorem dX11_writesRow_0 : decode cX11_writesRow 0 = .ok (.aload_n 0, 1) := by decide +kernel
theorem dX11_writesRow_1 : decode cX11_writesRow 1 = .ok (.iload_n 1, 1) := by decide +kernel
theorem dX11_writesRow_2 : decode cX11_writesRow 2 = .ok (.iconst 0, 1) := by decide +kernel
theorem dX11_writesRow_3 : decode cX11_writesRow 3 = .ok (.invokevirtual 129, 3) := by decide +kernel
theorem dX11_writesRow_6 : decode cX11_writesRow 6 = .ok (.tableswitch 94 0 4 #[34, 42, 94, 94, 84], 34) := by decide +kernel
theorem dX11_writesRow_40 : decode cX11_writesRow 40 = .ok (.aload_n 0, 1) := by decide +kernel
theorem dX11_writesRow_41 : decode cX11_writesRow 41 = .ok (.iload_n 1, 1) := by decide +kernel
theorem dX11_writesRow_42 : decode cX11_writesRow 42 = .ok (.invokevirtual 527, 3) := by decide +kernel
theorem dX11_writesRow_45 : decode cX11_writesRow 45 = .ok (.goto 94, 3) := by decide +kernel
theorem dX11_writesRow_48 : decode cX11_writesRow 48 = .ok (.aload_n 0, 1) := by decide +kernel
theorem dX11_writesRow_49 : decode cX11_writesRow 49 = .ok (.ldc_w 530, 3) := by decide +kernel
theorem dX11_writesRow_52 : decode cX11_writesRow 52 = .ok (.invokevirtual 517, 3) := by decide +kernel
theorem dX11_writesRow_55 : decode cX11_writesRow 55 = .ok (.aload_n 0, 1) := by decide +kernel
theorem dX11_writesRow_56 : decode cX11_writesRow 56 = .ok (.aload_n 0, 1) := by decide +kernel
theorem dX11_writesRow_57 : decode cX11_writesRow 57 = .ok (.iload_n 1, 1) := by decide +kernel
theorem dX11_writesRow_58 : decode cX11_writesRow 58 = .ok (.iconst 1, 1) := by decide +kernel
theorem dX11_writesRow_59 : decode cX11_writesRow 59 = .ok (.invokevirtual 129, 3) := by decide +kernel
theorem dX11_writesRow_62 : decode cX11_writesRow 62 = .ok (.invokevirtual 520, 3) := by decide +kernel
theorem dX11_writesRow_65 : decode cX11_writesRow 65 = .ok (.aload_n 0, 1) := by decide +kernel
theorem dX11_writesRow_66 : decode cX11_writesRow 66 = .ok (.bipush 32, 2) := by decide +kernel
theorem dX11_writesRow_68 : decode cX11_writesRow 68 = .ok (.invokevirtual 512, 3) := by decide +kernel
theorem dX11_writesRow_71 : decode cX11_writesRow 71 = .ok (.aload_n 0, 1) := by decide +kernel
theorem dX11_writesRow_72 : decode cX11_writesRow 72 = .ok (.aload_n 0, 1) := by decide +kernel
theorem dX11_writesRow_73 : decode cX11_writesRow 73 = .ok (.iload_n 1, 1) := by decide +kernel
theorem dX11_writesRow_74 : decode cX11_writesRow 74 = .ok (.iconst 2, 1) := by decide +kernel
theorem dX11_writesRow_75 : decode cX11_writesRow 75 = .ok (.invokevirtual 129, 3) := by decide +kernel
theorem dX11_writesRow_78 : decode cX11_writesRow 78 = .ok (.invokevirtual 520, 3) := by decide +kernel
theorem dX11_writesRow_81 : decode cX11_writesRow 81 = .ok (.aload_n 0, 1) := by decide +kernel
theorem dX11_writesRow_82 : decode cX11_writesRow 82 = .ok (.bipush 59, 2) := by decide +kernel
theorem dX11_writesRow_84 : decode cX11_writesRow 84 = .ok (.invokevirtual 512, 3) := by decide +kernel
theorem dX11_writesRow_87 : decode cX11_writesRow 87 = .ok (.goto 52, 3) := by decide +kernel
theorem dX11_writesRow_90 : decode cX11_writesRow 90 = .ok (.aload_n 0, 1) := by decide +kernel
theorem dX11_writesRow_91 : decode cX11_writesRow 91 = .ok (.ldc_w 532, 3) := by decide +kernel
theorem dX11_writesRow_94 : decode cX11_writesRow 94 = .ok (.invokevirtual 517, 3) := by decide +kernel
theorem dX11_writesRow_97 : decode cX11_writesRow 97 = .ok (.goto 42, 3) := by decide +kernel
theorem dX11_writesRow_100 : decode cX11_writesRow 100 = .ok (.aload_n 0, 1) := by decide +kernel
theorem dX11_writesRow_101 : decode cX11_writesRow 101 = .ok (.aload_n 0, 1) := by decide +kernel
theorem dX11_writesRow_102 : decode cX11_writesRow 102 = .ok (.iload_n 1, 1) := by decide +kernel
theorem dX11_writesRow_103 : decode cX11_writesRow 103 = .ok (.iconst 0, 1) := by decide +kernel
theorem dX11_writesRow_104 : decode cX11_writesRow 104 = .ok (.invokevirtual 129, 3) := by decide +kernel
theorem dX11_writesRow_107 : decode cX11_writesRow 107 = .ok (.iconst 2, 1) := by decide +kernel
theorem dX11_writesRow_108 : decode cX11_writesRow 108 = .ok (.if_icmp .ne 9, 3) := by decide +kernel
theorem dX11_writesRow_111 : decode cX11_writesRow 111 = .ok (.ldc_w 534, 3) := by decide +kernel
theorem dX11_writesRow_114 : decode cX11_writesRow 114 = .ok (.goto 6, 3) := by decide +kernel
theorem dX11_writesRow_117 : decode cX11_writesRow 117 = .ok (.ldc_w 536, 3) := by decide +kernel
theorem dX11_writesRow_120 : decode cX11_writesRow 120 = .ok (.invokevirtual 517, 3) := by decide +kernel
theorem dX11_writesRow_123 : decode cX11_writesRow 123 = .ok (.aload_n 0, 1) := by decide +kernel
theorem dX11_writesRow_124 : decode cX11_writesRow 124 = .ok (.aload_n 0, 1) := by decide +kernel
theorem dX11_writesRow_125 : decode cX11_writesRow 125 = .ok (.iload_n 1, 1) := by decide +kernel
theorem dX11_writesRow_126 : decode cX11_writesRow 126 = .ok (.iconst 1, 1) := by decide +kernel
theorem dX11_writesRow_127 : decode cX11_writesRow 127 = .ok (.invokevirtual 129, 3) := by decide +kernel
theorem dX11_writesRow_130 : decode cX11_writesRow 130 = .ok (.invokevirtual 520, 3) := by decide +kernel
theorem dX11_writesRow_133 : decode cX11_writesRow 133 = .ok (.aload_n 0, 1) := by decide +kernel
theorem dX11_writesRow_134 : decode cX11_writesRow 134 = .ok (.bipush 123, 2) := by decide +kernel
theorem dX11_writesRow_136 : decode cX11_writesRow 136 = .ok (.invokevirtual 512, 3) := by decide +kernel
theorem dX11_writesRow_139 : decode cX11_writesRow 139 = .ok (.return_, 1) := by decide +kernel
theorem dX11_writeReel_0 : decode cX11_writeReel 0 = .ok (.aload_n 0, 1) := by decide +kernel
theorem dX11_writeReel_1 : decode cX11_writeReel 1 = .ok (.iconst 0, 1) := by decide +kernel
theorem dX11_writeReel_2 : decode cX11_writeReel 2 = .ok (.putfield 105, 3) := by decide +kernel
theorem dX11_writeReel_5 : decode cX11_writeReel 5 = .ok (.aload_n 0, 1) := by decide +kernel
theorem dX11_writeReel_6 : decode cX11_writeReel 6 = .ok (.iconst 0, 1) := by decide +kernel
theorem dX11_writeReel_7 : decode cX11_writeReel 7 = .ok (.putfield 509, 3) := by decide +kernel
theorem dX11_writeReel_10 : decode cX11_writeReel 10 = .ok (.iconst 0, 1) := by decide +kernel
theorem dX11_writeReel_11 : decode cX11_writeReel 11 = .ok (.istore_n 1, 1) := by decide +kernel
theorem dX11_writeReel_12 : decode cX11_writeReel 12 = .ok (.iload_n 1, 1) := by decide +kernel
theorem dX11_writeReel_13 : decode cX11_writeReel 13 = .ok (.aload_n 0, 1) := by decide +kernel
theorem dX11_writeReel_14 : decode cX11_writeReel 14 = .ok (.getfield 7, 3) := by decide +kernel
theorem dX11_writeReel_17 : decode cX11_writeReel 17 = .ok (.bipush 8, 2) := by decide +kernel
theorem dX11_writeReel_19 : decode cX11_writeReel 19 = .ok (.iaload, 1) := by decide +kernel
theorem dX11_writeReel_20 : decode cX11_writeReel 20 = .ok (.if_icmp .ge 14, 3) := by decide +kernel
theorem dX11_writeReel_23 : decode cX11_writeReel 23 = .ok (.aload_n 0, 1) := by decide +kernel
theorem dX11_writeReel_24 : decode cX11_writeReel 24 = .ok (.iload_n 1, 1) := by decide +kernel
theorem dX11_writeReel_25 : decode cX11_writeReel 25 = .ok (.invokevirtual 538, 3) := by decide +kernel
theorem dX11_writeReel_28 : decode cX11_writeReel 28 = .ok (.iinc 1 1, 3) := by decide +kernel
theorem dX11_writeReel_31 : decode cX11_writeReel 31 = .ok (.goto (-19), 3) := by decide +kernel
theorem dX11_writeReel_34 : decode cX11_writeReel 34 = .ok (.aload_n 0, 1) := by decide +kernel
theorem dX11_writeReel_35 : decode cX11_writeReel 35 = .ok (.getfield 509, 3) := by decide +kernel
theorem dX11_writeReel_38 : decode cX11_writeReel 38 = .ok (.ireturn, 1) := by decide +kernel
theorem dX11_writeVoice_0 : decode cX11_writeVoice 0 = .ok (.aload_n 0, 1) := by decide +kernel
theorem dX11_writeVoice_1 : decode cX11_writeVoice 1 = .ok (.iconst 0, 1) := by decide +kernel
theorem dX11_writeVoice_2 : decode cX11_writeVoice 2 = .ok (.putfield 105, 3) := by decide +kernel
theorem dX11_writeVoice_5 : decode cX11_writeVoice 5 = .ok (.aload_n 0, 1) := by decide +kernel
theorem dX11_writeVoice_6 : decode cX11_writeVoice 6 = .ok (.iconst 0, 1) := by decide +kernel
theorem dX11_writeVoice_7 : decode cX11_writeVoice 7 = .ok (.putfield 509, 3) := by decide +kernel
theorem dX11_writeVoice_10 : decode cX11_writeVoice 10 = .ok (.iconst 0, 1) := by decide +kernel
theorem dX11_writeVoice_11 : decode cX11_writeVoice 11 = .ok (.istore_n 1, 1) := by decide +kernel
theorem dX11_writeVoice_12 : decode cX11_writeVoice 12 = .ok (.iload_n 1, 1) := by decide +kernel
theorem dX11_writeVoice_13 : decode cX11_writeVoice 13 = .ok (.aload_n 0, 1) := by decide +kernel
theorem dX11_writeVoice_14 : decode cX11_writeVoice 14 = .ok (.getfield 7, 3) := by decide +kernel
theorem dX11_writeVoice_17 : decode cX11_writeVoice 17 = .ok (.bipush 9, 2) := by decide +kernel
theorem dX11_writeVoice_19 : decode cX11_writeVoice 19 = .ok (.iaload, 1) := by decide +kernel
theorem dX11_writeVoice_20 : decode cX11_writeVoice 20 = .ok (.if_icmp .ge 63, 3) := by decide +kernel
theorem dX11_writeVoice_23 : decode cX11_writeVoice 23 = .ok (.iload_n 1, 1) := by decide +kernel
theorem dX11_writeVoice_24 : decode cX11_writeVoice 24 = .ok (.ifCond .le 9, 3) := by decide +kernel
theorem dX11_writeVoice_27 : decode cX11_writeVoice 27 = .ok (.aload_n 0, 1) := by decide +kernel
theorem dX11_writeVoice_28 : decode cX11_writeVoice 28 = .ok (.bipush 32, 2) := by decide +kernel
theorem dX11_writeVoice_30 : decode cX11_writeVoice 30 = .ok (.invokevirtual 512, 3) := by decide +kernel
theorem dX11_writeVoice_33 : decode cX11_writeVoice 33 = .ok (.iconst 0, 1) := by decide +kernel
theorem dX11_writeVoice_34 : decode cX11_writeVoice 34 = .ok (.istore_n 2, 1) := by decide +kernel
theorem dX11_writeVoice_35 : decode cX11_writeVoice 35 = .ok (.iload_n 2, 1) := by decide +kernel
theorem dX11_writeVoice_36 : decode cX11_writeVoice 36 = .ok (.aload_n 0, 1) := by decide +kernel
theorem dX11_writeVoice_37 : decode cX11_writeVoice 37 = .ok (.iload_n 1, 1) := by decide +kernel
theorem dX11_writeVoice_38 : decode cX11_writeVoice 38 = .ok (.iconst 1, 1) := by decide +kernel
theorem dX11_writeVoice_39 : decode cX11_writeVoice 39 = .ok (.invokevirtual 165, 3) := by decide +kernel
theorem dX11_writeVoice_42 : decode cX11_writeVoice 42 = .ok (.if_icmp .ge 19, 3) := by decide +kernel
theorem dX11_writeVoice_45 : decode cX11_writeVoice 45 = .ok (.aload_n 0, 1) := by decide +kernel
theorem dX11_writeVoice_46 : decode cX11_writeVoice 46 = .ok (.aload_n 0, 1) := by decide +kernel
theorem dX11_writeVoice_47 : decode cX11_writeVoice 47 = .ok (.iload_n 1, 1) := by decide +kernel
theorem dX11_writeVoice_48 : decode cX11_writeVoice 48 = .ok (.iload_n 2, 1) := by decide +kernel
theorem dX11_writeVoice_49 : decode cX11_writeVoice 49 = .ok (.invokevirtual 168, 3) := by decide +kernel
theorem dX11_writeVoice_52 : decode cX11_writeVoice 52 = .ok (.invokevirtual 512, 3) := by decide +kernel
theorem dX11_writeVoice_55 : decode cX11_writeVoice 55 = .ok (.iinc 2 1, 3) := by decide +kernel
theorem dX11_writeVoice_58 : decode cX11_writeVoice 58 = .ok (.goto (-23), 3) := by decide +kernel
theorem dX11_writeVoice_61 : decode cX11_writeVoice 61 = .ok (.aload_n 0, 1) := by decide +kernel
theorem dX11_writeVoice_62 : decode cX11_writeVoice 62 = .ok (.iload_n 1, 1) := by decide +kernel
theorem dX11_writeVoice_63 : decode cX11_writeVoice 63 = .ok (.iconst 2, 1) := by decide +kernel
theorem dX11_writeVoice_64 : decode cX11_writeVoice 64 = .ok (.invokevirtual 165, 3) := by decide +kernel
theorem dX11_writeVoice_67 : decode cX11_writeVoice 67 = .ok (.iconst 1, 1) := by decide +kernel
theorem dX11_writeVoice_68 : decode cX11_writeVoice 68 = .ok (.if_icmp .ne 9, 3) := by decide +kernel
theorem dX11_writeVoice_71 : decode cX11_writeVoice 71 = .ok (.aload_n 0, 1) := by decide +kernel
theorem dX11_writeVoice_72 : decode cX11_writeVoice 72 = .ok (.bipush 46, 2) := by decide +kernel
theorem dX11_writeVoice_74 : decode cX11_writeVoice 74 = .ok (.invokevirtual 512, 3) := by decide +kernel
theorem dX11_writeVoice_77 : decode cX11_writeVoice 77 = .ok (.iinc 1 1, 3) := by decide +kernel
theorem dX11_writeVoice_80 : decode cX11_writeVoice 80 = .ok (.goto (-68), 3) := by decide +kernel
theorem dX11_writeVoice_83 : decode cX11_writeVoice 83 = .ok (.aload_n 0, 1) := by decide +kernel
theorem dX11_writeVoice_84 : decode cX11_writeVoice 84 = .ok (.getfield 509, 3) := by decide +kernel
theorem dX11_writeVoice_87 : decode cX11_writeVoice 87 = .ok (.ireturn, 1) := by decide +kernel
theorem dX11_output_0 : decode cX11_output 0 = .ok (.aload_n 0, 1) := by decide +kernel
theorem dX11_output_1 : decode cX11_output 1 = .ok (.iconst 0, 1) := by decide +kernel
theorem dX11_output_2 : decode cX11_output 2 = .ok (.putfield 105, 3) := by decide +kernel
theorem dX11_output_5 : decode cX11_output 5 = .ok (.iload_n 1, 1) := by decide +kernel
theorem dX11_output_6 : decode cX11_output 6 = .ok (.iconst 0, 1) := by decide +kernel
theorem dX11_output_7 : decode cX11_output 7 = .ok (.aload_n 0, 1) := by decide +kernel
theorem dX11_output_8 : decode cX11_output 8 = .ok (.getfield 509, 3) := by decide +kernel
theorem dX11_output_11 : decode cX11_output 11 = .ok (.iconst 1, 1) := by decide +kernel
theorem dX11_output_12 : decode cX11_output 12 = .ok (.isub, 1) := by decide +kernel
theorem dX11_output_13 : decode cX11_output 13 = .ok (.invokestatic 112, 3) := by decide +kernel
theorem dX11_output_16 : decode cX11_output 16 = .ok (.ifCond .eq 12, 3) := by decide +kernel
theorem dX11_output_19 : decode cX11_output 19 = .ok (.aload_n 0, 1) := by decide +kernel
theorem dX11_output_20 : decode cX11_output 20 = .ok (.getfield 99, 3) := by decide +kernel
theorem dX11_output_23 : decode cX11_output 23 = .ok (.iload_n 1, 1) := by decide +kernel
theorem dX11_output_24 : decode cX11_output 24 = .ok (.iaload, 1) := by decide +kernel
theorem dX11_output_25 : decode cX11_output 25 = .ok (.goto 4, 3) := by decide +kernel
theorem dX11_output_28 : decode cX11_output 28 = .ok (.iconst (-1), 1) := by decide +kernel
theorem dX11_output_29 : decode cX11_output 29 = .ok (.ireturn, 1) := by decide +kernel
theorem dX11_undo_0 : decode cX11_undo 0 = .ok (.aload_n 0, 1) := by decide +kernel
theorem dX11_undo_1 : decode cX11_undo 1 = .ok (.iconst 0, 1) := by decide +kernel
theorem dX11_undo_2 : decode cX11_undo 2 = .ok (.putfield 105, 3) := by decide +kernel
theorem dX11_undo_5 : decode cX11_undo 5 = .ok (.aload_n 0, 1) := by decide +kernel
theorem dX11_undo_6 : decode cX11_undo 6 = .ok (.getfield 359, 3) := by decide +kernel
theorem dX11_undo_9 : decode cX11_undo 9 = .ok (.ifCond .ne 5, 3) := by decide +kernel
theorem dX11_undo_12 : decode cX11_undo 12 = .ok (.iconst (-1), 1) := by decide +kernel
theorem dX11_undo_13 : decode cX11_undo 13 = .ok (.ireturn, 1) := by decide +kernel
theorem dX11_undo_14 : decode cX11_undo 14 = .ok (.aload_n 0, 1) := by decide +kernel
theorem dX11_undo_15 : decode cX11_undo 15 = .ok (.dup, 1) := by decide +kernel
theorem dX11_undo_16 : decode cX11_undo 16 = .ok (.getfield 359, 3) := by decide +kernel
theorem dX11_undo_19 : decode cX11_undo 19 = .ok (.iconst 1, 1) := by decide +kernel
theorem dX11_undo_20 : decode cX11_undo 20 = .ok (.isub, 1) := by decide +kernel
theorem dX11_undo_21 : decode cX11_undo 21 = .ok (.putfield 359, 3) := by decide +kernel
theorem dX11_undo_24 : decode cX11_undo 24 = .ok (.aload_n 0, 1) := by decide +kernel
theorem dX11_undo_25 : decode cX11_undo 25 = .ok (.getfield 16, 3) := by decide +kernel
theorem dX11_undo_28 : decode cX11_undo 28 = .ok (.sipush 1062, 3) := by decide +kernel
theorem dX11_undo_31 : decode cX11_undo 31 = .ok (.aload_n 0, 1) := by decide +kernel
theorem dX11_undo_32 : decode cX11_undo 32 = .ok (.getfield 359, 3) := by decide +kernel
theorem dX11_undo_35 : decode cX11_undo 35 = .ok (.imul, 1) := by decide +kernel
theorem dX11_undo_36 : decode cX11_undo 36 = .ok (.aload_n 0, 1) := by decide +kernel
theorem dX11_undo_37 : decode cX11_undo 37 = .ok (.getfield 7, 3) := by decide +kernel
theorem dX11_undo_40 : decode cX11_undo 40 = .ok (.iconst 0, 1) := by decide +kernel
theorem dX11_undo_41 : decode cX11_undo 41 = .ok (.invokestatic 346, 3) := by decide +kernel
theorem dX11_undo_44 : decode cX11_undo 44 = .ok (.aload_n 0, 1) := by decide +kernel
theorem dX11_undo_45 : decode cX11_undo 45 = .ok (.getfield 359, 3) := by decide +kernel
theorem dX11_undo_48 : decode cX11_undo 48 = .ok (.ireturn, 1) := by decide +kernel
theorem dX11_isSlot_0 : decode cX11_isSlot 0 = .ok (.iload_n 0, 1) := by decide +kernel
theorem dX11_isSlot_1 : decode cX11_isSlot 1 = .ok (.iconst 0, 1) := by decide +kernel
theorem dX11_isSlot_2 : decode cX11_isSlot 2 = .ok (.iconst 1, 1) := by decide +kernel
theorem dX11_isSlot_3 : decode cX11_isSlot 3 = .ok (.invokestatic 112, 3) := by decide +kernel
theorem dX11_isSlot_6 : decode cX11_isSlot 6 = .ok (.ireturn, 1) := by decide +kernel
theorem dX11_save_0 : decode cX11_save 0 = .ok (.aload_n 0, 1) := by decide +kernel
theorem dX11_save_1 : decode cX11_save 1 = .ok (.iload_n 1, 1) := by decide +kernel
theorem dX11_save_2 : decode cX11_save 2 = .ok (.invokestatic 541, 3) := by decide +kernel
theorem dX11_save_5 : decode cX11_save 5 = .ok (.invokevirtual 239, 3) := by decide +kernel
theorem dX11_save_8 : decode cX11_save 8 = .ok (.ifCond .ne 4, 3) := by decide +kernel
theorem dX11_save_11 : decode cX11_save 11 = .ok (.return_, 1) := by decide +kernel
theorem dX11_save_12 : decode cX11_save 12 = .ok (.aload_n 0, 1) := by decide +kernel
theorem dX11_save_13 : decode cX11_save 13 = .ok (.getfield 7, 3) := by decide +kernel
theorem dX11_save_16 : decode cX11_save 16 = .ok (.iconst 0, 1) := by decide +kernel
theorem dX11_save_17 : decode cX11_save 17 = .ok (.aload_n 0, 1) := by decide +kernel
theorem dX11_save_18 : decode cX11_save 18 = .ok (.getfield 19, 3) := by decide +kernel
theorem dX11_save_21 : decode cX11_save 21 = .ok (.sipush 1062, 3) := by decide +kernel
theorem dX11_save_24 : decode cX11_save 24 = .ok (.iload_n 1, 1) := by decide +kernel
theorem dX11_save_25 : decode cX11_save 25 = .ok (.imul, 1) := by decide +kernel
theorem dX11_save_26 : decode cX11_save 26 = .ok (.invokestatic 346, 3) := by decide +kernel
theorem dX11_save_29 : decode cX11_save 29 = .ok (.aload_n 0, 1) := by decide +kernel
theorem dX11_save_30 : decode cX11_save 30 = .ok (.getfield 25, 3) := by decide +kernel
theorem dX11_save_33 : decode cX11_save 33 = .ok (.iload_n 1, 1) := by decide +kernel
theorem dX11_save_34 : decode cX11_save 34 = .ok (.iconst 1, 1) := by decide +kernel
theorem dX11_save_35 : decode cX11_save 35 = .ok (.bastore, 1) := by decide +kernel
theorem dX11_save_36 : decode cX11_save 36 = .ok (.return_, 1) := by decide +kernel
theorem dX11_restore_0 : decode cX11_restore 0 = .ok (.aload_n 0, 1) := by decide +kernel
theorem dX11_restore_1 : decode cX11_restore 1 = .ok (.iload_n 1, 1) := by decide +kernel
theorem dX11_restore_2 : decode cX11_restore 2 = .ok (.invokestatic 541, 3) := by decide +kernel
theorem dX11_restore_5 : decode cX11_restore 5 = .ok (.iload_n 1, 1) := by decide +kernel
theorem dX11_restore_6 : decode cX11_restore 6 = .ok (.invokestatic 541, 3) := by decide +kernel
theorem dX11_restore_9 : decode cX11_restore 9 = .ok (.ifCond .eq 16, 3) := by decide +kernel
theorem dX11_restore_12 : decode cX11_restore 12 = .ok (.aload_n 0, 1) := by decide +kernel
theorem dX11_restore_13 : decode cX11_restore 13 = .ok (.getfield 25, 3) := by decide +kernel
theorem dX11_restore_16 : decode cX11_restore 16 = .ok (.iload_n 1, 1) := by decide +kernel
theorem dX11_restore_17 : decode cX11_restore 17 = .ok (.baload, 1) := by decide +kernel
theorem dX11_restore_18 : decode cX11_restore 18 = .ok (.ifCond .eq 7, 3) := by decide +kernel
theorem dX11_restore_21 : decode cX11_restore 21 = .ok (.iconst 1, 1) := by decide +kernel
theorem dX11_restore_22 : decode cX11_restore 22 = .ok (.goto 4, 3) := by decide +kernel
theorem dX11_restore_25 : decode cX11_restore 25 = .ok (.iconst 0, 1) := by decide +kernel
theorem dX11_restore_26 : decode cX11_restore 26 = .ok (.invokevirtual 429, 3) := by decide +kernel
theorem dX11_restore_29 : decode cX11_restore 29 = .ok (.ifCond .ne 4, 3) := by decide +kernel
theorem dX11_restore_32 : decode cX11_restore 32 = .ok (.return_, 1) := by decide +kernel
theorem dX11_restore_33 : decode cX11_restore 33 = .ok (.aload_n 0, 1) := by decide +kernel
theorem dX11_restore_34 : decode cX11_restore 34 = .ok (.getfield 19, 3) := by decide +kernel
theorem dX11_restore_37 : decode cX11_restore 37 = .ok (.sipush 1062, 3) := by decide +kernel
theorem dX11_restore_40 : decode cX11_restore 40 = .ok (.iload_n 1, 1) := by decide +kernel
theorem dX11_restore_41 : decode cX11_restore 41 = .ok (.imul, 1) := by decide +kernel
theorem dX11_restore_42 : decode cX11_restore 42 = .ok (.aload_n 0, 1) := by decide +kernel
theorem dX11_restore_43 : decode cX11_restore 43 = .ok (.getfield 7, 3) := by decide +kernel
theorem dX11_restore_46 : decode cX11_restore 46 = .ok (.iconst 0, 1) := by decide +kernel
theorem dX11_restore_47 : decode cX11_restore 47 = .ok (.invokestatic 346, 3) := by decide +kernel
theorem dX11_restore_50 : decode cX11_restore 50 = .ok (.aload_n 0, 1) := by decide +kernel
theorem dX11_restore_51 : decode cX11_restore 51 = .ok (.iconst 0, 1) := by decide +kernel
theorem dX11_restore_52 : decode cX11_restore 52 = .ok (.putfield 359, 3) := by decide +kernel
theorem dX11_restore_55 : decode cX11_restore 55 = .ok (.return_, 1) := by decide +kernel
