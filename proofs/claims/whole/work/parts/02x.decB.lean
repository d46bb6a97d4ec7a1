/-! What each instruction is, by program (wip/whole/mkdec.py) -/
theorem dX12_init_0 : decode cX12_init 0 = .ok (.aload_n 0, 1) := by decide +kernel
theorem dX12_init_1 : decode cX12_init 1 = .ok (.invokespecial 1, 3) := by decide +kernel
theorem dX12_init_4 : decode cX12_init 4 = .ok (.aload_n 0, 1) := by decide +kernel
theorem dX12_init_5 : decode cX12_init 5 = .ok (.sipush 1620, 3) := by decide +kernel
theorem dX12_init_8 : decode cX12_init 8 = .ok (.newarray .byte, 2) := by decide +kernel
theorem dX12_init_10 : decode cX12_init 10 = .ok (.putfield 7, 3) := by decide +kernel
theorem dX12_init_13 : decode cX12_init 13 = .ok (.aload_n 0, 1) := by decide +kernel
theorem dX12_init_14 : decode cX12_init 14 = .ok (.sipush 1600, 3) := by decide +kernel
theorem dX12_init_17 : decode cX12_init 17 = .ok (.newarray .byte, 2) := by decide +kernel
theorem dX12_init_19 : decode cX12_init 19 = .ok (.putfield 13, 3) := by decide +kernel
theorem dX12_init_22 : decode cX12_init 22 = .ok (.aload_n 0, 1) := by decide +kernel
theorem dX12_init_23 : decode cX12_init 23 = .ok (.iconst (-1), 1) := by decide +kernel
theorem dX12_init_24 : decode cX12_init 24 = .ok (.putfield 16, 3) := by decide +kernel
theorem dX12_init_27 : decode cX12_init 27 = .ok (.aload_n 0, 1) := by decide +kernel
theorem dX12_init_28 : decode cX12_init 28 = .ok (.iconst 2, 1) := by decide +kernel
theorem dX12_init_29 : decode cX12_init 29 = .ok (.newarray .int, 2) := by decide +kernel
theorem dX12_init_31 : decode cX12_init 31 = .ok (.putfield 20, 3) := by decide +kernel
theorem dX12_init_34 : decode cX12_init 34 = .ok (.aload_n 0, 1) := by decide +kernel
theorem dX12_init_35 : decode cX12_init 35 = .ok (.iconst 2, 1) := by decide +kernel
theorem dX12_init_36 : decode cX12_init 36 = .ok (.newarray .int, 2) := by decide +kernel
theorem dX12_init_38 : decode cX12_init 38 = .ok (.putfield 24, 3) := by decide +kernel
theorem dX12_init_41 : decode cX12_init 41 = .ok (.aload_n 0, 1) := by decide +kernel
theorem dX12_init_42 : decode cX12_init 42 = .ok (.iconst 2, 1) := by decide +kernel
theorem dX12_init_43 : decode cX12_init 43 = .ok (.newarray .int, 2) := by decide +kernel
theorem dX12_init_45 : decode cX12_init 45 = .ok (.putfield 27, 3) := by decide +kernel
theorem dX12_init_48 : decode cX12_init 48 = .ok (.aload_n 0, 1) := by decide +kernel
theorem dX12_init_49 : decode cX12_init 49 = .ok (.iconst 2, 1) := by decide +kernel
theorem dX12_init_50 : decode cX12_init 50 = .ok (.newarray .int, 2) := by decide +kernel
theorem dX12_init_52 : decode cX12_init 52 = .ok (.putfield 30, 3) := by decide +kernel
theorem dX12_init_55 : decode cX12_init 55 = .ok (.aload_n 0, 1) := by decide +kernel
theorem dX12_init_56 : decode cX12_init 56 = .ok (.iconst 2, 1) := by decide +kernel
theorem dX12_init_57 : decode cX12_init 57 = .ok (.newarray .int, 2) := by decide +kernel
theorem dX12_init_59 : decode cX12_init 59 = .ok (.putfield 33, 3) := by decide +kernel
theorem dX12_init_62 : decode cX12_init 62 = .ok (.aload_n 0, 1) := by decide +kernel
theorem dX12_init_63 : decode cX12_init 63 = .ok (.iconst 2, 1) := by decide +kernel
theorem dX12_init_64 : decode cX12_init 64 = .ok (.newarray .int, 2) := by decide +kernel
theorem dX12_init_66 : decode cX12_init 66 = .ok (.putfield 36, 3) := by decide +kernel
theorem dX12_init_69 : decode cX12_init 69 = .ok (.aload_n 0, 1) := by decide +kernel
theorem dX12_init_70 : decode cX12_init 70 = .ok (.iconst 2, 1) := by decide +kernel
theorem dX12_init_71 : decode cX12_init 71 = .ok (.newarray .int, 2) := by decide +kernel
theorem dX12_init_73 : decode cX12_init 73 = .ok (.putfield 39, 3) := by decide +kernel
theorem dX12_init_76 : decode cX12_init 76 = .ok (.aload_n 0, 1) := by decide +kernel
theorem dX12_init_77 : decode cX12_init 77 = .ok (.bipush 8, 2) := by decide +kernel
theorem dX12_init_79 : decode cX12_init 79 = .ok (.newarray .int, 2) := by decide +kernel
theorem dX12_init_81 : decode cX12_init 81 = .ok (.putfield 42, 3) := by decide +kernel
theorem dX12_init_84 : decode cX12_init 84 = .ok (.aload_n 0, 1) := by decide +kernel
theorem dX12_init_85 : decode cX12_init 85 = .ok (.bipush 12, 2) := by decide +kernel
theorem dX12_init_87 : decode cX12_init 87 = .ok (.newarray .int, 2) := by decide +kernel
theorem dX12_init_89 : decode cX12_init 89 = .ok (.putfield 45, 3) := by decide +kernel
theorem dX12_init_92 : decode cX12_init 92 = .ok (.aload_n 0, 1) := by decide +kernel
theorem dX12_init_93 : decode cX12_init 93 = .ok (.bipush 12, 2) := by decide +kernel
theorem dX12_init_95 : decode cX12_init 95 = .ok (.newarray .int, 2) := by decide +kernel
theorem dX12_init_97 : decode cX12_init 97 = .ok (.putfield 48, 3) := by decide +kernel
theorem dX12_init_100 : decode cX12_init 100 = .ok (.aload_n 0, 1) := by decide +kernel
theorem dX12_init_101 : decode cX12_init 101 = .ok (.bipush 12, 2) := by decide +kernel
theorem dX12_init_103 : decode cX12_init 103 = .ok (.newarray .int, 2) := by decide +kernel
theorem dX12_init_105 : decode cX12_init 105 = .ok (.putfield 51, 3) := by decide +kernel
theorem dX12_init_108 : decode cX12_init 108 = .ok (.aload_n 0, 1) := by decide +kernel
theorem dX12_init_109 : decode cX12_init 109 = .ok (.bipush 12, 2) := by decide +kernel
theorem dX12_init_111 : decode cX12_init 111 = .ok (.newarray .int, 2) := by decide +kernel
theorem dX12_init_113 : decode cX12_init 113 = .ok (.putfield 54, 3) := by decide +kernel
theorem dX12_init_116 : decode cX12_init 116 = .ok (.aload_n 0, 1) := by decide +kernel
theorem dX12_init_117 : decode cX12_init 117 = .ok (.iconst 2, 1) := by decide +kernel
theorem dX12_init_118 : decode cX12_init 118 = .ok (.newarray .int, 2) := by decide +kernel
theorem dX12_init_120 : decode cX12_init 120 = .ok (.putfield 57, 3) := by decide +kernel
theorem dX12_init_123 : decode cX12_init 123 = .ok (.aload_n 0, 1) := by decide +kernel
theorem dX12_init_124 : decode cX12_init 124 = .ok (.iconst 2, 1) := by decide +kernel
theorem dX12_init_125 : decode cX12_init 125 = .ok (.newarray .int, 2) := by decide +kernel
theorem dX12_init_127 : decode cX12_init 127 = .ok (.putfield 60, 3) := by decide +kernel
theorem dX12_init_130 : decode cX12_init 130 = .ok (.aload_n 0, 1) := by decide +kernel
theorem dX12_init_131 : decode cX12_init 131 = .ok (.bipush 8, 2) := by decide +kernel
theorem dX12_init_133 : decode cX12_init 133 = .ok (.newarray .long, 2) := by decide +kernel
theorem dX12_init_135 : decode cX12_init 135 = .ok (.putfield 63, 3) := by decide +kernel
theorem dX12_init_138 : decode cX12_init 138 = .ok (.aload_n 0, 1) := by decide +kernel
theorem dX12_init_139 : decode cX12_init 139 = .ok (.bipush 12, 2) := by decide +kernel
theorem dX12_init_141 : decode cX12_init 141 = .ok (.newarray .long, 2) := by decide +kernel
theorem dX12_init_143 : decode cX12_init 143 = .ok (.putfield 67, 3) := by decide +kernel
theorem dX12_init_146 : decode cX12_init 146 = .ok (.aload_n 0, 1) := by decide +kernel
theorem dX12_init_147 : decode cX12_init 147 = .ok (.sipush 1120, 3) := by decide +kernel
theorem dX12_init_150 : decode cX12_init 150 = .ok (.newarray .int, 2) := by decide +kernel
theorem dX12_init_152 : decode cX12_init 152 = .ok (.putfield 70, 3) := by decide +kernel
theorem dX12_init_155 : decode cX12_init 155 = .ok (.aload_n 0, 1) := by decide +kernel
theorem dX12_init_156 : decode cX12_init 156 = .ok (.sipush 1120, 3) := by decide +kernel
theorem dX12_init_159 : decode cX12_init 159 = .ok (.newarray .int, 2) := by decide +kernel
theorem dX12_init_161 : decode cX12_init 161 = .ok (.putfield 73, 3) := by decide +kernel
theorem dX12_init_164 : decode cX12_init 164 = .ok (.aload_n 0, 1) := by decide +kernel
theorem dX12_init_165 : decode cX12_init 165 = .ok (.bipush 90, 2) := by decide +kernel
theorem dX12_init_167 : decode cX12_init 167 = .ok (.newarray .int, 2) := by decide +kernel
theorem dX12_init_169 : decode cX12_init 169 = .ok (.putfield 76, 3) := by decide +kernel
theorem dX12_init_172 : decode cX12_init 172 = .ok (.aload_n 0, 1) := by decide +kernel
theorem dX12_init_173 : decode cX12_init 173 = .ok (.bipush 90, 2) := by decide +kernel
theorem dX12_init_175 : decode cX12_init 175 = .ok (.newarray .int, 2) := by decide +kernel
theorem dX12_init_177 : decode cX12_init 177 = .ok (.putfield 79, 3) := by decide +kernel
theorem dX12_init_180 : decode cX12_init 180 = .ok (.aload_n 0, 1) := by decide +kernel
theorem dX12_init_181 : decode cX12_init 181 = .ok (.bipush 60, 2) := by decide +kernel
theorem dX12_init_183 : decode cX12_init 183 = .ok (.newarray .int, 2) := by decide +kernel
theorem dX12_init_185 : decode cX12_init 185 = .ok (.putfield 82, 3) := by decide +kernel
theorem dX12_init_188 : decode cX12_init 188 = .ok (.aload_n 0, 1) := by decide +kernel
theorem dX12_init_189 : decode cX12_init 189 = .ok (.bipush 59, 2) := by decide +kernel
theorem dX12_init_191 : decode cX12_init 191 = .ok (.newarray .int, 2) := by decide +kernel
theorem dX12_init_193 : decode cX12_init 193 = .ok (.putfield 85, 3) := by decide +kernel
theorem dX12_init_196 : decode cX12_init 196 = .ok (.aload_n 0, 1) := by decide +kernel
theorem dX12_init_197 : decode cX12_init 197 = .ok (.bipush 59, 2) := by decide +kernel
theorem dX12_init_199 : decode cX12_init 199 = .ok (.newarray .int, 2) := by decide +kernel
theorem dX12_init_201 : decode cX12_init 201 = .ok (.putfield 88, 3) := by decide +kernel
theorem dX12_init_204 : decode cX12_init 204 = .ok (.aload_n 0, 1) := by decide +kernel
theorem dX12_init_205 : decode cX12_init 205 = .ok (.iconst (-1), 1) := by decide +kernel
theorem dX12_init_206 : decode cX12_init 206 = .ok (.putfield 91, 3) := by decide +kernel
theorem dX12_init_209 : decode cX12_init 209 = .ok (.aload_n 0, 1) := by decide +kernel
theorem dX12_init_210 : decode cX12_init 210 = .ok (.sipush 2419, 3) := by decide +kernel
theorem dX12_init_213 : decode cX12_init 213 = .ok (.newarray .int, 2) := by decide +kernel
theorem dX12_init_215 : decode cX12_init 215 = .ok (.putfield 94, 3) := by decide +kernel
theorem dX12_init_218 : decode cX12_init 218 = .ok (.aload_n 0, 1) := by decide +kernel
theorem dX12_init_219 : decode cX12_init 219 = .ok (.bipush 8, 2) := by decide +kernel
theorem dX12_init_221 : decode cX12_init 221 = .ok (.newarray .int, 2) := by decide +kernel
theorem dX12_init_223 : decode cX12_init 223 = .ok (.putfield 97, 3) := by decide +kernel
theorem dX12_init_226 : decode cX12_init 226 = .ok (.aload_n 0, 1) := by decide +kernel
theorem dX12_init_227 : decode cX12_init 227 = .ok (.bipush 30, 2) := by decide +kernel
theorem dX12_init_229 : decode cX12_init 229 = .ok (.newarray .int, 2) := by decide +kernel
theorem dX12_init_231 : decode cX12_init 231 = .ok (.putfield 100, 3) := by decide +kernel
theorem dX12_init_234 : decode cX12_init 234 = .ok (.aload_n 0, 1) := by decide +kernel
theorem dX12_init_235 : decode cX12_init 235 = .ok (.bipush 30, 2) := by decide +kernel
theorem dX12_init_237 : decode cX12_init 237 = .ok (.newarray .int, 2) := by decide +kernel
theorem dX12_init_239 : decode cX12_init 239 = .ok (.putfield 103, 3) := by decide +kernel
theorem dX12_init_242 : decode cX12_init 242 = .ok (.aload_n 0, 1) := by decide +kernel
theorem dX12_init_243 : decode cX12_init 243 = .ok (.bipush 30, 2) := by decide +kernel
theorem dX12_init_245 : decode cX12_init 245 = .ok (.newarray .int, 2) := by decide +kernel
theorem dX12_init_247 : decode cX12_init 247 = .ok (.putfield 106, 3) := by decide +kernel
theorem dX12_init_250 : decode cX12_init 250 = .ok (.aload_n 0, 1) := by decide +kernel
theorem dX12_init_251 : decode cX12_init 251 = .ok (.bipush 30, 2) := by decide +kernel
theorem dX12_init_253 : decode cX12_init 253 = .ok (.newarray .int, 2) := by decide +kernel
theorem dX12_init_255 : decode cX12_init 255 = .ok (.putfield 109, 3) := by decide +kernel
theorem dX12_init_258 : decode cX12_init 258 = .ok (.aload_n 0, 1) := by decide +kernel
theorem dX12_init_259 : decode cX12_init 259 = .ok (.bipush 30, 2) := by decide +kernel
theorem dX12_init_261 : decode cX12_init 261 = .ok (.newarray .int, 2) := by decide +kernel
theorem dX12_init_263 : decode cX12_init 263 = .ok (.putfield 112, 3) := by decide +kernel
theorem dX12_init_266 : decode cX12_init 266 = .ok (.aload_n 0, 1) := by decide +kernel
theorem dX12_init_267 : decode cX12_init 267 = .ok (.bipush 7, 2) := by decide +kernel
theorem dX12_init_269 : decode cX12_init 269 = .ok (.newarray .int, 2) := by decide +kernel
theorem dX12_init_271 : decode cX12_init 271 = .ok (.putfield 115, 3) := by decide +kernel
theorem dX12_init_274 : decode cX12_init 274 = .ok (.aload_n 0, 1) := by decide +kernel
theorem dX12_init_275 : decode cX12_init 275 = .ok (.bipush 64, 2) := by decide +kernel
theorem dX12_init_277 : decode cX12_init 277 = .ok (.newarray .boolean, 2) := by decide +kernel
theorem dX12_init_279 : decode cX12_init 279 = .ok (.putfield 118, 3) := by decide +kernel
theorem dX12_init_282 : decode cX12_init 282 = .ok (.aload_n 0, 1) := by decide +kernel
theorem dX12_init_283 : decode cX12_init 283 = .ok (.sipush 177, 3) := by decide +kernel
theorem dX12_init_286 : decode cX12_init 286 = .ok (.newarray .int, 2) := by decide +kernel
theorem dX12_init_288 : decode cX12_init 288 = .ok (.putfield 122, 3) := by decide +kernel
theorem dX12_init_291 : decode cX12_init 291 = .ok (.aload_n 0, 1) := by decide +kernel
theorem dX12_init_292 : decode cX12_init 292 = .ok (.iconst 3, 1) := by decide +kernel
theorem dX12_init_293 : decode cX12_init 293 = .ok (.newarray .boolean, 2) := by decide +kernel
theorem dX12_init_295 : decode cX12_init 295 = .ok (.putfield 125, 3) := by decide +kernel
theorem dX12_init_298 : decode cX12_init 298 = .ok (.aload_n 0, 1) := by decide +kernel
theorem dX12_init_299 : decode cX12_init 299 = .ok (.invokevirtual 128, 3) := by decide +kernel
theorem dX12_init_302 : decode cX12_init 302 = .ok (.aload_n 0, 1) := by decide +kernel
theorem dX12_init_303 : decode cX12_init 303 = .ok (.invokevirtual 131, 3) := by decide +kernel
theorem dX12_init_306 : decode cX12_init 306 = .ok (.return_, 1) := by decide +kernel
theorem dX12_sign_0 : decode cX12_sign 0 = .ok (.iload_n 1, 1) := by decide +kernel
theorem dX12_sign_1 : decode cX12_sign 1 = .ok (.aload_n 0, 1) := by decide +kernel
theorem dX12_sign_2 : decode cX12_sign 2 = .ok (.getfield 134, 3) := by decide +kernel
theorem dX12_sign_5 : decode cX12_sign 5 = .ok (.if_icmp .ge 16, 3) := by decide +kernel
theorem dX12_sign_8 : decode cX12_sign 8 = .ok (.aload_n 0, 1) := by decide +kernel
theorem dX12_sign_9 : decode cX12_sign 9 = .ok (.getfield 13, 3) := by decide +kernel
theorem dX12_sign_12 : decode cX12_sign 12 = .ok (.iload_n 1, 1) := by decide +kernel
theorem dX12_sign_13 : decode cX12_sign 13 = .ok (.baload, 1) := by decide +kernel
theorem dX12_sign_14 : decode cX12_sign 14 = .ok (.sipush 255, 3) := by decide +kernel
theorem dX12_sign_17 : decode cX12_sign 17 = .ok (.iand, 1) := by decide +kernel
theorem dX12_sign_18 : decode cX12_sign 18 = .ok (.goto 4, 3) := by decide +kernel
theorem dX12_sign_21 : decode cX12_sign 21 = .ok (.iconst 0, 1) := by decide +kernel
theorem dX12_sign_22 : decode cX12_sign 22 = .ok (.ireturn, 1) := by decide +kernel
theorem dX12_isLetter_0 : decode cX12_isLetter 0 = .ok (.iload_n 0, 1) := by decide +kernel
theorem dX12_isLetter_1 : decode cX12_isLetter 1 = .ok (.bipush 97, 2) := by decide +kernel
theorem dX12_isLetter_3 : decode cX12_isLetter 3 = .ok (.if_icmp .lt 13, 3) := by decide +kernel
theorem dX12_isLetter_6 : decode cX12_isLetter 6 = .ok (.iload_n 0, 1) := by decide +kernel
theorem dX12_isLetter_7 : decode cX12_isLetter 7 = .ok (.bipush 122, 2) := by decide +kernel
theorem dX12_isLetter_9 : decode cX12_isLetter 9 = .ok (.if_icmp .gt 7, 3) := by decide +kernel
theorem dX12_isLetter_12 : decode cX12_isLetter 12 = .ok (.iconst 1, 1) := by decide +kernel
theorem dX12_isLetter_13 : decode cX12_isLetter 13 = .ok (.goto 4, 3) := by decide +kernel
theorem dX12_isLetter_16 : decode cX12_isLetter 16 = .ok (.iconst 0, 1) := by decide +kernel
theorem dX12_isLetter_17 : decode cX12_isLetter 17 = .ok (.ireturn, 1) := by decide +kernel
theorem dX12_isDigit_0 : decode cX12_isDigit 0 = .ok (.iload_n 0, 1) := by decide +kernel
theorem dX12_isDigit_1 : decode cX12_isDigit 1 = .ok (.bipush 48, 2) := by decide +kernel
theorem dX12_isDigit_3 : decode cX12_isDigit 3 = .ok (.if_icmp .lt 13, 3) := by decide +kernel
theorem dX12_isDigit_6 : decode cX12_isDigit 6 = .ok (.iload_n 0, 1) := by decide +kernel
theorem dX12_isDigit_7 : decode cX12_isDigit 7 = .ok (.bipush 57, 2) := by decide +kernel
theorem dX12_isDigit_9 : decode cX12_isDigit 9 = .ok (.if_icmp .gt 7, 3) := by decide +kernel
theorem dX12_isDigit_12 : decode cX12_isDigit 12 = .ok (.iconst 1, 1) := by decide +kernel
theorem dX12_isDigit_13 : decode cX12_isDigit 13 = .ok (.goto 4, 3) := by decide +kernel
theorem dX12_isDigit_16 : decode cX12_isDigit 16 = .ok (.iconst 0, 1) := by decide +kernel
theorem dX12_isDigit_17 : decode cX12_isDigit 17 = .ok (.ireturn, 1) := by decide +kernel
theorem dX12_fails_0 : decode cX12_fails 0 = .ok (.aload_n 0, 1) := by decide +kernel
theorem dX12_fails_1 : decode cX12_fails 1 = .ok (.getfield 137, 3) := by decide +kernel
theorem dX12_fails_4 : decode cX12_fails 4 = .ok (.ifCond .le 4, 3) := by decide +kernel
theorem dX12_fails_7 : decode cX12_fails 7 = .ok (.return_, 1) := by decide +kernel
theorem dX12_fails_8 : decode cX12_fails 8 = .ok (.aload_n 0, 1) := by decide +kernel
theorem dX12_fails_9 : decode cX12_fails 9 = .ok (.iload_n 1, 1) := by decide +kernel
theorem dX12_fails_10 : decode cX12_fails 10 = .ok (.putfield 137, 3) := by decide +kernel
theorem dX12_fails_13 : decode cX12_fails 13 = .ok (.aload_n 0, 1) := by decide +kernel
theorem dX12_fails_14 : decode cX12_fails 14 = .ok (.iload_n 2, 1) := by decide +kernel
theorem dX12_fails_15 : decode cX12_fails 15 = .ok (.putfield 16, 3) := by decide +kernel
theorem dX12_fails_18 : decode cX12_fails 18 = .ok (.return_, 1) := by decide +kernel
theorem dX12_isGood_0 : decode cX12_isGood 0 = .ok (.aload_n 0, 1) := by decide +kernel
theorem dX12_isGood_1 : decode cX12_isGood 1 = .ok (.getfield 137, 3) := by decide +kernel
theorem dX12_isGood_4 : decode cX12_isGood 4 = .ok (.ifCond .ne 7, 3) := by decide +kernel
theorem dX12_isGood_7 : decode cX12_isGood 7 = .ok (.iconst 1, 1) := by decide +kernel
theorem dX12_isGood_8 : decode cX12_isGood 8 = .ok (.goto 4, 3) := by decide +kernel
theorem dX12_isGood_11 : decode cX12_isGood 11 = .ok (.iconst 0, 1) := by decide +kernel
theorem dX12_isGood_12 : decode cX12_isGood 12 = .ok (.ireturn, 1) := by decide +kernel
theorem dX12_isKept_0 : decode cX12_isKept 0 = .ok (.lload_n 0, 1) := by decide +kernel
theorem dX12_isKept_1 : decode cX12_isKept 1 = .ok (.ldc2_w 140, 3) := by decide +kernel
theorem dX12_isKept_4 : decode cX12_isKept 4 = .ok (.lcmp, 1) := by decide +kernel
theorem dX12_isKept_5 : decode cX12_isKept 5 = .ok (.ifCond .eq 67, 3) := by decide +kernel
theorem dX12_isKept_8 : decode cX12_isKept 8 = .ok (.lload_n 0, 1) := by decide +kernel
theorem dX12_isKept_9 : decode cX12_isKept 9 = .ok (.ldc2_w 142, 3) := by decide +kernel
theorem dX12_isKept_12 : decode cX12_isKept 12 = .ok (.lcmp, 1) := by decide +kernel
theorem dX12_isKept_13 : decode cX12_isKept 13 = .ok (.ifCond .eq 59, 3) := by decide +kernel
theorem dX12_isKept_16 : decode cX12_isKept 16 = .ok (.lload_n 0, 1) := by decide +kernel
theorem dX12_isKept_17 : decode cX12_isKept 17 = .ok (.ldc2_w 144, 3) := by decide +kernel
theorem dX12_isKept_20 : decode cX12_isKept 20 = .ok (.lcmp, 1) := by decide +kernel
theorem dX12_isKept_21 : decode cX12_isKept 21 = .ok (.ifCond .eq 51, 3) := by decide +kernel
theorem dX12_isKept_24 : decode cX12_isKept 24 = .ok (.lload_n 0, 1) := by decide +kernel
theorem dX12_isKept_25 : decode cX12_isKept 25 = .ok (.ldc2_w 146, 3) := by decide +kernel
theorem dX12_isKept_28 : decode cX12_isKept 28 = .ok (.lcmp, 1) := by decide +kernel
theorem dX12_isKept_29 : decode cX12_isKept 29 = .ok (.ifCond .eq 43, 3) := by decide +kernel
theorem dX12_isKept_32 : decode cX12_isKept 32 = .ok (.lload_n 0, 1) := by decide +kernel
theorem dX12_isKept_33 : decode cX12_isKept 33 = .ok (.ldc2_w 148, 3) := by decide +kernel
theorem dX12_isKept_36 : decode cX12_isKept 36 = .ok (.lcmp, 1) := by decide +kernel
theorem dX12_isKept_37 : decode cX12_isKept 37 = .ok (.ifCond .eq 35, 3) := by decide +kernel
theorem dX12_isKept_40 : decode cX12_isKept 40 = .ok (.lload_n 0, 1) := by decide +kernel
theorem dX12_isKept_41 : decode cX12_isKept 41 = .ok (.ldc2_w 150, 3) := by decide +kernel
theorem dX12_isKept_44 : decode cX12_isKept 44 = .ok (.lcmp, 1) := by decide +kernel
theorem dX12_isKept_45 : decode cX12_isKept 45 = .ok (.ifCond .eq 27, 3) := by decide +kernel
theorem dX12_isKept_48 : decode cX12_isKept 48 = .ok (.lload_n 0, 1) := by decide +kernel
theorem dX12_isKept_49 : decode cX12_isKept 49 = .ok (.ldc2_w 152, 3) := by decide +kernel
theorem dX12_isKept_52 : decode cX12_isKept 52 = .ok (.lcmp, 1) := by decide +kernel
theorem dX12_isKept_53 : decode cX12_isKept 53 = .ok (.ifCond .eq 19, 3) := by decide +kernel
theorem dX12_isKept_56 : decode cX12_isKept 56 = .ok (.lload_n 0, 1) := by decide +kernel
theorem dX12_isKept_57 : decode cX12_isKept 57 = .ok (.ldc2_w 154, 3) := by decide +kernel
theorem dX12_isKept_60 : decode cX12_isKept 60 = .ok (.lcmp, 1) := by decide +kernel
theorem dX12_isKept_61 : decode cX12_isKept 61 = .ok (.ifCond .eq 11, 3) := by decide +kernel
theorem dX12_isKept_64 : decode cX12_isKept 64 = .ok (.lload_n 0, 1) := by decide +kernel
theorem dX12_isKept_65 : decode cX12_isKept 65 = .ok (.ldc2_w 156, 3) := by decide +kernel
theorem dX12_isKept_68 : decode cX12_isKept 68 = .ok (.lcmp, 1) := by decide +kernel
theorem dX12_isKept_69 : decode cX12_isKept 69 = .ok (.ifCond .ne 7, 3) := by decide +kernel
theorem dX12_isKept_72 : decode cX12_isKept 72 = .ok (.iconst 1, 1) := by decide +kernel
theorem dX12_isKept_73 : decode cX12_isKept 73 = .ok (.goto 4, 3) := by decide +kernel
theorem dX12_isKept_76 : decode cX12_isKept 76 = .ok (.iconst 0, 1) := by decide +kernel
theorem dX12_isKept_77 : decode cX12_isKept 77 = .ok (.istore_n 2, 1) := by decide +kernel
theorem dX12_isKept_78 : decode cX12_isKept 78 = .ok (.iload_n 2, 1) := by decide +kernel
theorem dX12_isKept_79 : decode cX12_isKept 79 = .ok (.ifCond .ne 75, 3) := by decide +kernel
theorem dX12_isKept_82 : decode cX12_isKept 82 = .ok (.lload_n 0, 1) := by decide +kernel
theorem dX12_isKept_83 : decode cX12_isKept 83 = .ok (.ldc2_w 158, 3) := by decide +kernel
theorem dX12_isKept_86 : decode cX12_isKept 86 = .ok (.lcmp, 1) := by decide +kernel
theorem dX12_isKept_87 : decode cX12_isKept 87 = .ok (.ifCond .eq 67, 3) := by decide +kernel
theorem dX12_isKept_90 : decode cX12_isKept 90 = .ok (.lload_n 0, 1) := by decide +kernel
theorem dX12_isKept_91 : decode cX12_isKept 91 = .ok (.ldc2_w 160, 3) := by decide +kernel
theorem dX12_isKept_94 : decode cX12_isKept 94 = .ok (.lcmp, 1) := by decide +kernel
theorem dX12_isKept_95 : decode cX12_isKept 95 = .ok (.ifCond .eq 59, 3) := by decide +kernel
theorem dX12_isKept_98 : decode cX12_isKept 98 = .ok (.lload_n 0, 1) := by decide +kernel
theorem dX12_isKept_99 : decode cX12_isKept 99 = .ok (.ldc2_w 162, 3) := by decide +kernel
theorem dX12_isKept_102 : decode cX12_isKept 102 = .ok (.lcmp, 1) := by decide +kernel
theorem dX12_isKept_103 : decode cX12_isKept 103 = .ok (.ifCond .eq 51, 3) := by decide +kernel
theorem dX12_isKept_106 : decode cX12_isKept 106 = .ok (.lload_n 0, 1) := by decide +kernel
theorem dX12_isKept_107 : decode cX12_isKept 107 = .ok (.ldc2_w 164, 3) := by decide +kernel
theorem dX12_isKept_110 : decode cX12_isKept 110 = .ok (.lcmp, 1) := by decide +kernel
theorem dX12_isKept_111 : decode cX12_isKept 111 = .ok (.ifCond .eq 43, 3) := by decide +kernel
theorem dX12_isKept_114 : decode cX12_isKept 114 = .ok (.lload_n 0, 1) := by decide +kernel
theorem dX12_isKept_115 : decode cX12_isKept 115 = .ok (.ldc2_w 166, 3) := by decide +kernel
theorem dX12_isKept_118 : decode cX12_isKept 118 = .ok (.lcmp, 1) := by decide +kernel
theorem dX12_isKept_119 : decode cX12_isKept 119 = .ok (.ifCond .eq 35, 3) := by decide +kernel
theorem dX12_isKept_122 : decode cX12_isKept 122 = .ok (.lload_n 0, 1) := by decide +kernel
theorem dX12_isKept_123 : decode cX12_isKept 123 = .ok (.ldc2_w 168, 3) := by decide +kernel
theorem dX12_isKept_126 : decode cX12_isKept 126 = .ok (.lcmp, 1) := by decide +kernel
theorem dX12_isKept_127 : decode cX12_isKept 127 = .ok (.ifCond .eq 27, 3) := by decide +kernel
theorem dX12_isKept_130 : decode cX12_isKept 130 = .ok (.lload_n 0, 1) := by decide +kernel
theorem dX12_isKept_131 : decode cX12_isKept 131 = .ok (.ldc2_w 170, 3) := by decide +kernel
theorem dX12_isKept_134 : decode cX12_isKept 134 = .ok (.lcmp, 1) := by decide +kernel
theorem dX12_isKept_135 : decode cX12_isKept 135 = .ok (.ifCond .eq 19, 3) := by decide +kernel
theorem dX12_isKept_138 : decode cX12_isKept 138 = .ok (.lload_n 0, 1) := by decide +kernel
theorem dX12_isKept_139 : decode cX12_isKept 139 = .ok (.ldc2_w 172, 3) := by decide +kernel
theorem dX12_isKept_142 : decode cX12_isKept 142 = .ok (.lcmp, 1) := by decide +kernel
theorem dX12_isKept_143 : decode cX12_isKept 143 = .ok (.ifCond .eq 11, 3) := by decide +kernel
theorem dX12_isKept_146 : decode cX12_isKept 146 = .ok (.lload_n 0, 1) := by decide +kernel
theorem dX12_isKept_147 : decode cX12_isKept 147 = .ok (.ldc2_w 174, 3) := by decide +kernel
theorem dX12_isKept_150 : decode cX12_isKept 150 = .ok (.lcmp, 1) := by decide +kernel
theorem dX12_isKept_151 : decode cX12_isKept 151 = .ok (.ifCond .ne 7, 3) := by decide +kernel
theorem dX12_isKept_154 : decode cX12_isKept 154 = .ok (.iconst 1, 1) := by decide +kernel
theorem dX12_isKept_155 : decode cX12_isKept 155 = .ok (.goto 4, 3) := by decide +kernel
theorem dX12_isKept_158 : decode cX12_isKept 158 = .ok (.iconst 0, 1) := by decide +kernel
theorem dX12_isKept_159 : decode cX12_isKept 159 = .ok (.ireturn, 1) := by decide +kernel
theorem dX12_isSign_0 : decode cX12_isSign 0 = .ok (.iload_n 0, 1) := by decide +kernel
theorem dX12_isSign_1 : decode cX12_isSign 1 = .ok (.bipush 59, 2) := by decide +kernel
theorem dX12_isSign_3 : decode cX12_isSign 3 = .ok (.if_icmp .eq 63, 3) := by decide +kernel
theorem dX12_isSign_6 : decode cX12_isSign 6 = .ok (.iload_n 0, 1) := by decide +kernel
theorem dX12_isSign_7 : decode cX12_isSign 7 = .ok (.bipush 40, 2) := by decide +kernel
theorem dX12_isSign_9 : decode cX12_isSign 9 = .ok (.if_icmp .eq 57, 3) := by decide +kernel
theorem dX12_isSign_12 : decode cX12_isSign 12 = .ok (.iload_n 0, 1) := by decide +kernel
theorem dX12_isSign_13 : decode cX12_isSign 13 = .ok (.bipush 41, 2) := by decide +kernel
theorem dX12_isSign_15 : decode cX12_isSign 15 = .ok (.if_icmp .eq 51, 3) := by decide +kernel
theorem dX12_isSign_18 : decode cX12_isSign 18 = .ok (.iload_n 0, 1) := by decide +kernel
theorem dX12_isSign_19 : decode cX12_isSign 19 = .ok (.bipush 60, 2) := by decide +kernel
theorem dX12_isSign_21 : decode cX12_isSign 21 = .ok (.if_icmp .eq 45, 3) := by decide +kernel
theorem dX12_isSign_24 : decode cX12_isSign 24 = .ok (.iload_n 0, 1) := by decide +kernel
theorem dX12_isSign_25 : decode cX12_isSign 25 = .ok (.bipush 62, 2) := by decide +kernel
theorem dX12_isSign_27 : decode cX12_isSign 27 = .ok (.if_icmp .eq 39, 3) := by decide +kernel
theorem dX12_isSign_30 : decode cX12_isSign 30 = .ok (.iload_n 0, 1) := by decide +kernel
theorem dX12_isSign_31 : decode cX12_isSign 31 = .ok (.bipush 61, 2) := by decide +kernel
theorem dX12_isSign_33 : decode cX12_isSign 33 = .ok (.if_icmp .eq 33, 3) := by decide +kernel
theorem dX12_isSign_36 : decode cX12_isSign 36 = .ok (.iload_n 0, 1) := by decide +kernel
theorem dX12_isSign_37 : decode cX12_isSign 37 = .ok (.bipush 43, 2) := by decide +kernel
theorem dX12_isSign_39 : decode cX12_isSign 39 = .ok (.if_icmp .eq 27, 3) := by decide +kernel
theorem dX12_isSign_42 : decode cX12_isSign 42 = .ok (.iload_n 0, 1) := by decide +kernel
theorem dX12_isSign_43 : decode cX12_isSign 43 = .ok (.bipush 45, 2) := by decide +kernel
theorem dX12_isSign_45 : decode cX12_isSign 45 = .ok (.if_icmp .eq 21, 3) := by decide +kernel
theorem dX12_isSign_48 : decode cX12_isSign 48 = .ok (.iload_n 0, 1) := by decide +kernel
theorem dX12_isSign_49 : decode cX12_isSign 49 = .ok (.bipush 42, 2) := by decide +kernel
theorem dX12_isSign_51 : decode cX12_isSign 51 = .ok (.if_icmp .eq 15, 3) := by decide +kernel
theorem dX12_isSign_54 : decode cX12_isSign 54 = .ok (.iload_n 0, 1) := by decide +kernel
theorem dX12_isSign_55 : decode cX12_isSign 55 = .ok (.bipush 47, 2) := by decide +kernel
theorem dX12_isSign_57 : decode cX12_isSign 57 = .ok (.if_icmp .eq 9, 3) := by decide +kernel
theorem dX12_isSign_60 : decode cX12_isSign 60 = .ok (.iload_n 0, 1) := by decide +kernel
theorem dX12_isSign_61 : decode cX12_isSign 61 = .ok (.bipush 37, 2) := by decide +kernel
theorem dX12_isSign_63 : decode cX12_isSign 63 = .ok (.if_icmp .ne 7, 3) := by decide +kernel
theorem dX12_isSign_66 : decode cX12_isSign 66 = .ok (.iconst 1, 1) := by decide +kernel
theorem dX12_isSign_67 : decode cX12_isSign 67 = .ok (.goto 4, 3) := by decide +kernel
theorem dX12_isSign_70 : decode cX12_isSign 70 = .ok (.iconst 0, 1) := by decide +kernel
theorem dX12_isSign_71 : decode cX12_isSign 71 = .ok (.ireturn, 1) := by decide +kernel
theorem dX12_goOn_0 : decode cX12_goOn 0 = .ok (.aload_n 0, 1) := by decide +kernel
theorem dX12_goOn_1 : decode cX12_goOn 1 = .ok (.aload_n 0, 1) := by decide +kernel
theorem dX12_goOn_2 : decode cX12_goOn 2 = .ok (.getfield 176, 3) := by decide +kernel
theorem dX12_goOn_5 : decode cX12_goOn 5 = .ok (.putfield 179, 3) := by decide +kernel
theorem dX12_goOn_8 : decode cX12_goOn 8 = .ok (.aload_n 0, 1) := by decide +kernel
theorem dX12_goOn_9 : decode cX12_goOn 9 = .ok (.getfield 179, 3) := by decide +kernel
theorem dX12_goOn_12 : decode cX12_goOn 12 = .ok (.aload_n 0, 1) := by decide +kernel
theorem dX12_goOn_13 : decode cX12_goOn 13 = .ok (.getfield 134, 3) := by decide +kernel
theorem dX12_goOn_16 : decode cX12_goOn 16 = .ok (.if_icmp .ge 42, 3) := by decide +kernel
theorem dX12_goOn_19 : decode cX12_goOn 19 = .ok (.aload_n 0, 1) := by decide +kernel
theorem dX12_goOn_20 : decode cX12_goOn 20 = .ok (.aload_n 0, 1) := by decide +kernel
theorem dX12_goOn_21 : decode cX12_goOn 21 = .ok (.getfield 179, 3) := by decide +kernel
theorem dX12_goOn_24 : decode cX12_goOn 24 = .ok (.invokevirtual 182, 3) := by decide +kernel
theorem dX12_goOn_27 : decode cX12_goOn 27 = .ok (.bipush 32, 2) := by decide +kernel
theorem dX12_goOn_29 : decode cX12_goOn 29 = .ok (.if_icmp .eq 16, 3) := by decide +kernel
theorem dX12_goOn_32 : decode cX12_goOn 32 = .ok (.aload_n 0, 1) := by decide +kernel
theorem dX12_goOn_33 : decode cX12_goOn 33 = .ok (.aload_n 0, 1) := by decide +kernel
theorem dX12_goOn_34 : decode cX12_goOn 34 = .ok (.getfield 179, 3) := by decide +kernel
theorem dX12_goOn_37 : decode cX12_goOn 37 = .ok (.invokevirtual 182, 3) := by decide +kernel
theorem dX12_goOn_40 : decode cX12_goOn 40 = .ok (.bipush 10, 2) := by decide +kernel
theorem dX12_goOn_42 : decode cX12_goOn 42 = .ok (.if_icmp .ne 16, 3) := by decide +kernel
theorem dX12_goOn_45 : decode cX12_goOn 45 = .ok (.aload_n 0, 1) := by decide +kernel
theorem dX12_goOn_46 : decode cX12_goOn 46 = .ok (.dup, 1) := by decide +kernel
theorem dX12_goOn_47 : decode cX12_goOn 47 = .ok (.getfield 179, 3) := by decide +kernel
theorem dX12_goOn_50 : decode cX12_goOn 50 = .ok (.iconst 1, 1) := by decide +kernel
theorem dX12_goOn_51 : decode cX12_goOn 51 = .ok (.iadd, 1) := by decide +kernel
theorem dX12_goOn_52 : decode cX12_goOn 52 = .ok (.putfield 179, 3) := by decide +kernel
theorem dX12_goOn_55 : decode cX12_goOn 55 = .ok (.goto (-47), 3) := by decide +kernel
theorem dX12_goOn_58 : decode cX12_goOn 58 = .ok (.aload_n 0, 1) := by decide +kernel
theorem dX12_goOn_59 : decode cX12_goOn 59 = .ok (.aload_n 0, 1) := by decide +kernel
theorem dX12_goOn_60 : decode cX12_goOn 60 = .ok (.getfield 179, 3) := by decide +kernel
theorem dX12_goOn_63 : decode cX12_goOn 63 = .ok (.invokevirtual 182, 3) := by decide +kernel
theorem dX12_goOn_66 : decode cX12_goOn 66 = .ok (.istore_n 1, 1) := by decide +kernel
theorem dX12_goOn_67 : decode cX12_goOn 67 = .ok (.aload_n 0, 1) := by decide +kernel
theorem dX12_goOn_68 : decode cX12_goOn 68 = .ok (.aload_n 0, 1) := by decide +kernel
theorem dX12_goOn_69 : decode cX12_goOn 69 = .ok (.getfield 179, 3) := by decide +kernel
theorem dX12_goOn_72 : decode cX12_goOn 72 = .ok (.iconst 1, 1) := by decide +kernel
theorem dX12_goOn_73 : decode cX12_goOn 73 = .ok (.iadd, 1) := by decide +kernel
theorem dX12_goOn_74 : decode cX12_goOn 74 = .ok (.putfield 176, 3) := by decide +kernel
theorem dX12_goOn_77 : decode cX12_goOn 77 = .ok (.aload_n 0, 1) := by decide +kernel
theorem dX12_goOn_78 : decode cX12_goOn 78 = .ok (.getfield 179, 3) := by decide +kernel
theorem dX12_goOn_81 : decode cX12_goOn 81 = .ok (.aload_n 0, 1) := by decide +kernel
theorem dX12_goOn_82 : decode cX12_goOn 82 = .ok (.getfield 134, 3) := by decide +kernel
theorem dX12_goOn_85 : decode cX12_goOn 85 = .ok (.if_icmp .lt 27, 3) := by decide +kernel
theorem dX12_goOn_88 : decode cX12_goOn 88 = .ok (.aload_n 0, 1) := by decide +kernel
theorem dX12_goOn_89 : decode cX12_goOn 89 = .ok (.iconst 0, 1) := by decide +kernel
theorem dX12_goOn_90 : decode cX12_goOn 90 = .ok (.putfield 186, 3) := by decide +kernel
theorem dX12_goOn_93 : decode cX12_goOn 93 = .ok (.aload_n 0, 1) := by decide +kernel
theorem dX12_goOn_94 : decode cX12_goOn 94 = .ok (.aload_n 0, 1) := by decide +kernel
theorem dX12_goOn_95 : decode cX12_goOn 95 = .ok (.getfield 134, 3) := by decide +kernel
theorem dX12_goOn_98 : decode cX12_goOn 98 = .ok (.putfield 179, 3) := by decide +kernel
theorem dX12_goOn_101 : decode cX12_goOn 101 = .ok (.aload_n 0, 1) := by decide +kernel
theorem dX12_goOn_102 : decode cX12_goOn 102 = .ok (.aload_n 0, 1) := by decide +kernel
theorem dX12_goOn_103 : decode cX12_goOn 103 = .ok (.getfield 134, 3) := by decide +kernel
theorem dX12_goOn_106 : decode cX12_goOn 106 = .ok (.putfield 176, 3) := by decide +kernel
theorem dX12_goOn_109 : decode cX12_goOn 109 = .ok (.goto 268, 3) := by decide +kernel
theorem dX12_goOn_112 : decode cX12_goOn 112 = .ok (.iload_n 1, 1) := by decide +kernel
theorem dX12_goOn_113 : decode cX12_goOn 113 = .ok (.invokestatic 189, 3) := by decide +kernel
theorem dX12_goOn_116 : decode cX12_goOn 116 = .ok (.ifCond .eq 123, 3) := by decide +kernel
theorem dX12_goOn_119 : decode cX12_goOn 119 = .ok (.aload_n 0, 1) := by decide +kernel
theorem dX12_goOn_120 : decode cX12_goOn 120 = .ok (.aload_n 0, 1) := by decide +kernel
theorem dX12_goOn_121 : decode cX12_goOn 121 = .ok (.getfield 176, 3) := by decide +kernel
theorem dX12_goOn_124 : decode cX12_goOn 124 = .ok (.invokevirtual 182, 3) := by decide +kernel
theorem dX12_goOn_127 : decode cX12_goOn 127 = .ok (.invokestatic 189, 3) := by decide +kernel
theorem dX12_goOn_130 : decode cX12_goOn 130 = .ok (.ifCond .eq 16, 3) := by decide +kernel
theorem dX12_goOn_133 : decode cX12_goOn 133 = .ok (.aload_n 0, 1) := by decide +kernel
theorem dX12_goOn_134 : decode cX12_goOn 134 = .ok (.dup, 1) := by decide +kernel
theorem dX12_goOn_135 : decode cX12_goOn 135 = .ok (.getfield 176, 3) := by decide +kernel
theorem dX12_goOn_138 : decode cX12_goOn 138 = .ok (.iconst 1, 1) := by decide +kernel
theorem dX12_goOn_139 : decode cX12_goOn 139 = .ok (.iadd, 1) := by decide +kernel
theorem dX12_goOn_140 : decode cX12_goOn 140 = .ok (.putfield 176, 3) := by decide +kernel
theorem dX12_goOn_143 : decode cX12_goOn 143 = .ok (.goto (-24), 3) := by decide +kernel
theorem dX12_goOn_146 : decode cX12_goOn 146 = .ok (.aload_n 0, 1) := by decide +kernel
theorem dX12_goOn_147 : decode cX12_goOn 147 = .ok (.lconst 0, 1) := by decide +kernel
theorem dX12_goOn_148 : decode cX12_goOn 148 = .ok (.putfield 193, 3) := by decide +kernel
theorem dX12_goOn_151 : decode cX12_goOn 151 = .ok (.aload_n 0, 1) := by decide +kernel
theorem dX12_goOn_152 : decode cX12_goOn 152 = .ok (.getfield 179, 3) := by decide +kernel
theorem dX12_goOn_155 : decode cX12_goOn 155 = .ok (.istore_n 2, 1) := by decide +kernel
theorem dX12_goOn_156 : decode cX12_goOn 156 = .ok (.iload_n 2, 1) := by decide +kernel
theorem dX12_goOn_157 : decode cX12_goOn 157 = .ok (.aload_n 0, 1) := by decide +kernel
theorem dX12_goOn_158 : decode cX12_goOn 158 = .ok (.getfield 176, 3) := by decide +kernel
theorem dX12_goOn_161 : decode cX12_goOn 161 = .ok (.if_icmp .ge 38, 3) := by decide +kernel
theorem dX12_goOn_164 : decode cX12_goOn 164 = .ok (.iload_n 2, 1) := by decide +kernel
theorem dX12_goOn_165 : decode cX12_goOn 165 = .ok (.aload_n 0, 1) := by decide +kernel
theorem dX12_goOn_166 : decode cX12_goOn 166 = .ok (.getfield 179, 3) := by decide +kernel
theorem dX12_goOn_169 : decode cX12_goOn 169 = .ok (.bipush 8, 2) := by decide +kernel
theorem dX12_goOn_171 : decode cX12_goOn 171 = .ok (.iadd, 1) := by decide +kernel
theorem dX12_goOn_172 : decode cX12_goOn 172 = .ok (.if_icmp .ge 27, 3) := by decide +kernel
theorem dX12_goOn_175 : decode cX12_goOn 175 = .ok (.aload_n 0, 1) := by decide +kernel
theorem dX12_goOn_176 : decode cX12_goOn 176 = .ok (.aload_n 0, 1) := by decide +kernel
theorem dX12_goOn_177 : decode cX12_goOn 177 = .ok (.getfield 193, 3) := by decide +kernel
theorem dX12_goOn_180 : decode cX12_goOn 180 = .ok (.bipush 8, 2) := by decide +kernel
theorem dX12_goOn_182 : decode cX12_goOn 182 = .ok (.lshl, 1) := by decide +kernel
theorem dX12_goOn_183 : decode cX12_goOn 183 = .ok (.aload_n 0, 1) := by decide +kernel
theorem dX12_goOn_184 : decode cX12_goOn 184 = .ok (.iload_n 2, 1) := by decide +kernel
theorem dX12_goOn_185 : decode cX12_goOn 185 = .ok (.invokevirtual 182, 3) := by decide +kernel
theorem dX12_goOn_188 : decode cX12_goOn 188 = .ok (.i2l, 1) := by decide +kernel
theorem dX12_goOn_189 : decode cX12_goOn 189 = .ok (.lor, 1) := by decide +kernel
theorem dX12_goOn_190 : decode cX12_goOn 190 = .ok (.putfield 193, 3) := by decide +kernel
theorem dX12_goOn_193 : decode cX12_goOn 193 = .ok (.iinc 2 1, 3) := by decide +kernel
theorem dX12_goOn_196 : decode cX12_goOn 196 = .ok (.goto (-40), 3) := by decide +kernel
theorem dX12_goOn_199 : decode cX12_goOn 199 = .ok (.aload_n 0, 1) := by decide +kernel
theorem dX12_goOn_200 : decode cX12_goOn 200 = .ok (.aload_n 0, 1) := by decide +kernel
theorem dX12_goOn_201 : decode cX12_goOn 201 = .ok (.getfield 176, 3) := by decide +kernel
theorem dX12_goOn_204 : decode cX12_goOn 204 = .ok (.aload_n 0, 1) := by decide +kernel
theorem dX12_goOn_205 : decode cX12_goOn 205 = .ok (.getfield 179, 3) := by decide +kernel
theorem dX12_goOn_208 : decode cX12_goOn 208 = .ok (.isub, 1) := by decide +kernel
theorem dX12_goOn_209 : decode cX12_goOn 209 = .ok (.bipush 8, 2) := by decide +kernel
theorem dX12_goOn_211 : decode cX12_goOn 211 = .ok (.if_icmp .le 7, 3) := by decide +kernel
theorem dX12_goOn_214 : decode cX12_goOn 214 = .ok (.iconst 1, 1) := by decide +kernel
theorem dX12_goOn_215 : decode cX12_goOn 215 = .ok (.goto 18, 3) := by decide +kernel
theorem dX12_goOn_218 : decode cX12_goOn 218 = .ok (.aload_n 0, 1) := by decide +kernel
theorem dX12_goOn_219 : decode cX12_goOn 219 = .ok (.getfield 193, 3) := by decide +kernel
theorem dX12_goOn_222 : decode cX12_goOn 222 = .ok (.invokestatic 197, 3) := by decide +kernel
theorem dX12_goOn_225 : decode cX12_goOn 225 = .ok (.ifCond .eq 7, 3) := by decide +kernel
theorem dX12_goOn_228 : decode cX12_goOn 228 = .ok (.iconst 3, 1) := by decide +kernel
theorem dX12_goOn_229 : decode cX12_goOn 229 = .ok (.goto 4, 3) := by decide +kernel
theorem dX12_goOn_232 : decode cX12_goOn 232 = .ok (.iconst 2, 1) := by decide +kernel
theorem dX12_goOn_233 : decode cX12_goOn 233 = .ok (.putfield 186, 3) := by decide +kernel
theorem dX12_goOn_236 : decode cX12_goOn 236 = .ok (.goto 141, 3) := by decide +kernel
theorem dX12_goOn_239 : decode cX12_goOn 239 = .ok (.iload_n 1, 1) := by decide +kernel
theorem dX12_goOn_240 : decode cX12_goOn 240 = .ok (.invokestatic 201, 3) := by decide +kernel
theorem dX12_goOn_243 : decode cX12_goOn 243 = .ok (.ifCond .eq 118, 3) := by decide +kernel
theorem dX12_goOn_246 : decode cX12_goOn 246 = .ok (.aload_n 0, 1) := by decide +kernel
theorem dX12_goOn_247 : decode cX12_goOn 247 = .ok (.iconst 0, 1) := by decide +kernel
theorem dX12_goOn_248 : decode cX12_goOn 248 = .ok (.putfield 204, 3) := by decide +kernel
theorem dX12_goOn_251 : decode cX12_goOn 251 = .ok (.aload_n 0, 1) := by decide +kernel
theorem dX12_goOn_252 : decode cX12_goOn 252 = .ok (.aload_n 0, 1) := by decide +kernel
theorem dX12_goOn_253 : decode cX12_goOn 253 = .ok (.getfield 179, 3) := by decide +kernel
theorem dX12_goOn_256 : decode cX12_goOn 256 = .ok (.putfield 176, 3) := by decide +kernel
theorem dX12_goOn_259 : decode cX12_goOn 259 = .ok (.aload_n 0, 1) := by decide +kernel
theorem dX12_goOn_260 : decode cX12_goOn 260 = .ok (.aload_n 0, 1) := by decide +kernel
theorem dX12_goOn_261 : decode cX12_goOn 261 = .ok (.getfield 176, 3) := by decide +kernel
theorem dX12_goOn_264 : decode cX12_goOn 264 = .ok (.invokevirtual 182, 3) := by decide +kernel
theorem dX12_goOn_267 : decode cX12_goOn 267 = .ok (.invokestatic 201, 3) := by decide +kernel
theorem dX12_goOn_270 : decode cX12_goOn 270 = .ok (.ifCond .eq 52, 3) := by decide +kernel
theorem dX12_goOn_273 : decode cX12_goOn 273 = .ok (.aload_n 0, 1) := by decide +kernel
theorem dX12_goOn_274 : decode cX12_goOn 274 = .ok (.getfield 176, 3) := by decide +kernel
theorem dX12_goOn_277 : decode cX12_goOn 277 = .ok (.aload_n 0, 1) := by decide +kernel
theorem dX12_goOn_278 : decode cX12_goOn 278 = .ok (.getfield 179, 3) := by decide +kernel
theorem dX12_goOn_281 : decode cX12_goOn 281 = .ok (.isub, 1) := by decide +kernel
theorem dX12_goOn_282 : decode cX12_goOn 282 = .ok (.iconst 4, 1) := by decide +kernel
theorem dX12_goOn_283 : decode cX12_goOn 283 = .ok (.if_icmp .ge 26, 3) := by decide +kernel
theorem dX12_goOn_286 : decode cX12_goOn 286 = .ok (.aload_n 0, 1) := by decide +kernel
theorem dX12_goOn_287 : decode cX12_goOn 287 = .ok (.bipush 10, 2) := by decide +kernel
theorem dX12_goOn_289 : decode cX12_goOn 289 = .ok (.aload_n 0, 1) := by decide +kernel
theorem dX12_goOn_290 : decode cX12_goOn 290 = .ok (.getfield 204, 3) := by decide +kernel
theorem dX12_goOn_293 : decode cX12_goOn 293 = .ok (.imul, 1) := by decide +kernel
theorem dX12_goOn_294 : decode cX12_goOn 294 = .ok (.aload_n 0, 1) := by decide +kernel
theorem dX12_goOn_295 : decode cX12_goOn 295 = .ok (.aload_n 0, 1) := by decide +kernel
theorem dX12_goOn_296 : decode cX12_goOn 296 = .ok (.getfield 176, 3) := by decide +kernel
theorem dX12_goOn_299 : decode cX12_goOn 299 = .ok (.invokevirtual 182, 3) := by decide +kernel
theorem dX12_goOn_302 : decode cX12_goOn 302 = .ok (.iadd, 1) := by decide +kernel
theorem dX12_goOn_303 : decode cX12_goOn 303 = .ok (.bipush 48, 2) := by decide +kernel
theorem dX12_goOn_305 : decode cX12_goOn 305 = .ok (.isub, 1) := by decide +kernel
theorem dX12_goOn_306 : decode cX12_goOn 306 = .ok (.putfield 204, 3) := by decide +kernel
theorem dX12_goOn_309 : decode cX12_goOn 309 = .ok (.aload_n 0, 1) := by decide +kernel
theorem dX12_goOn_310 : decode cX12_goOn 310 = .ok (.dup, 1) := by decide +kernel
theorem dX12_goOn_311 : decode cX12_goOn 311 = .ok (.getfield 176, 3) := by decide +kernel
theorem dX12_goOn_314 : decode cX12_goOn 314 = .ok (.iconst 1, 1) := by decide +kernel
theorem dX12_goOn_315 : decode cX12_goOn 315 = .ok (.iadd, 1) := by decide +kernel
theorem dX12_goOn_316 : decode cX12_goOn 316 = .ok (.putfield 176, 3) := by decide +kernel
theorem dX12_goOn_319 : decode cX12_goOn 319 = .ok (.goto (-60), 3) := by decide +kernel
theorem dX12_goOn_322 : decode cX12_goOn 322 = .ok (.aload_n 0, 1) := by decide +kernel
theorem dX12_goOn_323 : decode cX12_goOn 323 = .ok (.aload_n 0, 1) := by decide +kernel
theorem dX12_goOn_324 : decode cX12_goOn 324 = .ok (.getfield 176, 3) := by decide +kernel
theorem dX12_goOn_327 : decode cX12_goOn 327 = .ok (.aload_n 0, 1) := by decide +kernel
theorem dX12_goOn_328 : decode cX12_goOn 328 = .ok (.getfield 179, 3) := by decide +kernel
theorem dX12_goOn_331 : decode cX12_goOn 331 = .ok (.isub, 1) := by decide +kernel
theorem dX12_goOn_332 : decode cX12_goOn 332 = .ok (.iconst 4, 1) := by decide +kernel
theorem dX12_goOn_333 : decode cX12_goOn 333 = .ok (.if_icmp .gt 17, 3) := by decide +kernel
theorem dX12_goOn_336 : decode cX12_goOn 336 = .ok (.aload_n 0, 1) := by decide +kernel
theorem dX12_goOn_337 : decode cX12_goOn 337 = .ok (.aload_n 0, 1) := by decide +kernel
theorem dX12_goOn_338 : decode cX12_goOn 338 = .ok (.getfield 176, 3) := by decide +kernel
theorem dX12_goOn_341 : decode cX12_goOn 341 = .ok (.invokevirtual 182, 3) := by decide +kernel
theorem dX12_goOn_344 : decode cX12_goOn 344 = .ok (.invokestatic 189, 3) := by decide +kernel
theorem dX12_goOn_347 : decode cX12_goOn 347 = .ok (.ifCond .eq 7, 3) := by decide +kernel
theorem dX12_goOn_350 : decode cX12_goOn 350 = .ok (.iconst 1, 1) := by decide +kernel
theorem dX12_goOn_351 : decode cX12_goOn 351 = .ok (.goto 4, 3) := by decide +kernel
theorem dX12_goOn_354 : decode cX12_goOn 354 = .ok (.iconst 4, 1) := by decide +kernel
theorem dX12_goOn_355 : decode cX12_goOn 355 = .ok (.putfield 186, 3) := by decide +kernel
theorem dX12_goOn_358 : decode cX12_goOn 358 = .ok (.goto 19, 3) := by decide +kernel
theorem dX12_goOn_361 : decode cX12_goOn 361 = .ok (.aload_n 0, 1) := by decide +kernel
theorem dX12_goOn_362 : decode cX12_goOn 362 = .ok (.iload_n 1, 1) := by decide +kernel
theorem dX12_goOn_363 : decode cX12_goOn 363 = .ok (.invokestatic 207, 3) := by decide +kernel
theorem dX12_goOn_366 : decode cX12_goOn 366 = .ok (.ifCond .eq 7, 3) := by decide +kernel
theorem dX12_goOn_369 : decode cX12_goOn 369 = .ok (.iconst 5, 1) := by decide +kernel
theorem dX12_goOn_370 : decode cX12_goOn 370 = .ok (.goto 4, 3) := by decide +kernel
theorem dX12_goOn_373 : decode cX12_goOn 373 = .ok (.iconst 1, 1) := by decide +kernel
theorem dX12_goOn_374 : decode cX12_goOn 374 = .ok (.putfield 186, 3) := by decide +kernel
theorem dX12_goOn_377 : decode cX12_goOn 377 = .ok (.return_, 1) := by decide +kernel
theorem dX12_isSignHere_0 : decode cX12_isSignHere 0 = .ok (.aload_n 0, 1) := by decide +kernel
theorem dX12_isSignHere_1 : decode cX12_isSignHere 1 = .ok (.getfield 186, 3) := by decide +kernel
theorem dX12_isSignHere_4 : decode cX12_isSignHere 4 = .ok (.iconst 5, 1) := by decide +kernel
theorem dX12_isSignHere_5 : decode cX12_isSignHere 5 = .ok (.if_icmp .ne 19, 3) := by decide +kernel
theorem dX12_isSignHere_8 : decode cX12_isSignHere 8 = .ok (.aload_n 0, 1) := by decide +kernel
theorem dX12_isSignHere_9 : decode cX12_isSignHere 9 = .ok (.aload_n 0, 1) := by decide +kernel
theorem dX12_isSignHere_10 : decode cX12_isSignHere 10 = .ok (.getfield 179, 3) := by decide +kernel
theorem dX12_isSignHere_13 : decode cX12_isSignHere 13 = .ok (.invokevirtual 182, 3) := by decide +kernel
theorem dX12_isSignHere_16 : decode cX12_isSignHere 16 = .ok (.iload_n 1, 1) := by decide +kernel
theorem dX12_isSignHere_17 : decode cX12_isSignHere 17 = .ok (.if_icmp .ne 7, 3) := by decide +kernel
theorem dX12_isSignHere_20 : decode cX12_isSignHere 20 = .ok (.iconst 1, 1) := by decide +kernel
theorem dX12_isSignHere_21 : decode cX12_isSignHere 21 = .ok (.goto 4, 3) := by decide +kernel
theorem dX12_isSignHere_24 : decode cX12_isSignHere 24 = .ok (.iconst 0, 1) := by decide +kernel
theorem dX12_isSignHere_25 : decode cX12_isSignHere 25 = .ok (.ireturn, 1) := by decide +kernel
theorem dX12_isWord_0 : decode cX12_isWord 0 = .ok (.aload_n 0, 1) := by decide +kernel
theorem dX12_isWord_1 : decode cX12_isWord 1 = .ok (.getfield 186, 3) := by decide +kernel
theorem dX12_isWord_4 : decode cX12_isWord 4 = .ok (.iconst 3, 1) := by decide +kernel
theorem dX12_isWord_5 : decode cX12_isWord 5 = .ok (.if_icmp .ne 16, 3) := by decide +kernel
theorem dX12_isWord_8 : decode cX12_isWord 8 = .ok (.aload_n 0, 1) := by decide +kernel
theorem dX12_isWord_9 : decode cX12_isWord 9 = .ok (.getfield 193, 3) := by decide +kernel
theorem dX12_isWord_12 : decode cX12_isWord 12 = .ok (.lload_n 1, 1) := by decide +kernel
theorem dX12_isWord_13 : decode cX12_isWord 13 = .ok (.lcmp, 1) := by decide +kernel
theorem dX12_isWord_14 : decode cX12_isWord 14 = .ok (.ifCond .ne 7, 3) := by decide +kernel
theorem dX12_isWord_17 : decode cX12_isWord 17 = .ok (.iconst 1, 1) := by decide +kernel
theorem dX12_isWord_18 : decode cX12_isWord 18 = .ok (.goto 4, 3) := by decide +kernel
theorem dX12_isWord_21 : decode cX12_isWord 21 = .ok (.iconst 0, 1) := by decide +kernel
theorem dX12_isWord_22 : decode cX12_isWord 22 = .ok (.ireturn, 1) := by decide +kernel
theorem dX12_misplaced_0 : decode cX12_misplaced 0 = .ok (.aload_n 0, 1) := by decide +kernel
theorem dX12_misplaced_1 : decode cX12_misplaced 1 = .ok (.aload_n 0, 1) := by decide +kernel
theorem dX12_misplaced_2 : decode cX12_misplaced 2 = .ok (.getfield 186, 3) := by decide +kernel
theorem dX12_misplaced_5 : decode cX12_misplaced 5 = .ok (.iconst 1, 1) := by decide +kernel
theorem dX12_misplaced_6 : decode cX12_misplaced 6 = .ok (.if_icmp .ne 7, 3) := by decide +kernel
theorem dX12_misplaced_9 : decode cX12_misplaced 9 = .ok (.iconst 1, 1) := by decide +kernel
theorem dX12_misplaced_10 : decode cX12_misplaced 10 = .ok (.goto 4, 3) := by decide +kernel
theorem dX12_misplaced_13 : decode cX12_misplaced 13 = .ok (.iconst 2, 1) := by decide +kernel
theorem dX12_misplaced_14 : decode cX12_misplaced 14 = .ok (.aload_n 0, 1) := by decide +kernel
theorem dX12_misplaced_15 : decode cX12_misplaced 15 = .ok (.getfield 179, 3) := by decide +kernel
theorem dX12_misplaced_18 : decode cX12_misplaced 18 = .ok (.invokevirtual 210, 3) := by decide +kernel
theorem dX12_misplaced_21 : decode cX12_misplaced 21 = .ok (.return_, 1) := by decide +kernel
theorem dX12_must_0 : decode cX12_must 0 = .ok (.aload_n 0, 1) := by decide +kernel
theorem dX12_must_1 : decode cX12_must 1 = .ok (.invokevirtual 214, 3) := by decide +kernel
theorem dX12_must_4 : decode cX12_must 4 = .ok (.ifCond .ne 4, 3) := by decide +kernel
theorem dX12_must_7 : decode cX12_must 7 = .ok (.return_, 1) := by decide +kernel
theorem dX12_must_8 : decode cX12_must 8 = .ok (.iload_n 1, 1) := by decide +kernel
theorem dX12_must_9 : decode cX12_must 9 = .ok (.ifCond .eq 10, 3) := by decide +kernel
theorem dX12_must_12 : decode cX12_must 12 = .ok (.aload_n 0, 1) := by decide +kernel
theorem dX12_must_13 : decode cX12_must 13 = .ok (.invokevirtual 218, 3) := by decide +kernel
theorem dX12_must_16 : decode cX12_must 16 = .ok (.goto 7, 3) := by decide +kernel
theorem dX12_must_19 : decode cX12_must 19 = .ok (.aload_n 0, 1) := by decide +kernel
theorem dX12_must_20 : decode cX12_must 20 = .ok (.invokevirtual 221, 3) := by decide +kernel
theorem dX12_must_23 : decode cX12_must 23 = .ok (.return_, 1) := by decide +kernel
theorem dX12_numeral_0 : decode cX12_numeral 0 = .ok (.aload_n 0, 1) := by decide +kernel
theorem dX12_numeral_1 : decode cX12_numeral 1 = .ok (.invokevirtual 214, 3) := by decide +kernel
theorem dX12_numeral_4 : decode cX12_numeral 4 = .ok (.ifCond .ne 5, 3) := by decide +kernel
theorem dX12_numeral_7 : decode cX12_numeral 7 = .ok (.iload_n 1, 1) := by decide +kernel
theorem dX12_numeral_8 : decode cX12_numeral 8 = .ok (.ireturn, 1) := by decide +kernel
theorem dX12_numeral_9 : decode cX12_numeral 9 = .ok (.aload_n 0, 1) := by decide +kernel
theorem dX12_numeral_10 : decode cX12_numeral 10 = .ok (.getfield 186, 3) := by decide +kernel
theorem dX12_numeral_13 : decode cX12_numeral 13 = .ok (.iconst 4, 1) := by decide +kernel
theorem dX12_numeral_14 : decode cX12_numeral 14 = .ok (.if_icmp .eq 7, 3) := by decide +kernel
theorem dX12_numeral_17 : decode cX12_numeral 17 = .ok (.aload_n 0, 1) := by decide +kernel
theorem dX12_numeral_18 : decode cX12_numeral 18 = .ok (.invokevirtual 221, 3) := by decide +kernel
theorem dX12_numeral_21 : decode cX12_numeral 21 = .ok (.aload_n 0, 1) := by decide +kernel
theorem dX12_numeral_22 : decode cX12_numeral 22 = .ok (.invokevirtual 214, 3) := by decide +kernel
theorem dX12_numeral_25 : decode cX12_numeral 25 = .ok (.ifCond .eq 28, 3) := by decide +kernel
theorem dX12_numeral_28 : decode cX12_numeral 28 = .ok (.aload_n 0, 1) := by decide +kernel
theorem dX12_numeral_29 : decode cX12_numeral 29 = .ok (.getfield 204, 3) := by decide +kernel
theorem dX12_numeral_32 : decode cX12_numeral 32 = .ok (.iload_n 1, 1) := by decide +kernel
theorem dX12_numeral_33 : decode cX12_numeral 33 = .ok (.if_icmp .lt 11, 3) := by decide +kernel
theorem dX12_numeral_36 : decode cX12_numeral 36 = .ok (.aload_n 0, 1) := by decide +kernel
theorem dX12_numeral_37 : decode cX12_numeral 37 = .ok (.getfield 204, 3) := by decide +kernel
theorem dX12_numeral_40 : decode cX12_numeral 40 = .ok (.iload_n 2, 1) := by decide +kernel
theorem dX12_numeral_41 : decode cX12_numeral 41 = .ok (.if_icmp .le 12, 3) := by decide +kernel
theorem dX12_numeral_44 : decode cX12_numeral 44 = .ok (.aload_n 0, 1) := by decide +kernel
theorem dX12_numeral_45 : decode cX12_numeral 45 = .ok (.iconst 4, 1) := by decide +kernel
theorem dX12_numeral_46 : decode cX12_numeral 46 = .ok (.aload_n 0, 1) := by decide +kernel
theorem dX12_numeral_47 : decode cX12_numeral 47 = .ok (.getfield 179, 3) := by decide +kernel
theorem dX12_numeral_50 : decode cX12_numeral 50 = .ok (.invokevirtual 210, 3) := by decide +kernel
theorem dX12_numeral_53 : decode cX12_numeral 53 = .ok (.aload_n 0, 1) := by decide +kernel
theorem dX12_numeral_54 : decode cX12_numeral 54 = .ok (.getfield 204, 3) := by decide +kernel
theorem dX12_numeral_57 : decode cX12_numeral 57 = .ok (.istore_n 3, 1) := by decide +kernel
theorem dX12_numeral_58 : decode cX12_numeral 58 = .ok (.aload_n 0, 1) := by decide +kernel
theorem dX12_numeral_59 : decode cX12_numeral 59 = .ok (.invokevirtual 214, 3) := by decide +kernel
theorem dX12_numeral_62 : decode cX12_numeral 62 = .ok (.ifCond .eq 7, 3) := by decide +kernel
theorem dX12_numeral_65 : decode cX12_numeral 65 = .ok (.aload_n 0, 1) := by decide +kernel
theorem dX12_numeral_66 : decode cX12_numeral 66 = .ok (.invokevirtual 218, 3) := by decide +kernel
theorem dX12_numeral_69 : decode cX12_numeral 69 = .ok (.aload_n 0, 1) := by decide +kernel
theorem dX12_numeral_70 : decode cX12_numeral 70 = .ok (.invokevirtual 214, 3) := by decide +kernel
theorem dX12_numeral_73 : decode cX12_numeral 73 = .ok (.ifCond .eq 7, 3) := by decide +kernel
theorem dX12_numeral_76 : decode cX12_numeral 76 = .ok (.iload_n 3, 1) := by decide +kernel
theorem dX12_numeral_77 : decode cX12_numeral 77 = .ok (.goto 4, 3) := by decide +kernel
theorem dX12_numeral_80 : decode cX12_numeral 80 = .ok (.iload_n 1, 1) := by decide +kernel
theorem dX12_numeral_81 : decode cX12_numeral 81 = .ok (.ireturn, 1) := by decide +kernel
theorem dX12_after_0 : decode cX12_after 0 = .ok (.aload_n 0, 1) := by decide +kernel
theorem dX12_after_1 : decode cX12_after 1 = .ok (.aload_n 0, 1) := by decide +kernel
theorem dX12_after_2 : decode cX12_after 2 = .ok (.lload_n 1, 1) := by decide +kernel
theorem dX12_after_3 : decode cX12_after 3 = .ok (.invokevirtual 224, 3) := by decide +kernel
theorem dX12_after_6 : decode cX12_after 6 = .ok (.invokevirtual 227, 3) := by decide +kernel
theorem dX12_after_9 : decode cX12_after 9 = .ok (.aload_n 0, 1) := by decide +kernel
theorem dX12_after_10 : decode cX12_after 10 = .ok (.iload_n 3, 1) := by decide +kernel
theorem dX12_after_11 : decode cX12_after 11 = .ok (.iload 4, 2) := by decide +kernel
theorem dX12_after_13 : decode cX12_after 13 = .ok (.invokevirtual 231, 3) := by decide +kernel
theorem dX12_after_16 : decode cX12_after 16 = .ok (.ireturn, 1) := by decide +kernel
theorem dX12_clearBank_0 : decode cX12_clearBank 0 = .ok (.aload_n 0, 1) := by decide +kernel
theorem dX12_clearBank_1 : decode cX12_clearBank 1 = .ok (.getfield 20, 3) := by decide +kernel
theorem dX12_clearBank_4 : decode cX12_clearBank 4 = .ok (.aload_n 0, 1) := by decide +kernel
theorem dX12_clearBank_5 : decode cX12_clearBank 5 = .ok (.getfield 235, 3) := by decide +kernel
theorem dX12_clearBank_8 : decode cX12_clearBank 8 = .ok (.iconst 0, 1) := by decide +kernel
theorem dX12_clearBank_9 : decode cX12_clearBank 9 = .ok (.iastore, 1) := by decide +kernel
theorem dX12_clearBank_10 : decode cX12_clearBank 10 = .ok (.aload_n 0, 1) := by decide +kernel
theorem dX12_clearBank_11 : decode cX12_clearBank 11 = .ok (.getfield 24, 3) := by decide +kernel
theorem dX12_clearBank_14 : decode cX12_clearBank 14 = .ok (.aload_n 0, 1) := by decide +kernel
theorem dX12_clearBank_15 : decode cX12_clearBank 15 = .ok (.getfield 235, 3) := by decide +kernel
theorem dX12_clearBank_18 : decode cX12_clearBank 18 = .ok (.iconst 0, 1) := by decide +kernel
theorem dX12_clearBank_19 : decode cX12_clearBank 19 = .ok (.iastore, 1) := by decide +kernel
theorem dX12_clearBank_20 : decode cX12_clearBank 20 = .ok (.aload_n 0, 1) := by decide +kernel
theorem dX12_clearBank_21 : decode cX12_clearBank 21 = .ok (.getfield 27, 3) := by decide +kernel
theorem dX12_clearBank_24 : decode cX12_clearBank 24 = .ok (.aload_n 0, 1) := by decide +kernel
theorem dX12_clearBank_25 : decode cX12_clearBank 25 = .ok (.getfield 235, 3) := by decide +kernel
theorem dX12_clearBank_28 : decode cX12_clearBank 28 = .ok (.iconst 0, 1) := by decide +kernel
theorem dX12_clearBank_29 : decode cX12_clearBank 29 = .ok (.iastore, 1) := by decide +kernel
theorem dX12_clearBank_30 : decode cX12_clearBank 30 = .ok (.aload_n 0, 1) := by decide +kernel
theorem dX12_clearBank_31 : decode cX12_clearBank 31 = .ok (.getfield 30, 3) := by decide +kernel
theorem dX12_clearBank_34 : decode cX12_clearBank 34 = .ok (.aload_n 0, 1) := by decide +kernel
theorem dX12_clearBank_35 : decode cX12_clearBank 35 = .ok (.getfield 235, 3) := by decide +kernel
theorem dX12_clearBank_38 : decode cX12_clearBank 38 = .ok (.iconst 3, 1) := by decide +kernel
theorem dX12_clearBank_39 : decode cX12_clearBank 39 = .ok (.iastore, 1) := by decide +kernel
theorem dX12_clearBank_40 : decode cX12_clearBank 40 = .ok (.aload_n 0, 1) := by decide +kernel
theorem dX12_clearBank_41 : decode cX12_clearBank 41 = .ok (.getfield 33, 3) := by decide +kernel
theorem dX12_clearBank_44 : decode cX12_clearBank 44 = .ok (.aload_n 0, 1) := by decide +kernel
theorem dX12_clearBank_45 : decode cX12_clearBank 45 = .ok (.getfield 235, 3) := by decide +kernel
theorem dX12_clearBank_48 : decode cX12_clearBank 48 = .ok (.iconst 0, 1) := by decide +kernel
theorem dX12_clearBank_49 : decode cX12_clearBank 49 = .ok (.iastore, 1) := by decide +kernel
theorem dX12_clearBank_50 : decode cX12_clearBank 50 = .ok (.aload_n 0, 1) := by decide +kernel
theorem dX12_clearBank_51 : decode cX12_clearBank 51 = .ok (.getfield 36, 3) := by decide +kernel
theorem dX12_clearBank_54 : decode cX12_clearBank 54 = .ok (.aload_n 0, 1) := by decide +kernel
theorem dX12_clearBank_55 : decode cX12_clearBank 55 = .ok (.getfield 235, 3) := by decide +kernel
theorem dX12_clearBank_58 : decode cX12_clearBank 58 = .ok (.iconst 0, 1) := by decide +kernel
theorem dX12_clearBank_59 : decode cX12_clearBank 59 = .ok (.iastore, 1) := by decide +kernel
theorem dX12_clearBank_60 : decode cX12_clearBank 60 = .ok (.aload_n 0, 1) := by decide +kernel
theorem dX12_clearBank_61 : decode cX12_clearBank 61 = .ok (.getfield 39, 3) := by decide +kernel
theorem dX12_clearBank_64 : decode cX12_clearBank 64 = .ok (.aload_n 0, 1) := by decide +kernel
theorem dX12_clearBank_65 : decode cX12_clearBank 65 = .ok (.getfield 235, 3) := by decide +kernel
theorem dX12_clearBank_68 : decode cX12_clearBank 68 = .ok (.iconst 0, 1) := by decide +kernel
theorem dX12_clearBank_69 : decode cX12_clearBank 69 = .ok (.iastore, 1) := by decide +kernel
theorem dX12_clearBank_70 : decode cX12_clearBank 70 = .ok (.aload_n 0, 1) := by decide +kernel
theorem dX12_clearBank_71 : decode cX12_clearBank 71 = .ok (.sipush 560, 3) := by decide +kernel
theorem dX12_clearBank_74 : decode cX12_clearBank 74 = .ok (.aload_n 0, 1) := by decide +kernel
theorem dX12_clearBank_75 : decode cX12_clearBank 75 = .ok (.getfield 235, 3) := by decide +kernel
theorem dX12_clearBank_78 : decode cX12_clearBank 78 = .ok (.imul, 1) := by decide +kernel
theorem dX12_clearBank_79 : decode cX12_clearBank 79 = .ok (.putfield 238, 3) := by decide +kernel
theorem dX12_clearBank_82 : decode cX12_clearBank 82 = .ok (.return_, 1) := by decide +kernel
theorem dX12_house_0 : decode cX12_house 0 = .ok (.aload_n 0, 1) := by decide +kernel
theorem dX12_house_1 : decode cX12_house 1 = .ok (.iconst 0, 1) := by decide +kernel
theorem dX12_house_2 : decode cX12_house 2 = .ok (.putfield 137, 3) := by decide +kernel
theorem dX12_house_5 : decode cX12_house 5 = .ok (.aload_n 0, 1) := by decide +kernel
theorem dX12_house_6 : decode cX12_house 6 = .ok (.iconst (-1), 1) := by decide +kernel
theorem dX12_house_7 : decode cX12_house 7 = .ok (.putfield 16, 3) := by decide +kernel
theorem dX12_house_10 : decode cX12_house 10 = .ok (.aload_n 0, 1) := by decide +kernel
theorem dX12_house_11 : decode cX12_house 11 = .ok (.aload_n 0, 1) := by decide +kernel
theorem dX12_house_12 : decode cX12_house 12 = .ok (.getfield 241, 3) := by decide +kernel
theorem dX12_house_15 : decode cX12_house 15 = .ok (.putfield 134, 3) := by decide +kernel
theorem dX12_house_18 : decode cX12_house 18 = .ok (.iconst 0, 1) := by decide +kernel
theorem dX12_house_19 : decode cX12_house 19 = .ok (.istore_n 1, 1) := by decide +kernel
theorem dX12_house_20 : decode cX12_house 20 = .ok (.iload_n 1, 1) := by decide +kernel
theorem dX12_house_21 : decode cX12_house 21 = .ok (.aload_n 0, 1) := by decide +kernel
theorem dX12_house_22 : decode cX12_house 22 = .ok (.getfield 134, 3) := by decide +kernel
theorem dX12_house_25 : decode cX12_house 25 = .ok (.if_icmp .ge 21, 3) := by decide +kernel
theorem dX12_house_28 : decode cX12_house 28 = .ok (.aload_n 0, 1) := by decide +kernel
theorem dX12_house_29 : decode cX12_house 29 = .ok (.getfield 13, 3) := by decide +kernel
theorem dX12_house_32 : decode cX12_house 32 = .ok (.iload_n 1, 1) := by decide +kernel
theorem dX12_house_33 : decode cX12_house 33 = .ok (.aload_n 0, 1) := by decide +kernel
theorem dX12_house_34 : decode cX12_house 34 = .ok (.getfield 7, 3) := by decide +kernel
theorem dX12_house_37 : decode cX12_house 37 = .ok (.iload_n 1, 1) := by decide +kernel
theorem dX12_house_38 : decode cX12_house 38 = .ok (.baload, 1) := by decide +kernel
theorem dX12_house_39 : decode cX12_house 39 = .ok (.bastore, 1) := by decide +kernel
theorem dX12_house_40 : decode cX12_house 40 = .ok (.iinc 1 1, 3) := by decide +kernel
theorem dX12_house_43 : decode cX12_house 43 = .ok (.goto (-23), 3) := by decide +kernel
theorem dX12_house_46 : decode cX12_house 46 = .ok (.aload_n 0, 1) := by decide +kernel
theorem dX12_house_47 : decode cX12_house 47 = .ok (.iconst 0, 1) := by decide +kernel
theorem dX12_house_48 : decode cX12_house 48 = .ok (.putfield 241, 3) := by decide +kernel
theorem dX12_house_51 : decode cX12_house 51 = .ok (.aload_n 0, 1) := by decide +kernel
theorem dX12_house_52 : decode cX12_house 52 = .ok (.iconst 0, 1) := by decide +kernel
theorem dX12_house_53 : decode cX12_house 53 = .ok (.putfield 176, 3) := by decide +kernel
theorem dX12_house_56 : decode cX12_house 56 = .ok (.aload_n 0, 1) := by decide +kernel
theorem dX12_house_57 : decode cX12_house 57 = .ok (.iconst 1, 1) := by decide +kernel
theorem dX12_house_58 : decode cX12_house 58 = .ok (.aload_n 0, 1) := by decide +kernel
theorem dX12_house_59 : decode cX12_house 59 = .ok (.getfield 244, 3) := by decide +kernel
theorem dX12_house_62 : decode cX12_house 62 = .ok (.isub, 1) := by decide +kernel
theorem dX12_house_63 : decode cX12_house 63 = .ok (.putfield 235, 3) := by decide +kernel
theorem dX12_house_66 : decode cX12_house 66 = .ok (.aload_n 0, 1) := by decide +kernel
theorem dX12_house_67 : decode cX12_house 67 = .ok (.invokevirtual 128, 3) := by decide +kernel
theorem dX12_house_70 : decode cX12_house 70 = .ok (.aload_n 0, 1) := by decide +kernel
theorem dX12_house_71 : decode cX12_house 71 = .ok (.invokevirtual 218, 3) := by decide +kernel
theorem dX12_house_74 : decode cX12_house 74 = .ok (.aload_n 0, 1) := by decide +kernel
theorem dX12_house_75 : decode cX12_house 75 = .ok (.invokevirtual 214, 3) := by decide +kernel
theorem dX12_house_78 : decode cX12_house 78 = .ok (.ifCond .eq 17, 3) := by decide +kernel
theorem dX12_house_81 : decode cX12_house 81 = .ok (.aload_n 0, 1) := by decide +kernel
theorem dX12_house_82 : decode cX12_house 82 = .ok (.getfield 186, 3) := by decide +kernel
theorem dX12_house_85 : decode cX12_house 85 = .ok (.ifCond .eq 10, 3) := by decide +kernel
theorem dX12_house_88 : decode cX12_house 88 = .ok (.aload_n 0, 1) := by decide +kernel
theorem dX12_house_89 : decode cX12_house 89 = .ok (.invokevirtual 247, 3) := by decide +kernel
theorem dX12_house_92 : decode cX12_house 92 = .ok (.goto (-18), 3) := by decide +kernel
theorem dX12_house_95 : decode cX12_house 95 = .ok (.aload_n 0, 1) := by decide +kernel
theorem dX12_house_96 : decode cX12_house 96 = .ok (.invokevirtual 214, 3) := by decide +kernel
theorem dX12_house_99 : decode cX12_house 99 = .ok (.ifCond .ne 5, 3) := by decide +kernel
theorem dX12_house_102 : decode cX12_house 102 = .ok (.iconst (-1), 1) := by decide +kernel
theorem dX12_house_103 : decode cX12_house 103 = .ok (.ireturn, 1) := by decide +kernel
theorem dX12_house_104 : decode cX12_house 104 = .ok (.aload_n 0, 1) := by decide +kernel
theorem dX12_house_105 : decode cX12_house 105 = .ok (.aload_n 0, 1) := by decide +kernel
theorem dX12_house_106 : decode cX12_house 106 = .ok (.getfield 235, 3) := by decide +kernel
theorem dX12_house_109 : decode cX12_house 109 = .ok (.putfield 244, 3) := by decide +kernel
theorem dX12_house_112 : decode cX12_house 112 = .ok (.aload_n 0, 1) := by decide +kernel
theorem dX12_house_113 : decode cX12_house 113 = .ok (.invokevirtual 131, 3) := by decide +kernel
theorem dX12_house_116 : decode cX12_house 116 = .ok (.aload_n 0, 1) := by decide +kernel
theorem dX12_house_117 : decode cX12_house 117 = .ok (.getfield 24, 3) := by decide +kernel
theorem dX12_house_120 : decode cX12_house 120 = .ok (.aload_n 0, 1) := by decide +kernel
theorem dX12_house_121 : decode cX12_house 121 = .ok (.getfield 244, 3) := by decide +kernel
theorem dX12_house_124 : decode cX12_house 124 = .ok (.iaload, 1) := by decide +kernel
theorem dX12_house_125 : decode cX12_house 125 = .ok (.ireturn, 1) := by decide +kernel
theorem dX12_isFull_0 : decode cX12_isFull 0 = .ok (.aload_n 0, 1) := by decide +kernel
theorem dX12_isFull_1 : decode cX12_isFull 1 = .ok (.ldc2_w 140, 3) := by decide +kernel
theorem dX12_isFull_4 : decode cX12_isFull 4 = .ok (.invokevirtual 224, 3) := by decide +kernel
theorem dX12_isFull_7 : decode cX12_isFull 7 = .ok (.ifCond .eq 22, 3) := by decide +kernel
theorem dX12_isFull_10 : decode cX12_isFull 10 = .ok (.aload_n 0, 1) := by decide +kernel
theorem dX12_isFull_11 : decode cX12_isFull 11 = .ok (.getfield 20, 3) := by decide +kernel
theorem dX12_isFull_14 : decode cX12_isFull 14 = .ok (.aload_n 0, 1) := by decide +kernel
theorem dX12_isFull_15 : decode cX12_isFull 15 = .ok (.getfield 235, 3) := by decide +kernel
theorem dX12_isFull_18 : decode cX12_isFull 18 = .ok (.iaload, 1) := by decide +kernel
theorem dX12_isFull_19 : decode cX12_isFull 19 = .ok (.iconst 4, 1) := by decide +kernel
theorem dX12_isFull_20 : decode cX12_isFull 20 = .ok (.if_icmp .ne 7, 3) := by decide +kernel
theorem dX12_isFull_23 : decode cX12_isFull 23 = .ok (.iconst 1, 1) := by decide +kernel
theorem dX12_isFull_24 : decode cX12_isFull 24 = .ok (.goto 4, 3) := by decide +kernel
theorem dX12_isFull_27 : decode cX12_isFull 27 = .ok (.iconst 0, 1) := by decide +kernel
theorem dX12_isFull_28 : decode cX12_isFull 28 = .ok (.ireturn, 1) := by decide +kernel
theorem dX12_isFull_29 : decode cX12_isFull 29 = .ok (.aload_n 0, 1) := by decide +kernel
theorem dX12_isFull_30 : decode cX12_isFull 30 = .ok (.ldc2_w 144, 3) := by decide +kernel
theorem dX12_isFull_33 : decode cX12_isFull 33 = .ok (.invokevirtual 224, 3) := by decide +kernel
theorem dX12_isFull_36 : decode cX12_isFull 36 = .ok (.ifCond .eq 23, 3) := by decide +kernel
theorem dX12_isFull_39 : decode cX12_isFull 39 = .ok (.aload_n 0, 1) := by decide +kernel
theorem dX12_isFull_40 : decode cX12_isFull 40 = .ok (.getfield 24, 3) := by decide +kernel
theorem dX12_isFull_43 : decode cX12_isFull 43 = .ok (.aload_n 0, 1) := by decide +kernel
theorem dX12_isFull_44 : decode cX12_isFull 44 = .ok (.getfield 235, 3) := by decide +kernel
theorem dX12_isFull_47 : decode cX12_isFull 47 = .ok (.iaload, 1) := by decide +kernel
theorem dX12_isFull_48 : decode cX12_isFull 48 = .ok (.bipush 6, 2) := by decide +kernel
theorem dX12_isFull_50 : decode cX12_isFull 50 = .ok (.if_icmp .ne 7, 3) := by decide +kernel
theorem dX12_isFull_53 : decode cX12_isFull 53 = .ok (.iconst 1, 1) := by decide +kernel
theorem dX12_isFull_54 : decode cX12_isFull 54 = .ok (.goto 4, 3) := by decide +kernel
theorem dX12_isFull_57 : decode cX12_isFull 57 = .ok (.iconst 0, 1) := by decide +kernel
theorem dX12_isFull_58 : decode cX12_isFull 58 = .ok (.ireturn, 1) := by decide +kernel
theorem dX12_isFull_59 : decode cX12_isFull 59 = .ok (.aload_n 0, 1) := by decide +kernel
theorem dX12_isFull_60 : decode cX12_isFull 60 = .ok (.ldc2_w 154, 3) := by decide +kernel
theorem dX12_isFull_63 : decode cX12_isFull 63 = .ok (.invokevirtual 224, 3) := by decide +kernel
theorem dX12_isFull_66 : decode cX12_isFull 66 = .ok (.ifCond .eq 17, 3) := by decide +kernel
theorem dX12_isFull_69 : decode cX12_isFull 69 = .ok (.aload_n 0, 1) := by decide +kernel
theorem dX12_isFull_70 : decode cX12_isFull 70 = .ok (.getfield 39, 3) := by decide +kernel
theorem dX12_isFull_73 : decode cX12_isFull 73 = .ok (.aload_n 0, 1) := by decide +kernel
theorem dX12_isFull_74 : decode cX12_isFull 74 = .ok (.getfield 235, 3) := by decide +kernel
theorem dX12_isFull_77 : decode cX12_isFull 77 = .ok (.iaload, 1) := by decide +kernel
theorem dX12_isFull_78 : decode cX12_isFull 78 = .ok (.iconst 0, 1) := by decide +kernel
theorem dX12_isFull_79 : decode cX12_isFull 79 = .ok (.invokestatic 250, 3) := by decide +kernel
theorem dX12_isFull_82 : decode cX12_isFull 82 = .ok (.ireturn, 1) := by decide +kernel
theorem dX12_isFull_83 : decode cX12_isFull 83 = .ok (.aload_n 0, 1) := by decide +kernel
theorem dX12_isFull_84 : decode cX12_isFull 84 = .ok (.ldc2_w 156, 3) := by decide +kernel
theorem dX12_isFull_87 : decode cX12_isFull 87 = .ok (.invokevirtual 224, 3) := by decide +kernel
theorem dX12_isFull_90 : decode cX12_isFull 90 = .ok (.ifCond .eq 17, 3) := by decide +kernel
theorem dX12_isFull_93 : decode cX12_isFull 93 = .ok (.aload_n 0, 1) := by decide +kernel
theorem dX12_isFull_94 : decode cX12_isFull 94 = .ok (.getfield 39, 3) := by decide +kernel
theorem dX12_isFull_97 : decode cX12_isFull 97 = .ok (.aload_n 0, 1) := by decide +kernel
theorem dX12_isFull_98 : decode cX12_isFull 98 = .ok (.getfield 235, 3) := by decide +kernel
theorem dX12_isFull_101 : decode cX12_isFull 101 = .ok (.iaload, 1) := by decide +kernel
theorem dX12_isFull_102 : decode cX12_isFull 102 = .ok (.iconst 1, 1) := by decide +kernel
theorem dX12_isFull_103 : decode cX12_isFull 103 = .ok (.invokestatic 250, 3) := by decide +kernel
theorem dX12_isFull_106 : decode cX12_isFull 106 = .ok (.ireturn, 1) := by decide +kernel
theorem dX12_isFull_107 : decode cX12_isFull 107 = .ok (.aload_n 0, 1) := by decide +kernel
theorem dX12_isFull_108 : decode cX12_isFull 108 = .ok (.ldc2_w 158, 3) := by decide +kernel
theorem dX12_isFull_111 : decode cX12_isFull 111 = .ok (.invokevirtual 224, 3) := by decide +kernel
theorem dX12_isFull_114 : decode cX12_isFull 114 = .ok (.ifCond .eq 17, 3) := by decide +kernel
theorem dX12_isFull_117 : decode cX12_isFull 117 = .ok (.aload_n 0, 1) := by decide +kernel
theorem dX12_isFull_118 : decode cX12_isFull 118 = .ok (.getfield 39, 3) := by decide +kernel
theorem dX12_isFull_121 : decode cX12_isFull 121 = .ok (.aload_n 0, 1) := by decide +kernel
theorem dX12_isFull_122 : decode cX12_isFull 122 = .ok (.getfield 235, 3) := by decide +kernel
theorem dX12_isFull_125 : decode cX12_isFull 125 = .ok (.iaload, 1) := by decide +kernel
theorem dX12_isFull_126 : decode cX12_isFull 126 = .ok (.iconst 2, 1) := by decide +kernel
theorem dX12_isFull_127 : decode cX12_isFull 127 = .ok (.invokestatic 250, 3) := by decide +kernel
theorem dX12_isFull_130 : decode cX12_isFull 130 = .ok (.ireturn, 1) := by decide +kernel
theorem dX12_isFull_131 : decode cX12_isFull 131 = .ok (.aload_n 0, 1) := by decide +kernel
theorem dX12_isFull_132 : decode cX12_isFull 132 = .ok (.ldc2_w 160, 3) := by decide +kernel
theorem dX12_isFull_135 : decode cX12_isFull 135 = .ok (.invokevirtual 224, 3) := by decide +kernel
theorem dX12_isFull_138 : decode cX12_isFull 138 = .ok (.ifCond .eq 19, 3) := by decide +kernel
theorem dX12_isFull_141 : decode cX12_isFull 141 = .ok (.aload_n 0, 1) := by decide +kernel
theorem dX12_isFull_142 : decode cX12_isFull 142 = .ok (.getfield 39, 3) := by decide +kernel
theorem dX12_isFull_145 : decode cX12_isFull 145 = .ok (.aload_n 0, 1) := by decide +kernel
theorem dX12_isFull_146 : decode cX12_isFull 146 = .ok (.getfield 235, 3) := by decide +kernel
theorem dX12_isFull_149 : decode cX12_isFull 149 = .ok (.iaload, 1) := by decide +kernel
theorem dX12_isFull_150 : decode cX12_isFull 150 = .ok (.iconst 3, 1) := by decide +kernel
theorem dX12_isFull_151 : decode cX12_isFull 151 = .ok (.invokestatic 250, 3) := by decide +kernel
theorem dX12_isFull_154 : decode cX12_isFull 154 = .ok (.ifCond .eq 7, 3) := by decide +kernel
theorem dX12_isFull_157 : decode cX12_isFull 157 = .ok (.iconst 1, 1) := by decide +kernel
theorem dX12_isFull_158 : decode cX12_isFull 158 = .ok (.goto 4, 3) := by decide +kernel
theorem dX12_isFull_161 : decode cX12_isFull 161 = .ok (.iconst 0, 1) := by decide +kernel
theorem dX12_isFull_162 : decode cX12_isFull 162 = .ok (.ireturn, 1) := by decide +kernel
theorem dX12_once_0 : decode cX12_once 0 = .ok (.aload_n 0, 1) := by decide +kernel
theorem dX12_once_1 : decode cX12_once 1 = .ok (.getfield 39, 3) := by decide +kernel
theorem dX12_once_4 : decode cX12_once 4 = .ok (.aload_n 0, 1) := by decide +kernel
theorem dX12_once_5 : decode cX12_once 5 = .ok (.getfield 235, 3) := by decide +kernel
theorem dX12_once_8 : decode cX12_once 8 = .ok (.dup2, 1) := by decide +kernel
theorem dX12_once_9 : decode cX12_once 9 = .ok (.iaload, 1) := by decide +kernel
theorem dX12_once_10 : decode cX12_once 10 = .ok (.iconst 1, 1) := by decide +kernel
theorem dX12_once_11 : decode cX12_once 11 = .ok (.iload_n 1, 1) := by decide +kernel
theorem dX12_once_12 : decode cX12_once 12 = .ok (.ishl, 1) := by decide +kernel
theorem dX12_once_13 : decode cX12_once 13 = .ok (.ior, 1) := by decide +kernel
theorem dX12_once_14 : decode cX12_once 14 = .ok (.iastore, 1) := by decide +kernel
theorem dX12_once_15 : decode cX12_once 15 = .ok (.aload_n 0, 1) := by decide +kernel
theorem dX12_once_16 : decode cX12_once 16 = .ok (.iload_n 2, 1) := by decide +kernel
theorem dX12_once_17 : decode cX12_once 17 = .ok (.iload_n 3, 1) := by decide +kernel
theorem dX12_once_18 : decode cX12_once 18 = .ok (.invokevirtual 231, 3) := by decide +kernel
theorem dX12_once_21 : decode cX12_once 21 = .ok (.ireturn, 1) := by decide +kernel
theorem dX12_readLine_0 : decode cX12_readLine 0 = .ok (.aload_n 0, 1) := by decide +kernel
theorem dX12_readLine_1 : decode cX12_readLine 1 = .ok (.getfield 193, 3) := by decide +kernel
theorem dX12_readLine_4 : decode cX12_readLine 4 = .ok (.lstore_n 1, 1) := by decide +kernel
theorem dX12_readLine_5 : decode cX12_readLine 5 = .ok (.aload_n 0, 1) := by decide +kernel
theorem dX12_readLine_6 : decode cX12_readLine 6 = .ok (.getfield 186, 3) := by decide +kernel
theorem dX12_readLine_9 : decode cX12_readLine 9 = .ok (.iconst 3, 1) := by decide +kernel
theorem dX12_readLine_10 : decode cX12_readLine 10 = .ok (.if_icmp .ne 10, 3) := by decide +kernel
theorem dX12_readLine_13 : decode cX12_readLine 13 = .ok (.aload_n 0, 1) := by decide +kernel
theorem dX12_readLine_14 : decode cX12_readLine 14 = .ok (.invokevirtual 254, 3) := by decide +kernel
theorem dX12_readLine_17 : decode cX12_readLine 17 = .ok (.ifCond .eq 7, 3) := by decide +kernel
theorem dX12_readLine_20 : decode cX12_readLine 20 = .ok (.aload_n 0, 1) := by decide +kernel
theorem dX12_readLine_21 : decode cX12_readLine 21 = .ok (.invokevirtual 221, 3) := by decide +kernel
theorem dX12_readLine_24 : decode cX12_readLine 24 = .ok (.aload_n 0, 1) := by decide +kernel
theorem dX12_readLine_25 : decode cX12_readLine 25 = .ok (.invokevirtual 214, 3) := by decide +kernel
theorem dX12_readLine_28 : decode cX12_readLine 28 = .ok (.ifCond .ne 4, 3) := by decide +kernel
theorem dX12_readLine_31 : decode cX12_readLine 31 = .ok (.return_, 1) := by decide +kernel
theorem dX12_readLine_32 : decode cX12_readLine 32 = .ok (.aload_n 0, 1) := by decide +kernel
theorem dX12_readLine_33 : decode cX12_readLine 33 = .ok (.invokevirtual 218, 3) := by decide +kernel
theorem dX12_readLine_36 : decode cX12_readLine 36 = .ok (.lload_n 1, 1) := by decide +kernel
theorem dX12_readLine_37 : decode cX12_readLine 37 = .ok (.ldc2_w 140, 3) := by decide +kernel
theorem dX12_readLine_40 : decode cX12_readLine 40 = .ok (.lcmp, 1) := by decide +kernel
theorem dX12_readLine_41 : decode cX12_readLine 41 = .ok (.ifCond .ne 76, 3) := by decide +kernel
theorem dX12_readLine_44 : decode cX12_readLine 44 = .ok (.aload_n 0, 1) := by decide +kernel
theorem dX12_readLine_45 : decode cX12_readLine 45 = .ok (.getfield 63, 3) := by decide +kernel
theorem dX12_readLine_48 : decode cX12_readLine 48 = .ok (.iconst 4, 1) := by decide +kernel
theorem dX12_readLine_49 : decode cX12_readLine 49 = .ok (.aload_n 0, 1) := by decide +kernel
theorem dX12_readLine_50 : decode cX12_readLine 50 = .ok (.getfield 235, 3) := by decide +kernel
theorem dX12_readLine_53 : decode cX12_readLine 53 = .ok (.imul, 1) := by decide +kernel
theorem dX12_readLine_54 : decode cX12_readLine 54 = .ok (.aload_n 0, 1) := by decide +kernel
theorem dX12_readLine_55 : decode cX12_readLine 55 = .ok (.getfield 20, 3) := by decide +kernel
theorem dX12_readLine_58 : decode cX12_readLine 58 = .ok (.aload_n 0, 1) := by decide +kernel
theorem dX12_readLine_59 : decode cX12_readLine 59 = .ok (.getfield 235, 3) := by decide +kernel
theorem dX12_readLine_62 : decode cX12_readLine 62 = .ok (.iaload, 1) := by decide +kernel
theorem dX12_readLine_63 : decode cX12_readLine 63 = .ok (.iadd, 1) := by decide +kernel
theorem dX12_readLine_64 : decode cX12_readLine 64 = .ok (.aload_n 0, 1) := by decide +kernel
theorem dX12_readLine_65 : decode cX12_readLine 65 = .ok (.aload_n 0, 1) := by decide +kernel
theorem dX12_readLine_66 : decode cX12_readLine 66 = .ok (.invokevirtual 257, 3) := by decide +kernel
theorem dX12_readLine_69 : decode cX12_readLine 69 = .ok (.invokevirtual 261, 3) := by decide +kernel
theorem dX12_readLine_72 : decode cX12_readLine 72 = .ok (.lastore, 1) := by decide +kernel
theorem dX12_readLine_73 : decode cX12_readLine 73 = .ok (.aload_n 0, 1) := by decide +kernel
theorem dX12_readLine_74 : decode cX12_readLine 74 = .ok (.getfield 42, 3) := by decide +kernel
theorem dX12_readLine_77 : decode cX12_readLine 77 = .ok (.iconst 4, 1) := by decide +kernel
theorem dX12_readLine_78 : decode cX12_readLine 78 = .ok (.aload_n 0, 1) := by decide +kernel
theorem dX12_readLine_79 : decode cX12_readLine 79 = .ok (.getfield 235, 3) := by decide +kernel
theorem dX12_readLine_82 : decode cX12_readLine 82 = .ok (.imul, 1) := by decide +kernel
theorem dX12_readLine_83 : decode cX12_readLine 83 = .ok (.aload_n 0, 1) := by decide +kernel
theorem dX12_readLine_84 : decode cX12_readLine 84 = .ok (.getfield 20, 3) := by decide +kernel
theorem dX12_readLine_87 : decode cX12_readLine 87 = .ok (.aload_n 0, 1) := by decide +kernel
theorem dX12_readLine_88 : decode cX12_readLine 88 = .ok (.getfield 235, 3) := by decide +kernel
theorem dX12_readLine_91 : decode cX12_readLine 91 = .ok (.iaload, 1) := by decide +kernel
theorem dX12_readLine_92 : decode cX12_readLine 92 = .ok (.iadd, 1) := by decide +kernel
theorem dX12_readLine_93 : decode cX12_readLine 93 = .ok (.aload_n 0, 1) := by decide +kernel
theorem dX12_readLine_94 : decode cX12_readLine 94 = .ok (.ldc2_w 142, 3) := by decide +kernel
theorem dX12_readLine_97 : decode cX12_readLine 97 = .ok (.iconst 0, 1) := by decide +kernel
theorem dX12_readLine_98 : decode cX12_readLine 98 = .ok (.bipush 99, 2) := by decide +kernel
theorem dX12_readLine_100 : decode cX12_readLine 100 = .ok (.invokevirtual 265, 3) := by decide +kernel
theorem dX12_readLine_103 : decode cX12_readLine 103 = .ok (.iastore, 1) := by decide +kernel
theorem dX12_readLine_104 : decode cX12_readLine 104 = .ok (.aload_n 0, 1) := by decide +kernel
theorem dX12_readLine_105 : decode cX12_readLine 105 = .ok (.getfield 20, 3) := by decide +kernel
theorem dX12_readLine_108 : decode cX12_readLine 108 = .ok (.aload_n 0, 1) := by decide +kernel
theorem dX12_readLine_109 : decode cX12_readLine 109 = .ok (.getfield 235, 3) := by decide +kernel
theorem dX12_readLine_112 : decode cX12_readLine 112 = .ok (.dup2, 1) := by decide +kernel
theorem dX12_readLine_113 : decode cX12_readLine 113 = .ok (.iaload, 1) := by decide +kernel
theorem dX12_readLine_114 : decode cX12_readLine 114 = .ok (.iconst 1, 1) := by decide +kernel
theorem dX12_readLine_115 : decode cX12_readLine 115 = .ok (.iadd, 1) := by decide +kernel
theorem dX12_readLine_116 : decode cX12_readLine 116 = .ok (.iastore, 1) := by decide +kernel
theorem dX12_readLine_117 : decode cX12_readLine 117 = .ok (.lload_n 1, 1) := by decide +kernel
theorem dX12_readLine_118 : decode cX12_readLine 118 = .ok (.ldc2_w 144, 3) := by decide +kernel
theorem dX12_readLine_121 : decode cX12_readLine 121 = .ok (.lcmp, 1) := by decide +kernel
theorem dX12_readLine_122 : decode cX12_readLine 122 = .ok (.ifCond .ne 7, 3) := by decide +kernel
theorem dX12_readLine_125 : decode cX12_readLine 125 = .ok (.aload_n 0, 1) := by decide +kernel
theorem dX12_readLine_126 : decode cX12_readLine 126 = .ok (.invokevirtual 269, 3) := by decide +kernel
theorem dX12_readLine_129 : decode cX12_readLine 129 = .ok (.lload_n 1, 1) := by decide +kernel
theorem dX12_readLine_130 : decode cX12_readLine 130 = .ok (.ldc2_w 154, 3) := by decide +kernel
theorem dX12_readLine_133 : decode cX12_readLine 133 = .ok (.lcmp, 1) := by decide +kernel
theorem dX12_readLine_134 : decode cX12_readLine 134 = .ok (.ifCond .ne 7, 3) := by decide +kernel
theorem dX12_readLine_137 : decode cX12_readLine 137 = .ok (.aload_n 0, 1) := by decide +kernel
theorem dX12_readLine_138 : decode cX12_readLine 138 = .ok (.invokevirtual 272, 3) := by decide +kernel
theorem dX12_readLine_141 : decode cX12_readLine 141 = .ok (.lload_n 1, 1) := by decide +kernel
theorem dX12_readLine_142 : decode cX12_readLine 142 = .ok (.ldc2_w 156, 3) := by decide +kernel
theorem dX12_readLine_145 : decode cX12_readLine 145 = .ok (.lcmp, 1) := by decide +kernel
theorem dX12_readLine_146 : decode cX12_readLine 146 = .ok (.ifCond .ne 20, 3) := by decide +kernel
theorem dX12_readLine_149 : decode cX12_readLine 149 = .ok (.aload_n 0, 1) := by decide +kernel
theorem dX12_readLine_150 : decode cX12_readLine 150 = .ok (.getfield 30, 3) := by decide +kernel
theorem dX12_readLine_153 : decode cX12_readLine 153 = .ok (.aload_n 0, 1) := by decide +kernel
theorem dX12_readLine_154 : decode cX12_readLine 154 = .ok (.getfield 235, 3) := by decide +kernel
theorem dX12_readLine_157 : decode cX12_readLine 157 = .ok (.aload_n 0, 1) := by decide +kernel
theorem dX12_readLine_158 : decode cX12_readLine 158 = .ok (.iconst 1, 1) := by decide +kernel
theorem dX12_readLine_159 : decode cX12_readLine 159 = .ok (.iconst 1, 1) := by decide +kernel
theorem dX12_readLine_160 : decode cX12_readLine 160 = .ok (.bipush 9, 2) := by decide +kernel
theorem dX12_readLine_162 : decode cX12_readLine 162 = .ok (.invokevirtual 275, 3) := by decide +kernel
theorem dX12_readLine_165 : decode cX12_readLine 165 = .ok (.iastore, 1) := by decide +kernel
theorem dX12_readLine_166 : decode cX12_readLine 166 = .ok (.lload_n 1, 1) := by decide +kernel
theorem dX12_readLine_167 : decode cX12_readLine 167 = .ok (.ldc2_w 158, 3) := by decide +kernel
theorem dX12_readLine_170 : decode cX12_readLine 170 = .ok (.lcmp, 1) := by decide +kernel
theorem dX12_readLine_171 : decode cX12_readLine 171 = .ok (.ifCond .ne 20, 3) := by decide +kernel
theorem dX12_readLine_174 : decode cX12_readLine 174 = .ok (.aload_n 0, 1) := by decide +kernel
theorem dX12_readLine_175 : decode cX12_readLine 175 = .ok (.getfield 33, 3) := by decide +kernel
theorem dX12_readLine_178 : decode cX12_readLine 178 = .ok (.aload_n 0, 1) := by decide +kernel
theorem dX12_readLine_179 : decode cX12_readLine 179 = .ok (.getfield 235, 3) := by decide +kernel
theorem dX12_readLine_182 : decode cX12_readLine 182 = .ok (.aload_n 0, 1) := by decide +kernel
theorem dX12_readLine_183 : decode cX12_readLine 183 = .ok (.iconst 2, 1) := by decide +kernel
theorem dX12_readLine_184 : decode cX12_readLine 184 = .ok (.iconst 0, 1) := by decide +kernel
theorem dX12_readLine_185 : decode cX12_readLine 185 = .ok (.bipush 99, 2) := by decide +kernel
theorem dX12_readLine_187 : decode cX12_readLine 187 = .ok (.invokevirtual 275, 3) := by decide +kernel
theorem dX12_readLine_190 : decode cX12_readLine 190 = .ok (.iastore, 1) := by decide +kernel
theorem dX12_readLine_191 : decode cX12_readLine 191 = .ok (.lload_n 1, 1) := by decide +kernel
theorem dX12_readLine_192 : decode cX12_readLine 192 = .ok (.ldc2_w 160, 3) := by decide +kernel
theorem dX12_readLine_195 : decode cX12_readLine 195 = .ok (.lcmp, 1) := by decide +kernel
theorem dX12_readLine_196 : decode cX12_readLine 196 = .ok (.ifCond .ne 21, 3) := by decide +kernel
theorem dX12_readLine_199 : decode cX12_readLine 199 = .ok (.aload_n 0, 1) := by decide +kernel
theorem dX12_readLine_200 : decode cX12_readLine 200 = .ok (.getfield 36, 3) := by decide +kernel
theorem dX12_readLine_203 : decode cX12_readLine 203 = .ok (.aload_n 0, 1) := by decide +kernel
theorem dX12_readLine_204 : decode cX12_readLine 204 = .ok (.getfield 235, 3) := by decide +kernel
theorem dX12_readLine_207 : decode cX12_readLine 207 = .ok (.aload_n 0, 1) := by decide +kernel
theorem dX12_readLine_208 : decode cX12_readLine 208 = .ok (.iconst 3, 1) := by decide +kernel
theorem dX12_readLine_209 : decode cX12_readLine 209 = .ok (.iconst 0, 1) := by decide +kernel
theorem dX12_readLine_210 : decode cX12_readLine 210 = .ok (.sipush 999, 3) := by decide +kernel
theorem dX12_readLine_213 : decode cX12_readLine 213 = .ok (.invokevirtual 275, 3) := by decide +kernel
theorem dX12_readLine_216 : decode cX12_readLine 216 = .ok (.iastore, 1) := by decide +kernel
theorem dX12_readLine_217 : decode cX12_readLine 217 = .ok (.aload_n 0, 1) := by decide +kernel
theorem dX12_readLine_218 : decode cX12_readLine 218 = .ok (.aload_n 0, 1) := by decide +kernel
theorem dX12_readLine_219 : decode cX12_readLine 219 = .ok (.bipush 59, 2) := by decide +kernel
theorem dX12_readLine_221 : decode cX12_readLine 221 = .ok (.invokevirtual 279, 3) := by decide +kernel
theorem dX12_readLine_224 : decode cX12_readLine 224 = .ok (.invokevirtual 227, 3) := by decide +kernel
theorem dX12_readLine_227 : decode cX12_readLine 227 = .ok (.return_, 1) := by decide +kernel
theorem dX12_here_0 : decode cX12_here 0 = .ok (.iconst 0, 1) := by decide +kernel
theorem dX12_here_1 : decode cX12_here 1 = .ok (.istore 4, 2) := by decide +kernel
theorem dX12_here_3 : decode cX12_here 3 = .ok (.iload 4, 2) := by decide +kernel
theorem dX12_here_5 : decode cX12_here 5 = .ok (.iload_n 3, 1) := by decide +kernel
theorem dX12_here_6 : decode cX12_here 6 = .ok (.if_icmp .ge 34, 3) := by decide +kernel
theorem dX12_here_9 : decode cX12_here 9 = .ok (.aload_n 0, 1) := by decide +kernel
theorem dX12_here_10 : decode cX12_here 10 = .ok (.getfield 186, 3) := by decide +kernel
theorem dX12_here_13 : decode cX12_here 13 = .ok (.iconst 2, 1) := by decide +kernel
theorem dX12_here_14 : decode cX12_here 14 = .ok (.if_icmp .ne 20, 3) := by decide +kernel
theorem dX12_here_17 : decode cX12_here 17 = .ok (.aload_n 1, 1) := by decide +kernel
theorem dX12_here_18 : decode cX12_here 18 = .ok (.iload_n 2, 1) := by decide +kernel
theorem dX12_here_19 : decode cX12_here 19 = .ok (.iload 4, 2) := by decide +kernel
theorem dX12_here_21 : decode cX12_here 21 = .ok (.iadd, 1) := by decide +kernel
theorem dX12_here_22 : decode cX12_here 22 = .ok (.laload, 1) := by decide +kernel
theorem dX12_here_23 : decode cX12_here 23 = .ok (.aload_n 0, 1) := by decide +kernel
theorem dX12_here_24 : decode cX12_here 24 = .ok (.getfield 193, 3) := by decide +kernel
theorem dX12_here_27 : decode cX12_here 27 = .ok (.lcmp, 1) := by decide +kernel
theorem dX12_here_28 : decode cX12_here 28 = .ok (.ifCond .ne 6, 3) := by decide +kernel
theorem dX12_here_31 : decode cX12_here 31 = .ok (.iload 4, 2) := by decide +kernel
theorem dX12_here_33 : decode cX12_here 33 = .ok (.ireturn, 1) := by decide +kernel
theorem dX12_here_34 : decode cX12_here 34 = .ok (.iinc 4 1, 3) := by decide +kernel
theorem dX12_here_37 : decode cX12_here 37 = .ok (.goto (-34), 3) := by decide +kernel
theorem dX12_here_40 : decode cX12_here 40 = .ok (.iconst (-1), 1) := by decide +kernel
theorem dX12_here_41 : decode cX12_here 41 = .ok (.ireturn, 1) := by decide +kernel
theorem dX12_roomHere_0 : decode cX12_roomHere 0 = .ok (.aload_n 0, 1) := by decide +kernel
theorem dX12_roomHere_1 : decode cX12_roomHere 1 = .ok (.aload_n 0, 1) := by decide +kernel
theorem dX12_roomHere_2 : decode cX12_roomHere 2 = .ok (.getfield 63, 3) := by decide +kernel
theorem dX12_roomHere_5 : decode cX12_roomHere 5 = .ok (.iconst 4, 1) := by decide +kernel
theorem dX12_roomHere_6 : decode cX12_roomHere 6 = .ok (.aload_n 0, 1) := by decide +kernel
theorem dX12_roomHere_7 : decode cX12_roomHere 7 = .ok (.getfield 235, 3) := by decide +kernel
theorem dX12_roomHere_10 : decode cX12_roomHere 10 = .ok (.imul, 1) := by decide +kernel
theorem dX12_roomHere_11 : decode cX12_roomHere 11 = .ok (.aload_n 0, 1) := by decide +kernel
theorem dX12_roomHere_12 : decode cX12_roomHere 12 = .ok (.getfield 20, 3) := by decide +kernel
theorem dX12_roomHere_15 : decode cX12_roomHere 15 = .ok (.aload_n 0, 1) := by decide +kernel
theorem dX12_roomHere_16 : decode cX12_roomHere 16 = .ok (.getfield 235, 3) := by decide +kernel
theorem dX12_roomHere_19 : decode cX12_roomHere 19 = .ok (.iaload, 1) := by decide +kernel
theorem dX12_roomHere_20 : decode cX12_roomHere 20 = .ok (.invokevirtual 282, 3) := by decide +kernel
theorem dX12_roomHere_23 : decode cX12_roomHere 23 = .ok (.ireturn, 1) := by decide +kernel
theorem dX12_fresh_0 : decode cX12_fresh 0 = .ok (.aload_n 0, 1) := by decide +kernel
theorem dX12_fresh_1 : decode cX12_fresh 1 = .ok (.invokevirtual 214, 3) := by decide +kernel
theorem dX12_fresh_4 : decode cX12_fresh 4 = .ok (.ifCond .ne 5, 3) := by decide +kernel
theorem dX12_fresh_7 : decode cX12_fresh 7 = .ok (.lconst 0, 1) := by decide +kernel
theorem dX12_fresh_8 : decode cX12_fresh 8 = .ok (.lreturn, 1) := by decide +kernel
theorem dX12_fresh_9 : decode cX12_fresh 9 = .ok (.aload_n 0, 1) := by decide +kernel
theorem dX12_fresh_10 : decode cX12_fresh 10 = .ok (.getfield 186, 3) := by decide +kernel
theorem dX12_fresh_13 : decode cX12_fresh 13 = .ok (.iconst 2, 1) := by decide +kernel
theorem dX12_fresh_14 : decode cX12_fresh 14 = .ok (.if_icmp .eq 10, 3) := by decide +kernel
theorem dX12_fresh_17 : decode cX12_fresh 17 = .ok (.aload_n 0, 1) := by decide +kernel
theorem dX12_fresh_18 : decode cX12_fresh 18 = .ok (.invokevirtual 221, 3) := by decide +kernel
theorem dX12_fresh_21 : decode cX12_fresh 21 = .ok (.goto 16, 3) := by decide +kernel
theorem dX12_fresh_24 : decode cX12_fresh 24 = .ok (.iload_n 1, 1) := by decide +kernel
theorem dX12_fresh_25 : decode cX12_fresh 25 = .ok (.ifCond .lt 12, 3) := by decide +kernel
theorem dX12_fresh_28 : decode cX12_fresh 28 = .ok (.aload_n 0, 1) := by decide +kernel
theorem dX12_fresh_29 : decode cX12_fresh 29 = .ok (.iconst 3, 1) := by decide +kernel
theorem dX12_fresh_30 : decode cX12_fresh 30 = .ok (.aload_n 0, 1) := by decide +kernel
theorem dX12_fresh_31 : decode cX12_fresh 31 = .ok (.getfield 179, 3) := by decide +kernel
theorem dX12_fresh_34 : decode cX12_fresh 34 = .ok (.invokevirtual 210, 3) := by decide +kernel
theorem dX12_fresh_37 : decode cX12_fresh 37 = .ok (.aload_n 0, 1) := by decide +kernel
theorem dX12_fresh_38 : decode cX12_fresh 38 = .ok (.getfield 193, 3) := by decide +kernel
theorem dX12_fresh_41 : decode cX12_fresh 41 = .ok (.lstore_n 2, 1) := by decide +kernel
theorem dX12_fresh_42 : decode cX12_fresh 42 = .ok (.aload_n 0, 1) := by decide +kernel
theorem dX12_fresh_43 : decode cX12_fresh 43 = .ok (.invokevirtual 214, 3) := by decide +kernel
theorem dX12_fresh_46 : decode cX12_fresh 46 = .ok (.ifCond .eq 7, 3) := by decide +kernel
theorem dX12_fresh_49 : decode cX12_fresh 49 = .ok (.aload_n 0, 1) := by decide +kernel
theorem dX12_fresh_50 : decode cX12_fresh 50 = .ok (.invokevirtual 218, 3) := by decide +kernel
theorem dX12_fresh_53 : decode cX12_fresh 53 = .ok (.lload_n 2, 1) := by decide +kernel
theorem dX12_fresh_54 : decode cX12_fresh 54 = .ok (.lreturn, 1) := by decide +kernel
theorem dX12_readTrunk_0 : decode cX12_readTrunk 0 = .ok (.bipush 6, 2) := by decide +kernel
theorem dX12_readTrunk_2 : decode cX12_readTrunk 2 = .ok (.aload_n 0, 1) := by decide +kernel
theorem dX12_readTrunk_3 : decode cX12_readTrunk 3 = .ok (.getfield 235, 3) := by decide +kernel
theorem dX12_readTrunk_6 : decode cX12_readTrunk 6 = .ok (.imul, 1) := by decide +kernel
theorem dX12_readTrunk_7 : decode cX12_readTrunk 7 = .ok (.aload_n 0, 1) := by decide +kernel
theorem dX12_readTrunk_8 : decode cX12_readTrunk 8 = .ok (.getfield 24, 3) := by decide +kernel
theorem dX12_readTrunk_11 : decode cX12_readTrunk 11 = .ok (.aload_n 0, 1) := by decide +kernel
theorem dX12_readTrunk_12 : decode cX12_readTrunk 12 = .ok (.getfield 235, 3) := by decide +kernel
theorem dX12_readTrunk_15 : decode cX12_readTrunk 15 = .ok (.iaload, 1) := by decide +kernel
theorem dX12_readTrunk_16 : decode cX12_readTrunk 16 = .ok (.iadd, 1) := by decide +kernel
theorem dX12_readTrunk_17 : decode cX12_readTrunk 17 = .ok (.istore_n 1, 1) := by decide +kernel
theorem dX12_readTrunk_18 : decode cX12_readTrunk 18 = .ok (.aload_n 0, 1) := by decide +kernel
theorem dX12_readTrunk_19 : decode cX12_readTrunk 19 = .ok (.getfield 67, 3) := by decide +kernel
theorem dX12_readTrunk_22 : decode cX12_readTrunk 22 = .ok (.iload_n 1, 1) := by decide +kernel
theorem dX12_readTrunk_23 : decode cX12_readTrunk 23 = .ok (.aload_n 0, 1) := by decide +kernel
theorem dX12_readTrunk_24 : decode cX12_readTrunk 24 = .ok (.aload_n 0, 1) := by decide +kernel
theorem dX12_readTrunk_25 : decode cX12_readTrunk 25 = .ok (.aload_n 0, 1) := by decide +kernel
theorem dX12_readTrunk_26 : decode cX12_readTrunk 26 = .ok (.getfield 67, 3) := by decide +kernel
theorem dX12_readTrunk_29 : decode cX12_readTrunk 29 = .ok (.bipush 6, 2) := by decide +kernel
theorem dX12_readTrunk_31 : decode cX12_readTrunk 31 = .ok (.aload_n 0, 1) := by decide +kernel
theorem dX12_readTrunk_32 : decode cX12_readTrunk 32 = .ok (.getfield 235, 3) := by decide +kernel
theorem dX12_readTrunk_35 : decode cX12_readTrunk 35 = .ok (.imul, 1) := by decide +kernel
theorem dX12_readTrunk_36 : decode cX12_readTrunk 36 = .ok (.aload_n 0, 1) := by decide +kernel
theorem dX12_readTrunk_37 : decode cX12_readTrunk 37 = .ok (.getfield 24, 3) := by decide +kernel
theorem dX12_readTrunk_40 : decode cX12_readTrunk 40 = .ok (.aload_n 0, 1) := by decide +kernel
theorem dX12_readTrunk_41 : decode cX12_readTrunk 41 = .ok (.getfield 235, 3) := by decide +kernel
theorem dX12_readTrunk_44 : decode cX12_readTrunk 44 = .ok (.iaload, 1) := by decide +kernel
theorem dX12_readTrunk_45 : decode cX12_readTrunk 45 = .ok (.invokevirtual 282, 3) := by decide +kernel
theorem dX12_readTrunk_48 : decode cX12_readTrunk 48 = .ok (.invokevirtual 261, 3) := by decide +kernel
theorem dX12_readTrunk_51 : decode cX12_readTrunk 51 = .ok (.lastore, 1) := by decide +kernel
theorem dX12_readTrunk_52 : decode cX12_readTrunk 52 = .ok (.aload_n 0, 1) := by decide +kernel
theorem dX12_readTrunk_53 : decode cX12_readTrunk 53 = .ok (.getfield 45, 3) := by decide +kernel
theorem dX12_readTrunk_56 : decode cX12_readTrunk 56 = .ok (.iload_n 1, 1) := by decide +kernel
theorem dX12_readTrunk_57 : decode cX12_readTrunk 57 = .ok (.aload_n 0, 1) := by decide +kernel
theorem dX12_readTrunk_58 : decode cX12_readTrunk 58 = .ok (.ldc2_w 146, 3) := by decide +kernel
theorem dX12_readTrunk_61 : decode cX12_readTrunk 61 = .ok (.iconst 1, 1) := by decide +kernel
theorem dX12_readTrunk_62 : decode cX12_readTrunk 62 = .ok (.bipush 20, 2) := by decide +kernel
theorem dX12_readTrunk_64 : decode cX12_readTrunk 64 = .ok (.invokevirtual 265, 3) := by decide +kernel
theorem dX12_readTrunk_67 : decode cX12_readTrunk 67 = .ok (.iastore, 1) := by decide +kernel
theorem dX12_readTrunk_68 : decode cX12_readTrunk 68 = .ok (.aload_n 0, 1) := by decide +kernel
theorem dX12_readTrunk_69 : decode cX12_readTrunk 69 = .ok (.aload_n 0, 1) := by decide +kernel
theorem dX12_readTrunk_70 : decode cX12_readTrunk 70 = .ok (.ldc2_w 148, 3) := by decide +kernel
theorem dX12_readTrunk_73 : decode cX12_readTrunk 73 = .ok (.invokevirtual 224, 3) := by decide +kernel
theorem dX12_readTrunk_76 : decode cX12_readTrunk 76 = .ok (.invokevirtual 227, 3) := by decide +kernel
theorem dX12_readTrunk_79 : decode cX12_readTrunk 79 = .ok (.aload_n 0, 1) := by decide +kernel
theorem dX12_readTrunk_80 : decode cX12_readTrunk 80 = .ok (.invokevirtual 214, 3) := by decide +kernel
theorem dX12_readTrunk_83 : decode cX12_readTrunk 83 = .ok (.ifCond .ne 4, 3) := by decide +kernel
theorem dX12_readTrunk_86 : decode cX12_readTrunk 86 = .ok (.return_, 1) := by decide +kernel
theorem dX12_readTrunk_87 : decode cX12_readTrunk 87 = .ok (.aload_n 0, 1) := by decide +kernel
theorem dX12_readTrunk_88 : decode cX12_readTrunk 88 = .ok (.invokevirtual 257, 3) := by decide +kernel
theorem dX12_readTrunk_91 : decode cX12_readTrunk 91 = .ok (.istore_n 2, 1) := by decide +kernel
theorem dX12_readTrunk_92 : decode cX12_readTrunk 92 = .ok (.iload_n 2, 1) := by decide +kernel
theorem dX12_readTrunk_93 : decode cX12_readTrunk 93 = .ok (.ifCond .ge 7, 3) := by decide +kernel
theorem dX12_readTrunk_96 : decode cX12_readTrunk 96 = .ok (.iconst 0, 1) := by decide +kernel
theorem dX12_readTrunk_97 : decode cX12_readTrunk 97 = .ok (.goto 16, 3) := by decide +kernel
theorem dX12_readTrunk_100 : decode cX12_readTrunk 100 = .ok (.aload_n 0, 1) := by decide +kernel
theorem dX12_readTrunk_101 : decode cX12_readTrunk 101 = .ok (.getfield 42, 3) := by decide +kernel
theorem dX12_readTrunk_104 : decode cX12_readTrunk 104 = .ok (.iconst 4, 1) := by decide +kernel
theorem dX12_readTrunk_105 : decode cX12_readTrunk 105 = .ok (.aload_n 0, 1) := by decide +kernel
theorem dX12_readTrunk_106 : decode cX12_readTrunk 106 = .ok (.getfield 235, 3) := by decide +kernel
theorem dX12_readTrunk_109 : decode cX12_readTrunk 109 = .ok (.imul, 1) := by decide +kernel
theorem dX12_readTrunk_110 : decode cX12_readTrunk 110 = .ok (.iload_n 2, 1) := by decide +kernel
theorem dX12_readTrunk_111 : decode cX12_readTrunk 111 = .ok (.iadd, 1) := by decide +kernel
theorem dX12_readTrunk_112 : decode cX12_readTrunk 112 = .ok (.iaload, 1) := by decide +kernel
theorem dX12_readTrunk_113 : decode cX12_readTrunk 113 = .ok (.istore_n 3, 1) := by decide +kernel
theorem dX12_readTrunk_114 : decode cX12_readTrunk 114 = .ok (.bipush 6, 2) := by decide +kernel
theorem dX12_readTrunk_116 : decode cX12_readTrunk 116 = .ok (.aload_n 0, 1) := by decide +kernel
theorem dX12_readTrunk_117 : decode cX12_readTrunk 117 = .ok (.getfield 235, 3) := by decide +kernel
theorem dX12_readTrunk_120 : decode cX12_readTrunk 120 = .ok (.imul, 1) := by decide +kernel
theorem dX12_readTrunk_121 : decode cX12_readTrunk 121 = .ok (.istore 4, 2) := by decide +kernel
theorem dX12_readTrunk_123 : decode cX12_readTrunk 123 = .ok (.iload 4, 2) := by decide +kernel
theorem dX12_readTrunk_125 : decode cX12_readTrunk 125 = .ok (.iload_n 1, 1) := by decide +kernel
theorem dX12_readTrunk_126 : decode cX12_readTrunk 126 = .ok (.if_icmp .ge 34, 3) := by decide +kernel
theorem dX12_readTrunk_129 : decode cX12_readTrunk 129 = .ok (.iload_n 3, 1) := by decide +kernel
theorem dX12_readTrunk_130 : decode cX12_readTrunk 130 = .ok (.aload_n 0, 1) := by decide +kernel
theorem dX12_readTrunk_131 : decode cX12_readTrunk 131 = .ok (.getfield 48, 3) := by decide +kernel
theorem dX12_readTrunk_134 : decode cX12_readTrunk 134 = .ok (.iload 4, 2) := by decide +kernel
theorem dX12_readTrunk_136 : decode cX12_readTrunk 136 = .ok (.iaload, 1) := by decide +kernel
theorem dX12_readTrunk_137 : decode cX12_readTrunk 137 = .ok (.iload_n 2, 1) := by decide +kernel
theorem dX12_readTrunk_138 : decode cX12_readTrunk 138 = .ok (.if_icmp .ne 13, 3) := by decide +kernel
theorem dX12_readTrunk_141 : decode cX12_readTrunk 141 = .ok (.aload_n 0, 1) := by decide +kernel
theorem dX12_readTrunk_142 : decode cX12_readTrunk 142 = .ok (.getfield 45, 3) := by decide +kernel
theorem dX12_readTrunk_145 : decode cX12_readTrunk 145 = .ok (.iload 4, 2) := by decide +kernel
theorem dX12_readTrunk_147 : decode cX12_readTrunk 147 = .ok (.iaload, 1) := by decide +kernel
theorem dX12_readTrunk_148 : decode cX12_readTrunk 148 = .ok (.goto 4, 3) := by decide +kernel
theorem dX12_readTrunk_151 : decode cX12_readTrunk 151 = .ok (.iconst 0, 1) := by decide +kernel
theorem dX12_readTrunk_152 : decode cX12_readTrunk 152 = .ok (.isub, 1) := by decide +kernel
theorem dX12_readTrunk_153 : decode cX12_readTrunk 153 = .ok (.istore_n 3, 1) := by decide +kernel
theorem dX12_readTrunk_154 : decode cX12_readTrunk 154 = .ok (.iinc 4 1, 3) := by decide +kernel
theorem dX12_readTrunk_157 : decode cX12_readTrunk 157 = .ok (.goto (-34), 3) := by decide +kernel
theorem dX12_readTrunk_160 : decode cX12_readTrunk 160 = .ok (.aload_n 0, 1) := by decide +kernel
theorem dX12_readTrunk_161 : decode cX12_readTrunk 161 = .ok (.getfield 186, 3) := by decide +kernel
theorem dX12_readTrunk_164 : decode cX12_readTrunk 164 = .ok (.iconst 2, 1) := by decide +kernel
theorem dX12_readTrunk_165 : decode cX12_readTrunk 165 = .ok (.if_icmp .eq 10, 3) := by decide +kernel
theorem dX12_readTrunk_168 : decode cX12_readTrunk 168 = .ok (.aload_n 0, 1) := by decide +kernel
theorem dX12_readTrunk_169 : decode cX12_readTrunk 169 = .ok (.invokevirtual 221, 3) := by decide +kernel
theorem dX12_readTrunk_172 : decode cX12_readTrunk 172 = .ok (.goto 38, 3) := by decide +kernel
theorem dX12_readTrunk_175 : decode cX12_readTrunk 175 = .ok (.iload_n 2, 1) := by decide +kernel
theorem dX12_readTrunk_176 : decode cX12_readTrunk 176 = .ok (.ifCond .ge 15, 3) := by decide +kernel
theorem dX12_readTrunk_179 : decode cX12_readTrunk 179 = .ok (.aload_n 0, 1) := by decide +kernel
theorem dX12_readTrunk_180 : decode cX12_readTrunk 180 = .ok (.iconst 5, 1) := by decide +kernel
theorem dX12_readTrunk_181 : decode cX12_readTrunk 181 = .ok (.aload_n 0, 1) := by decide +kernel
theorem dX12_readTrunk_182 : decode cX12_readTrunk 182 = .ok (.getfield 179, 3) := by decide +kernel
theorem dX12_readTrunk_185 : decode cX12_readTrunk 185 = .ok (.invokevirtual 210, 3) := by decide +kernel
theorem dX12_readTrunk_188 : decode cX12_readTrunk 188 = .ok (.goto 22, 3) := by decide +kernel
theorem dX12_readTrunk_191 : decode cX12_readTrunk 191 = .ok (.iload_n 3, 1) := by decide +kernel
theorem dX12_readTrunk_192 : decode cX12_readTrunk 192 = .ok (.aload_n 0, 1) := by decide +kernel
theorem dX12_readTrunk_193 : decode cX12_readTrunk 193 = .ok (.getfield 45, 3) := by decide +kernel
theorem dX12_readTrunk_196 : decode cX12_readTrunk 196 = .ok (.iload_n 1, 1) := by decide +kernel
theorem dX12_readTrunk_197 : decode cX12_readTrunk 197 = .ok (.iaload, 1) := by decide +kernel
theorem dX12_readTrunk_198 : decode cX12_readTrunk 198 = .ok (.if_icmp .ge 12, 3) := by decide +kernel
theorem dX12_readTrunk_201 : decode cX12_readTrunk 201 = .ok (.aload_n 0, 1) := by decide +kernel
theorem dX12_readTrunk_202 : decode cX12_readTrunk 202 = .ok (.iconst 3, 1) := by decide +kernel
theorem dX12_readTrunk_203 : decode cX12_readTrunk 203 = .ok (.aload_n 0, 1) := by decide +kernel
theorem dX12_readTrunk_204 : decode cX12_readTrunk 204 = .ok (.getfield 179, 3) := by decide +kernel
theorem dX12_readTrunk_207 : decode cX12_readTrunk 207 = .ok (.invokevirtual 210, 3) := by decide +kernel
theorem dX12_readTrunk_210 : decode cX12_readTrunk 210 = .ok (.aload_n 0, 1) := by decide +kernel
theorem dX12_readTrunk_211 : decode cX12_readTrunk 211 = .ok (.getfield 48, 3) := by decide +kernel
theorem dX12_readTrunk_214 : decode cX12_readTrunk 214 = .ok (.iload_n 1, 1) := by decide +kernel
theorem dX12_readTrunk_215 : decode cX12_readTrunk 215 = .ok (.iload_n 2, 1) := by decide +kernel
theorem dX12_readTrunk_216 : decode cX12_readTrunk 216 = .ok (.iastore, 1) := by decide +kernel
theorem dX12_readTrunk_217 : decode cX12_readTrunk 217 = .ok (.aload_n 0, 1) := by decide +kernel
theorem dX12_readTrunk_218 : decode cX12_readTrunk 218 = .ok (.aload_n 0, 1) := by decide +kernel
theorem dX12_readTrunk_219 : decode cX12_readTrunk 219 = .ok (.getfield 186, 3) := by decide +kernel
theorem dX12_readTrunk_222 : decode cX12_readTrunk 222 = .ok (.iconst 2, 1) := by decide +kernel
theorem dX12_readTrunk_223 : decode cX12_readTrunk 223 = .ok (.if_icmp .ne 7, 3) := by decide +kernel
theorem dX12_readTrunk_226 : decode cX12_readTrunk 226 = .ok (.iconst 1, 1) := by decide +kernel
theorem dX12_readTrunk_227 : decode cX12_readTrunk 227 = .ok (.goto 4, 3) := by decide +kernel
theorem dX12_readTrunk_230 : decode cX12_readTrunk 230 = .ok (.iconst 0, 1) := by decide +kernel
theorem dX12_readTrunk_231 : decode cX12_readTrunk 231 = .ok (.invokevirtual 227, 3) := by decide +kernel
theorem dX12_readTrunk_234 : decode cX12_readTrunk 234 = .ok (.aload_n 0, 1) := by decide +kernel
theorem dX12_readTrunk_235 : decode cX12_readTrunk 235 = .ok (.getfield 51, 3) := by decide +kernel
theorem dX12_readTrunk_238 : decode cX12_readTrunk 238 = .ok (.iload_n 1, 1) := by decide +kernel
theorem dX12_readTrunk_239 : decode cX12_readTrunk 239 = .ok (.aload_n 0, 1) := by decide +kernel
theorem dX12_readTrunk_240 : decode cX12_readTrunk 240 = .ok (.ldc2_w 150, 3) := by decide +kernel
theorem dX12_readTrunk_243 : decode cX12_readTrunk 243 = .ok (.iconst 0, 1) := by decide +kernel
theorem dX12_readTrunk_244 : decode cX12_readTrunk 244 = .ok (.bipush 63, 2) := by decide +kernel
theorem dX12_readTrunk_246 : decode cX12_readTrunk 246 = .ok (.invokevirtual 265, 3) := by decide +kernel
theorem dX12_readTrunk_249 : decode cX12_readTrunk 249 = .ok (.iastore, 1) := by decide +kernel
theorem dX12_readTrunk_250 : decode cX12_readTrunk 250 = .ok (.aload_n 0, 1) := by decide +kernel
theorem dX12_readTrunk_251 : decode cX12_readTrunk 251 = .ok (.getfield 54, 3) := by decide +kernel
theorem dX12_readTrunk_254 : decode cX12_readTrunk 254 = .ok (.iload_n 1, 1) := by decide +kernel
theorem dX12_readTrunk_255 : decode cX12_readTrunk 255 = .ok (.iconst 0, 1) := by decide +kernel
theorem dX12_readTrunk_256 : decode cX12_readTrunk 256 = .ok (.iastore, 1) := by decide +kernel
theorem dX12_readTrunk_257 : decode cX12_readTrunk 257 = .ok (.aload_n 0, 1) := by decide +kernel
theorem dX12_readTrunk_258 : decode cX12_readTrunk 258 = .ok (.invokevirtual 214, 3) := by decide +kernel
theorem dX12_readTrunk_261 : decode cX12_readTrunk 261 = .ok (.ifCond .eq 30, 3) := by decide +kernel
theorem dX12_readTrunk_264 : decode cX12_readTrunk 264 = .ok (.aload_n 0, 1) := by decide +kernel
theorem dX12_readTrunk_265 : decode cX12_readTrunk 265 = .ok (.ldc2_w 152, 3) := by decide +kernel
theorem dX12_readTrunk_268 : decode cX12_readTrunk 268 = .ok (.invokevirtual 224, 3) := by decide +kernel
theorem dX12_readTrunk_271 : decode cX12_readTrunk 271 = .ok (.ifCond .eq 20, 3) := by decide +kernel
theorem dX12_readTrunk_274 : decode cX12_readTrunk 274 = .ok (.aload_n 0, 1) := by decide +kernel
theorem dX12_readTrunk_275 : decode cX12_readTrunk 275 = .ok (.invokevirtual 218, 3) := by decide +kernel
theorem dX12_readTrunk_278 : decode cX12_readTrunk 278 = .ok (.aload_n 0, 1) := by decide +kernel
theorem dX12_readTrunk_279 : decode cX12_readTrunk 279 = .ok (.getfield 54, 3) := by decide +kernel
theorem dX12_readTrunk_282 : decode cX12_readTrunk 282 = .ok (.iload_n 1, 1) := by decide +kernel
theorem dX12_readTrunk_283 : decode cX12_readTrunk 283 = .ok (.aload_n 0, 1) := by decide +kernel
theorem dX12_readTrunk_284 : decode cX12_readTrunk 284 = .ok (.iconst 0, 1) := by decide +kernel
theorem dX12_readTrunk_285 : decode cX12_readTrunk 285 = .ok (.bipush 9, 2) := by decide +kernel
theorem dX12_readTrunk_287 : decode cX12_readTrunk 287 = .ok (.invokevirtual 231, 3) := by decide +kernel
theorem dX12_readTrunk_290 : decode cX12_readTrunk 290 = .ok (.iastore, 1) := by decide +kernel
theorem dX12_readTrunk_291 : decode cX12_readTrunk 291 = .ok (.aload_n 0, 1) := by decide +kernel
theorem dX12_readTrunk_292 : decode cX12_readTrunk 292 = .ok (.getfield 24, 3) := by decide +kernel
theorem dX12_readTrunk_295 : decode cX12_readTrunk 295 = .ok (.aload_n 0, 1) := by decide +kernel
theorem dX12_readTrunk_296 : decode cX12_readTrunk 296 = .ok (.getfield 235, 3) := by decide +kernel
theorem dX12_readTrunk_299 : decode cX12_readTrunk 299 = .ok (.dup2, 1) := by decide +kernel
theorem dX12_readTrunk_300 : decode cX12_readTrunk 300 = .ok (.iaload, 1) := by decide +kernel
theorem dX12_readTrunk_301 : decode cX12_readTrunk 301 = .ok (.iconst 1, 1) := by decide +kernel
theorem dX12_readTrunk_302 : decode cX12_readTrunk 302 = .ok (.iadd, 1) := by decide +kernel
theorem dX12_readTrunk_303 : decode cX12_readTrunk 303 = .ok (.iastore, 1) := by decide +kernel
theorem dX12_readTrunk_304 : decode cX12_readTrunk 304 = .ok (.return_, 1) := by decide +kernel
theorem dX12_readRule_0 : decode cX12_readRule 0 = .ok (.aload_n 0, 1) := by decide +kernel
theorem dX12_readRule_1 : decode cX12_readRule 1 = .ok (.getfield 39, 3) := by decide +kernel
theorem dX12_readRule_4 : decode cX12_readRule 4 = .ok (.aload_n 0, 1) := by decide +kernel
theorem dX12_readRule_5 : decode cX12_readRule 5 = .ok (.getfield 235, 3) := by decide +kernel
theorem dX12_readRule_8 : decode cX12_readRule 8 = .ok (.dup2, 1) := by decide +kernel
theorem dX12_readRule_9 : decode cX12_readRule 9 = .ok (.iaload, 1) := by decide +kernel
theorem dX12_readRule_10 : decode cX12_readRule 10 = .ok (.iconst 1, 1) := by decide +kernel
theorem dX12_readRule_11 : decode cX12_readRule 11 = .ok (.ior, 1) := by decide +kernel
theorem dX12_readRule_12 : decode cX12_readRule 12 = .ok (.iastore, 1) := by decide +kernel
theorem dX12_readRule_13 : decode cX12_readRule 13 = .ok (.aload_n 0, 1) := by decide +kernel
theorem dX12_readRule_14 : decode cX12_readRule 14 = .ok (.iconst 0, 1) := by decide +kernel
theorem dX12_readRule_15 : decode cX12_readRule 15 = .ok (.putfield 286, 3) := by decide +kernel
theorem dX12_readRule_18 : decode cX12_readRule 18 = .ok (.aload_n 0, 1) := by decide +kernel
theorem dX12_readRule_19 : decode cX12_readRule 19 = .ok (.getfield 57, 3) := by decide +kernel
theorem dX12_readRule_22 : decode cX12_readRule 22 = .ok (.aload_n 0, 1) := by decide +kernel
theorem dX12_readRule_23 : decode cX12_readRule 23 = .ok (.getfield 235, 3) := by decide +kernel
theorem dX12_readRule_26 : decode cX12_readRule 26 = .ok (.aload_n 0, 1) := by decide +kernel
theorem dX12_readRule_27 : decode cX12_readRule 27 = .ok (.getfield 238, 3) := by decide +kernel
theorem dX12_readRule_30 : decode cX12_readRule 30 = .ok (.iastore, 1) := by decide +kernel
theorem dX12_readRule_31 : decode cX12_readRule 31 = .ok (.aload_n 0, 1) := by decide +kernel
theorem dX12_readRule_32 : decode cX12_readRule 32 = .ok (.invokevirtual 289, 3) := by decide +kernel
theorem dX12_readRule_35 : decode cX12_readRule 35 = .ok (.aload_n 0, 1) := by decide +kernel
theorem dX12_readRule_36 : decode cX12_readRule 36 = .ok (.getfield 60, 3) := by decide +kernel
theorem dX12_readRule_39 : decode cX12_readRule 39 = .ok (.aload_n 0, 1) := by decide +kernel
theorem dX12_readRule_40 : decode cX12_readRule 40 = .ok (.getfield 235, 3) := by decide +kernel
theorem dX12_readRule_43 : decode cX12_readRule 43 = .ok (.aload_n 0, 1) := by decide +kernel
theorem dX12_readRule_44 : decode cX12_readRule 44 = .ok (.getfield 238, 3) := by decide +kernel
theorem dX12_readRule_47 : decode cX12_readRule 47 = .ok (.iastore, 1) := by decide +kernel
theorem dX12_readRule_48 : decode cX12_readRule 48 = .ok (.return_, 1) := by decide +kernel
theorem dX12_emit_0 : decode cX12_emit 0 = .ok (.aload_n 0, 1) := by decide +kernel
theorem dX12_emit_1 : decode cX12_emit 1 = .ok (.getfield 70, 3) := by decide +kernel
theorem dX12_emit_4 : decode cX12_emit 4 = .ok (.aload_n 0, 1) := by decide +kernel
theorem dX12_emit_5 : decode cX12_emit 5 = .ok (.getfield 238, 3) := by decide +kernel
theorem dX12_emit_8 : decode cX12_emit 8 = .ok (.iload_n 1, 1) := by decide +kernel
theorem dX12_emit_9 : decode cX12_emit 9 = .ok (.iastore, 1) := by decide +kernel
theorem dX12_emit_10 : decode cX12_emit 10 = .ok (.aload_n 0, 1) := by decide +kernel
theorem dX12_emit_11 : decode cX12_emit 11 = .ok (.getfield 73, 3) := by decide +kernel
theorem dX12_emit_14 : decode cX12_emit 14 = .ok (.aload_n 0, 1) := by decide +kernel
theorem dX12_emit_15 : decode cX12_emit 15 = .ok (.getfield 238, 3) := by decide +kernel
theorem dX12_emit_18 : decode cX12_emit 18 = .ok (.iload_n 2, 1) := by decide +kernel
theorem dX12_emit_19 : decode cX12_emit 19 = .ok (.iastore, 1) := by decide +kernel
theorem dX12_emit_20 : decode cX12_emit 20 = .ok (.aload_n 0, 1) := by decide +kernel
theorem dX12_emit_21 : decode cX12_emit 21 = .ok (.dup, 1) := by decide +kernel
theorem dX12_emit_22 : decode cX12_emit 22 = .ok (.getfield 238, 3) := by decide +kernel
theorem dX12_emit_25 : decode cX12_emit 25 = .ok (.iconst 1, 1) := by decide +kernel
theorem dX12_emit_26 : decode cX12_emit 26 = .ok (.iadd, 1) := by decide +kernel
theorem dX12_emit_27 : decode cX12_emit 27 = .ok (.putfield 238, 3) := by decide +kernel
theorem dX12_emit_30 : decode cX12_emit 30 = .ok (.return_, 1) := by decide +kernel
theorem dX12_pushE_0 : decode cX12_pushE 0 = .ok (.aload_n 0, 1) := by decide +kernel
theorem dX12_pushE_1 : decode cX12_pushE 1 = .ok (.getfield 76, 3) := by decide +kernel
theorem dX12_pushE_4 : decode cX12_pushE 4 = .ok (.aload_n 0, 1) := by decide +kernel
theorem dX12_pushE_5 : decode cX12_pushE 5 = .ok (.getfield 292, 3) := by decide +kernel
theorem dX12_pushE_8 : decode cX12_pushE 8 = .ok (.iload_n 1, 1) := by decide +kernel
theorem dX12_pushE_9 : decode cX12_pushE 9 = .ok (.iastore, 1) := by decide +kernel
theorem dX12_pushE_10 : decode cX12_pushE 10 = .ok (.aload_n 0, 1) := by decide +kernel
theorem dX12_pushE_11 : decode cX12_pushE 11 = .ok (.getfield 79, 3) := by decide +kernel
theorem dX12_pushE_14 : decode cX12_pushE 14 = .ok (.aload_n 0, 1) := by decide +kernel
theorem dX12_pushE_15 : decode cX12_pushE 15 = .ok (.getfield 292, 3) := by decide +kernel
theorem dX12_pushE_18 : decode cX12_pushE 18 = .ok (.iload_n 2, 1) := by decide +kernel
theorem dX12_pushE_19 : decode cX12_pushE 19 = .ok (.iastore, 1) := by decide +kernel
theorem dX12_pushE_20 : decode cX12_pushE 20 = .ok (.aload_n 0, 1) := by decide +kernel
theorem dX12_pushE_21 : decode cX12_pushE 21 = .ok (.dup, 1) := by decide +kernel
theorem dX12_pushE_22 : decode cX12_pushE 22 = .ok (.getfield 292, 3) := by decide +kernel
theorem dX12_pushE_25 : decode cX12_pushE 25 = .ok (.iconst 1, 1) := by decide +kernel
theorem dX12_pushE_26 : decode cX12_pushE 26 = .ok (.iadd, 1) := by decide +kernel
theorem dX12_pushE_27 : decode cX12_pushE 27 = .ok (.putfield 292, 3) := by decide +kernel
theorem dX12_pushE_30 : decode cX12_pushE 30 = .ok (.return_, 1) := by decide +kernel
theorem dX12_e_0 : decode cX12_e 0 = .ok (.aload_n 0, 1) := by decide +kernel
theorem dX12_e_1 : decode cX12_e 1 = .ok (.iconst 0, 1) := by decide +kernel
theorem dX12_e_2 : decode cX12_e 2 = .ok (.putfield 292, 3) := by decide +kernel
theorem dX12_e_5 : decode cX12_e 5 = .ok (.aload_n 0, 1) := by decide +kernel
theorem dX12_e_6 : decode cX12_e 6 = .ok (.iconst 0, 1) := by decide +kernel
theorem dX12_e_7 : decode cX12_e 7 = .ok (.putfield 295, 3) := by decide +kernel
theorem dX12_e_10 : decode cX12_e 10 = .ok (.aload_n 0, 1) := by decide +kernel
theorem dX12_e_11 : decode cX12_e 11 = .ok (.bipush 8, 2) := by decide +kernel
theorem dX12_e_13 : decode cX12_e 13 = .ok (.iconst 0, 1) := by decide +kernel
theorem dX12_e_14 : decode cX12_e 14 = .ok (.invokevirtual 298, 3) := by decide +kernel
theorem dX12_e_17 : decode cX12_e 17 = .ok (.iconst 1, 1) := by decide +kernel
theorem dX12_e_18 : decode cX12_e 18 = .ok (.istore_n 1, 1) := by decide +kernel
theorem dX12_e_19 : decode cX12_e 19 = .ok (.aload_n 0, 1) := by decide +kernel
theorem dX12_e_20 : decode cX12_e 20 = .ok (.invokevirtual 214, 3) := by decide +kernel
theorem dX12_e_23 : decode cX12_e 23 = .ok (.ifCond .eq 29, 3) := by decide +kernel
theorem dX12_e_26 : decode cX12_e 26 = .ok (.aload_n 0, 1) := by decide +kernel
theorem dX12_e_27 : decode cX12_e 27 = .ok (.getfield 292, 3) := by decide +kernel
theorem dX12_e_30 : decode cX12_e 30 = .ok (.ifCond .le 22, 3) := by decide +kernel
theorem dX12_e_33 : decode cX12_e 33 = .ok (.iload_n 1, 1) := by decide +kernel
theorem dX12_e_34 : decode cX12_e 34 = .ok (.ifCond .eq 10, 3) := by decide +kernel
theorem dX12_e_37 : decode cX12_e 37 = .ok (.aload_n 0, 1) := by decide +kernel
theorem dX12_e_38 : decode cX12_e 38 = .ok (.invokevirtual 301, 3) := by decide +kernel
theorem dX12_e_41 : decode cX12_e 41 = .ok (.goto 7, 3) := by decide +kernel
theorem dX12_e_44 : decode cX12_e 44 = .ok (.aload_n 0, 1) := by decide +kernel
theorem dX12_e_45 : decode cX12_e 45 = .ok (.invokevirtual 304, 3) := by decide +kernel
theorem dX12_e_48 : decode cX12_e 48 = .ok (.istore_n 1, 1) := by decide +kernel
theorem dX12_e_49 : decode cX12_e 49 = .ok (.goto (-30), 3) := by decide +kernel
theorem dX12_e_52 : decode cX12_e 52 = .ok (.return_, 1) := by decide +kernel
theorem dX12_wordHere_0 : decode cX12_wordHere 0 = .ok (.aload_n 0, 1) := by decide +kernel
theorem dX12_wordHere_1 : decode cX12_wordHere 1 = .ok (.ldc2_w 146, 3) := by decide +kernel
theorem dX12_wordHere_4 : decode cX12_wordHere 4 = .ok (.invokevirtual 224, 3) := by decide +kernel
theorem dX12_wordHere_7 : decode cX12_wordHere 7 = .ok (.ifCond .eq 6, 3) := by decide +kernel
theorem dX12_wordHere_10 : decode cX12_wordHere 10 = .ok (.bipush 98, 2) := by decide +kernel
theorem dX12_wordHere_12 : decode cX12_wordHere 12 = .ok (.ireturn, 1) := by decide +kernel
theorem dX12_wordHere_13 : decode cX12_wordHere 13 = .ok (.aload_n 0, 1) := by decide +kernel
theorem dX12_wordHere_14 : decode cX12_wordHere 14 = .ok (.ldc2_w 162, 3) := by decide +kernel
theorem dX12_wordHere_17 : decode cX12_wordHere 17 = .ok (.invokevirtual 224, 3) := by decide +kernel
theorem dX12_wordHere_20 : decode cX12_wordHere 20 = .ok (.ifCond .eq 6, 3) := by decide +kernel
theorem dX12_wordHere_23 : decode cX12_wordHere 23 = .ok (.bipush 97, 2) := by decide +kernel
theorem dX12_wordHere_25 : decode cX12_wordHere 25 = .ok (.ireturn, 1) := by decide +kernel
theorem dX12_wordHere_26 : decode cX12_wordHere 26 = .ok (.aload_n 0, 1) := by decide +kernel
theorem dX12_wordHere_27 : decode cX12_wordHere 27 = .ok (.ldc2_w 164, 3) := by decide +kernel
theorem dX12_wordHere_30 : decode cX12_wordHere 30 = .ok (.invokevirtual 224, 3) := by decide +kernel
theorem dX12_wordHere_33 : decode cX12_wordHere 33 = .ok (.ifCond .eq 6, 3) := by decide +kernel
theorem dX12_wordHere_36 : decode cX12_wordHere 36 = .ok (.bipush 108, 2) := by decide +kernel
theorem dX12_wordHere_38 : decode cX12_wordHere 38 = .ok (.ireturn, 1) := by decide +kernel
theorem dX12_wordHere_39 : decode cX12_wordHere 39 = .ok (.aload_n 0, 1) := by decide +kernel
theorem dX12_wordHere_40 : decode cX12_wordHere 40 = .ok (.ldc2_w 166, 3) := by decide +kernel
theorem dX12_wordHere_43 : decode cX12_wordHere 43 = .ok (.invokevirtual 224, 3) := by decide +kernel
theorem dX12_wordHere_46 : decode cX12_wordHere 46 = .ok (.ifCond .eq 6, 3) := by decide +kernel
theorem dX12_wordHere_49 : decode cX12_wordHere 49 = .ok (.bipush 109, 2) := by decide +kernel
theorem dX12_wordHere_51 : decode cX12_wordHere 51 = .ok (.ireturn, 1) := by decide +kernel
theorem dX12_wordHere_52 : decode cX12_wordHere 52 = .ok (.aload_n 0, 1) := by decide +kernel
theorem dX12_wordHere_53 : decode cX12_wordHere 53 = .ok (.ldc2_w 168, 3) := by decide +kernel
theorem dX12_wordHere_56 : decode cX12_wordHere 56 = .ok (.invokevirtual 224, 3) := by decide +kernel
theorem dX12_wordHere_59 : decode cX12_wordHere 59 = .ok (.ifCond .eq 8, 3) := by decide +kernel
theorem dX12_wordHere_62 : decode cX12_wordHere 62 = .ok (.bipush 121, 2) := by decide +kernel
theorem dX12_wordHere_64 : decode cX12_wordHere 64 = .ok (.goto 4, 3) := by decide +kernel
theorem dX12_wordHere_67 : decode cX12_wordHere 67 = .ok (.iconst 0, 1) := by decide +kernel
theorem dX12_wordHere_68 : decode cX12_wordHere 68 = .ok (.ireturn, 1) := by decide +kernel
theorem dX12_unit_0 : decode cX12_unit 0 = .ok (.aload_n 0, 1) := by decide +kernel
theorem dX12_unit_1 : decode cX12_unit 1 = .ok (.getfield 76, 3) := by decide +kernel
theorem dX12_unit_4 : decode cX12_unit 4 = .ok (.aload_n 0, 1) := by decide +kernel
theorem dX12_unit_5 : decode cX12_unit 5 = .ok (.getfield 292, 3) := by decide +kernel
theorem dX12_unit_8 : decode cX12_unit 8 = .ok (.iconst 1, 1) := by decide +kernel
theorem dX12_unit_9 : decode cX12_unit 9 = .ok (.isub, 1) := by decide +kernel
theorem dX12_unit_10 : decode cX12_unit 10 = .ok (.iaload, 1) := by decide +kernel
theorem dX12_unit_11 : decode cX12_unit 11 = .ok (.iconst 3, 1) := by decide +kernel
theorem dX12_unit_12 : decode cX12_unit 12 = .ok (.if_icmp .le 19, 3) := by decide +kernel
theorem dX12_unit_15 : decode cX12_unit 15 = .ok (.aload_n 0, 1) := by decide +kernel
theorem dX12_unit_16 : decode cX12_unit 16 = .ok (.getfield 76, 3) := by decide +kernel
theorem dX12_unit_19 : decode cX12_unit 19 = .ok (.aload_n 0, 1) := by decide +kernel
theorem dX12_unit_20 : decode cX12_unit 20 = .ok (.getfield 292, 3) := by decide +kernel
theorem dX12_unit_23 : decode cX12_unit 23 = .ok (.iconst 1, 1) := by decide +kernel
theorem dX12_unit_24 : decode cX12_unit 24 = .ok (.isub, 1) := by decide +kernel
theorem dX12_unit_25 : decode cX12_unit 25 = .ok (.iaload, 1) := by decide +kernel
theorem dX12_unit_26 : decode cX12_unit 26 = .ok (.bipush 7, 2) := by decide +kernel
theorem dX12_unit_28 : decode cX12_unit 28 = .ok (.if_icmp .lt 7, 3) := by decide +kernel
theorem dX12_unit_31 : decode cX12_unit 31 = .ok (.iconst 1, 1) := by decide +kernel
theorem dX12_unit_32 : decode cX12_unit 32 = .ok (.goto 4, 3) := by decide +kernel
theorem dX12_unit_35 : decode cX12_unit 35 = .ok (.iconst 0, 1) := by decide +kernel
theorem dX12_unit_36 : decode cX12_unit 36 = .ok (.istore_n 1, 1) := by decide +kernel
theorem dX12_unit_37 : decode cX12_unit 37 = .ok (.iload_n 1, 1) := by decide +kernel
theorem dX12_unit_38 : decode cX12_unit 38 = .ok (.ifCond .eq 17, 3) := by decide +kernel
theorem dX12_unit_41 : decode cX12_unit 41 = .ok (.aload_n 0, 1) := by decide +kernel
theorem dX12_unit_42 : decode cX12_unit 42 = .ok (.ldc2_w 174, 3) := by decide +kernel
theorem dX12_unit_45 : decode cX12_unit 45 = .ok (.invokevirtual 224, 3) := by decide +kernel
theorem dX12_unit_48 : decode cX12_unit 48 = .ok (.ifCond .eq 7, 3) := by decide +kernel
theorem dX12_unit_51 : decode cX12_unit 51 = .ok (.iconst 1, 1) := by decide +kernel
theorem dX12_unit_52 : decode cX12_unit 52 = .ok (.goto 4, 3) := by decide +kernel
theorem dX12_unit_55 : decode cX12_unit 55 = .ok (.iconst 0, 1) := by decide +kernel
theorem dX12_unit_56 : decode cX12_unit 56 = .ok (.istore_n 2, 1) := by decide +kernel
theorem dX12_unit_57 : decode cX12_unit 57 = .ok (.aload_n 0, 1) := by decide +kernel
theorem dX12_unit_58 : decode cX12_unit 58 = .ok (.bipush 40, 2) := by decide +kernel
theorem dX12_unit_60 : decode cX12_unit 60 = .ok (.invokevirtual 279, 3) := by decide +kernel
theorem dX12_unit_63 : decode cX12_unit 63 = .ok (.istore_n 3, 1) := by decide +kernel
theorem dX12_unit_64 : decode cX12_unit 64 = .ok (.aload_n 0, 1) := by decide +kernel
theorem dX12_unit_65 : decode cX12_unit 65 = .ok (.invokevirtual 307, 3) := by decide +kernel
theorem dX12_unit_68 : decode cX12_unit 68 = .ok (.istore 4, 2) := by decide +kernel
theorem dX12_unit_70 : decode cX12_unit 70 = .ok (.aload_n 0, 1) := by decide +kernel
theorem dX12_unit_71 : decode cX12_unit 71 = .ok (.getfield 27, 3) := by decide +kernel
theorem dX12_unit_74 : decode cX12_unit 74 = .ok (.aload_n 0, 1) := by decide +kernel
theorem dX12_unit_75 : decode cX12_unit 75 = .ok (.getfield 235, 3) := by decide +kernel
theorem dX12_unit_78 : decode cX12_unit 78 = .ok (.iaload, 1) := by decide +kernel
theorem dX12_unit_79 : decode cX12_unit 79 = .ok (.bipush 60, 2) := by decide +kernel
theorem dX12_unit_81 : decode cX12_unit 81 = .ok (.if_icmp .eq 12, 3) := by decide +kernel
theorem dX12_unit_84 : decode cX12_unit 84 = .ok (.aload_n 0, 1) := by decide +kernel
theorem dX12_unit_85 : decode cX12_unit 85 = .ok (.getfield 286, 3) := by decide +kernel
theorem dX12_unit_88 : decode cX12_unit 88 = .ok (.bipush 30, 2) := by decide +kernel
theorem dX12_unit_90 : decode cX12_unit 90 = .ok (.if_icmp .ne 7, 3) := by decide +kernel
theorem dX12_unit_93 : decode cX12_unit 93 = .ok (.iconst 1, 1) := by decide +kernel
theorem dX12_unit_94 : decode cX12_unit 94 = .ok (.goto 4, 3) := by decide +kernel
theorem dX12_unit_97 : decode cX12_unit 97 = .ok (.iconst 0, 1) := by decide +kernel
theorem dX12_unit_98 : decode cX12_unit 98 = .ok (.istore 5, 2) := by decide +kernel
theorem dX12_unit_100 : decode cX12_unit 100 = .ok (.iload_n 2, 1) := by decide +kernel
theorem dX12_unit_101 : decode cX12_unit 101 = .ok (.ifCond .ne 25, 3) := by decide +kernel
theorem dX12_unit_104 : decode cX12_unit 104 = .ok (.iload 4, 2) := by decide +kernel
theorem dX12_unit_106 : decode cX12_unit 106 = .ok (.ifCond .ne 15, 3) := by decide +kernel
theorem dX12_unit_109 : decode cX12_unit 109 = .ok (.aload_n 0, 1) := by decide +kernel
theorem dX12_unit_110 : decode cX12_unit 110 = .ok (.getfield 186, 3) := by decide +kernel
theorem dX12_unit_113 : decode cX12_unit 113 = .ok (.iconst 4, 1) := by decide +kernel
theorem dX12_unit_114 : decode cX12_unit 114 = .ok (.if_icmp .eq 7, 3) := by decide +kernel
theorem dX12_unit_117 : decode cX12_unit 117 = .ok (.iload_n 3, 1) := by decide +kernel
theorem dX12_unit_118 : decode cX12_unit 118 = .ok (.ifCond .eq 25, 3) := by decide +kernel
theorem dX12_unit_121 : decode cX12_unit 121 = .ok (.iload 5, 2) := by decide +kernel
theorem dX12_unit_123 : decode cX12_unit 123 = .ok (.ifCond .ne 20, 3) := by decide +kernel
theorem dX12_unit_126 : decode cX12_unit 126 = .ok (.iload_n 2, 1) := by decide +kernel
theorem dX12_unit_127 : decode cX12_unit 127 = .ok (.ifCond .ne 7, 3) := by decide +kernel
theorem dX12_unit_130 : decode cX12_unit 130 = .ok (.iload_n 3, 1) := by decide +kernel
theorem dX12_unit_131 : decode cX12_unit 131 = .ok (.ifCond .eq 16, 3) := by decide +kernel
theorem dX12_unit_134 : decode cX12_unit 134 = .ok (.aload_n 0, 1) := by decide +kernel
theorem dX12_unit_135 : decode cX12_unit 135 = .ok (.getfield 295, 3) := by decide +kernel
theorem dX12_unit_138 : decode cX12_unit 138 = .ok (.bipush 7, 2) := by decide +kernel
theorem dX12_unit_140 : decode cX12_unit 140 = .ok (.if_icmp .ne 7, 3) := by decide +kernel
theorem dX12_unit_143 : decode cX12_unit 143 = .ok (.aload_n 0, 1) := by decide +kernel
theorem dX12_unit_144 : decode cX12_unit 144 = .ok (.invokevirtual 221, 3) := by decide +kernel
theorem dX12_unit_147 : decode cX12_unit 147 = .ok (.aload_n 0, 1) := by decide +kernel
theorem dX12_unit_148 : decode cX12_unit 148 = .ok (.invokevirtual 214, 3) := by decide +kernel
theorem dX12_unit_151 : decode cX12_unit 151 = .ok (.ifCond .ne 5, 3) := by decide +kernel
theorem dX12_unit_154 : decode cX12_unit 154 = .ok (.iconst 1, 1) := by decide +kernel
theorem dX12_unit_155 : decode cX12_unit 155 = .ok (.ireturn, 1) := by decide +kernel
theorem dX12_unit_156 : decode cX12_unit 156 = .ok (.aload_n 0, 1) := by decide +kernel
theorem dX12_unit_157 : decode cX12_unit 157 = .ok (.getfield 27, 3) := by decide +kernel
theorem dX12_unit_160 : decode cX12_unit 160 = .ok (.aload_n 0, 1) := by decide +kernel
theorem dX12_unit_161 : decode cX12_unit 161 = .ok (.getfield 235, 3) := by decide +kernel
theorem dX12_unit_164 : decode cX12_unit 164 = .ok (.dup2, 1) := by decide +kernel
theorem dX12_unit_165 : decode cX12_unit 165 = .ok (.iaload, 1) := by decide +kernel
theorem dX12_unit_166 : decode cX12_unit 166 = .ok (.iload_n 2, 1) := by decide +kernel
theorem dX12_unit_167 : decode cX12_unit 167 = .ok (.ifCond .eq 7, 3) := by decide +kernel
theorem dX12_unit_170 : decode cX12_unit 170 = .ok (.iconst 0, 1) := by decide +kernel
theorem dX12_unit_171 : decode cX12_unit 171 = .ok (.goto 4, 3) := by decide +kernel
theorem dX12_unit_174 : decode cX12_unit 174 = .ok (.iconst 1, 1) := by decide +kernel
theorem dX12_unit_175 : decode cX12_unit 175 = .ok (.iadd, 1) := by decide +kernel
theorem dX12_unit_176 : decode cX12_unit 176 = .ok (.iastore, 1) := by decide +kernel
theorem dX12_unit_177 : decode cX12_unit 177 = .ok (.aload_n 0, 1) := by decide +kernel
theorem dX12_unit_178 : decode cX12_unit 178 = .ok (.dup, 1) := by decide +kernel
theorem dX12_unit_179 : decode cX12_unit 179 = .ok (.getfield 286, 3) := by decide +kernel
theorem dX12_unit_182 : decode cX12_unit 182 = .ok (.iload_n 2, 1) := by decide +kernel
theorem dX12_unit_183 : decode cX12_unit 183 = .ok (.ifCond .eq 7, 3) := by decide +kernel
theorem dX12_unit_186 : decode cX12_unit 186 = .ok (.iconst 0, 1) := by decide +kernel
theorem dX12_unit_187 : decode cX12_unit 187 = .ok (.goto 4, 3) := by decide +kernel
theorem dX12_unit_190 : decode cX12_unit 190 = .ok (.iconst 1, 1) := by decide +kernel
theorem dX12_unit_191 : decode cX12_unit 191 = .ok (.iadd, 1) := by decide +kernel
theorem dX12_unit_192 : decode cX12_unit 192 = .ok (.putfield 286, 3) := by decide +kernel
theorem dX12_unit_195 : decode cX12_unit 195 = .ok (.iload 4, 2) := by decide +kernel
theorem dX12_unit_197 : decode cX12_unit 197 = .ok (.ifCond .ne 10, 3) := by decide +kernel
theorem dX12_unit_200 : decode cX12_unit 200 = .ok (.aload_n 0, 1) := by decide +kernel
theorem dX12_unit_201 : decode cX12_unit 201 = .ok (.getfield 204, 3) := by decide +kernel
theorem dX12_unit_204 : decode cX12_unit 204 = .ok (.goto 4, 3) := by decide +kernel
theorem dX12_unit_207 : decode cX12_unit 207 = .ok (.iconst 0, 1) := by decide +kernel
theorem dX12_unit_208 : decode cX12_unit 208 = .ok (.istore 6, 2) := by decide +kernel
theorem dX12_unit_210 : decode cX12_unit 210 = .ok (.aload_n 0, 1) := by decide +kernel
theorem dX12_unit_211 : decode cX12_unit 211 = .ok (.invokevirtual 218, 3) := by decide +kernel
theorem dX12_unit_214 : decode cX12_unit 214 = .ok (.iload_n 2, 1) := by decide +kernel
theorem dX12_unit_215 : decode cX12_unit 215 = .ok (.ifCond .ne 7, 3) := by decide +kernel
theorem dX12_unit_218 : decode cX12_unit 218 = .ok (.iload_n 3, 1) := by decide +kernel
theorem dX12_unit_219 : decode cX12_unit 219 = .ok (.ifCond .eq 31, 3) := by decide +kernel
theorem dX12_unit_222 : decode cX12_unit 222 = .ok (.aload_n 0, 1) := by decide +kernel
theorem dX12_unit_223 : decode cX12_unit 223 = .ok (.iload_n 2, 1) := by decide +kernel
theorem dX12_unit_224 : decode cX12_unit 224 = .ok (.ifCond .eq 7, 3) := by decide +kernel
theorem dX12_unit_227 : decode cX12_unit 227 = .ok (.iconst 3, 1) := by decide +kernel
theorem dX12_unit_228 : decode cX12_unit 228 = .ok (.goto 5, 3) := by decide +kernel
theorem dX12_unit_231 : decode cX12_unit 231 = .ok (.bipush 7, 2) := by decide +kernel
theorem dX12_unit_233 : decode cX12_unit 233 = .ok (.bipush 126, 2) := by decide +kernel
theorem dX12_unit_235 : decode cX12_unit 235 = .ok (.invokevirtual 298, 3) := by decide +kernel
theorem dX12_unit_238 : decode cX12_unit 238 = .ok (.aload_n 0, 1) := by decide +kernel
theorem dX12_unit_239 : decode cX12_unit 239 = .ok (.dup, 1) := by decide +kernel
theorem dX12_unit_240 : decode cX12_unit 240 = .ok (.getfield 295, 3) := by decide +kernel
theorem dX12_unit_243 : decode cX12_unit 243 = .ok (.iconst 1, 1) := by decide +kernel
theorem dX12_unit_244 : decode cX12_unit 244 = .ok (.iadd, 1) := by decide +kernel
theorem dX12_unit_245 : decode cX12_unit 245 = .ok (.putfield 295, 3) := by decide +kernel
theorem dX12_unit_248 : decode cX12_unit 248 = .ok (.iconst 1, 1) := by decide +kernel
theorem dX12_unit_249 : decode cX12_unit 249 = .ok (.ireturn, 1) := by decide +kernel
theorem dX12_unit_250 : decode cX12_unit 250 = .ok (.aload_n 0, 1) := by decide +kernel
theorem dX12_unit_251 : decode cX12_unit 251 = .ok (.iload 4, 2) := by decide +kernel
theorem dX12_unit_253 : decode cX12_unit 253 = .ok (.ifCond .ne 8, 3) := by decide +kernel
theorem dX12_unit_256 : decode cX12_unit 256 = .ok (.bipush 110, 2) := by decide +kernel
theorem dX12_unit_258 : decode cX12_unit 258 = .ok (.goto 5, 3) := by decide +kernel
theorem dX12_unit_261 : decode cX12_unit 261 = .ok (.iload 4, 2) := by decide +kernel
theorem dX12_unit_263 : decode cX12_unit 263 = .ok (.iload 6, 2) := by decide +kernel
theorem dX12_unit_265 : decode cX12_unit 265 = .ok (.invokevirtual 310, 3) := by decide +kernel
theorem dX12_unit_268 : decode cX12_unit 268 = .ok (.iconst 0, 1) := by decide +kernel
theorem dX12_unit_269 : decode cX12_unit 269 = .ok (.ireturn, 1) := by decide +kernel
theorem dX12_rankHere_0 : decode cX12_rankHere 0 = .ok (.aload_n 0, 1) := by decide +kernel
theorem dX12_rankHere_1 : decode cX12_rankHere 1 = .ok (.ldc2_w 172, 3) := by decide +kernel
theorem dX12_rankHere_4 : decode cX12_rankHere 4 = .ok (.invokevirtual 224, 3) := by decide +kernel
theorem dX12_rankHere_7 : decode cX12_rankHere 7 = .ok (.ifCond .eq 5, 3) := by decide +kernel
theorem dX12_rankHere_10 : decode cX12_rankHere 10 = .ok (.iconst 2, 1) := by decide +kernel
theorem dX12_rankHere_11 : decode cX12_rankHere 11 = .ok (.ireturn, 1) := by decide +kernel
theorem dX12_rankHere_12 : decode cX12_rankHere 12 = .ok (.aload_n 0, 1) := by decide +kernel
theorem dX12_rankHere_13 : decode cX12_rankHere 13 = .ok (.ldc2_w 170, 3) := by decide +kernel
theorem dX12_rankHere_16 : decode cX12_rankHere 16 = .ok (.invokevirtual 224, 3) := by decide +kernel
theorem dX12_rankHere_19 : decode cX12_rankHere 19 = .ok (.ifCond .eq 5, 3) := by decide +kernel
theorem dX12_rankHere_22 : decode cX12_rankHere 22 = .ok (.iconst 1, 1) := by decide +kernel
theorem dX12_rankHere_23 : decode cX12_rankHere 23 = .ok (.ireturn, 1) := by decide +kernel
theorem dX12_rankHere_24 : decode cX12_rankHere 24 = .ok (.aload_n 0, 1) := by decide +kernel
theorem dX12_rankHere_25 : decode cX12_rankHere 25 = .ok (.bipush 60, 2) := by decide +kernel
theorem dX12_rankHere_27 : decode cX12_rankHere 27 = .ok (.invokevirtual 279, 3) := by decide +kernel
theorem dX12_rankHere_30 : decode cX12_rankHere 30 = .ok (.ifCond .ne 21, 3) := by decide +kernel
theorem dX12_rankHere_33 : decode cX12_rankHere 33 = .ok (.aload_n 0, 1) := by decide +kernel
theorem dX12_rankHere_34 : decode cX12_rankHere 34 = .ok (.bipush 62, 2) := by decide +kernel
theorem dX12_rankHere_36 : decode cX12_rankHere 36 = .ok (.invokevirtual 279, 3) := by decide +kernel
theorem dX12_rankHere_39 : decode cX12_rankHere 39 = .ok (.ifCond .ne 12, 3) := by decide +kernel
theorem dX12_rankHere_42 : decode cX12_rankHere 42 = .ok (.aload_n 0, 1) := by decide +kernel
theorem dX12_rankHere_43 : decode cX12_rankHere 43 = .ok (.bipush 61, 2) := by decide +kernel
theorem dX12_rankHere_45 : decode cX12_rankHere 45 = .ok (.invokevirtual 279, 3) := by decide +kernel
theorem dX12_rankHere_48 : decode cX12_rankHere 48 = .ok (.ifCond .eq 5, 3) := by decide +kernel
theorem dX12_rankHere_51 : decode cX12_rankHere 51 = .ok (.iconst 4, 1) := by decide +kernel
theorem dX12_rankHere_52 : decode cX12_rankHere 52 = .ok (.ireturn, 1) := by decide +kernel
theorem dX12_rankHere_53 : decode cX12_rankHere 53 = .ok (.aload_n 0, 1) := by decide +kernel
theorem dX12_rankHere_54 : decode cX12_rankHere 54 = .ok (.bipush 43, 2) := by decide +kernel
theorem dX12_rankHere_56 : decode cX12_rankHere 56 = .ok (.invokevirtual 279, 3) := by decide +kernel
theorem dX12_rankHere_59 : decode cX12_rankHere 59 = .ok (.ifCond .ne 12, 3) := by decide +kernel
theorem dX12_rankHere_62 : decode cX12_rankHere 62 = .ok (.aload_n 0, 1) := by decide +kernel
theorem dX12_rankHere_63 : decode cX12_rankHere 63 = .ok (.bipush 45, 2) := by decide +kernel
theorem dX12_rankHere_65 : decode cX12_rankHere 65 = .ok (.invokevirtual 279, 3) := by decide +kernel
theorem dX12_rankHere_68 : decode cX12_rankHere 68 = .ok (.ifCond .eq 5, 3) := by decide +kernel
theorem dX12_rankHere_71 : decode cX12_rankHere 71 = .ok (.iconst 5, 1) := by decide +kernel
theorem dX12_rankHere_72 : decode cX12_rankHere 72 = .ok (.ireturn, 1) := by decide +kernel
theorem dX12_rankHere_73 : decode cX12_rankHere 73 = .ok (.aload_n 0, 1) := by decide +kernel
theorem dX12_rankHere_74 : decode cX12_rankHere 74 = .ok (.bipush 42, 2) := by decide +kernel
theorem dX12_rankHere_76 : decode cX12_rankHere 76 = .ok (.invokevirtual 279, 3) := by decide +kernel
theorem dX12_rankHere_79 : decode cX12_rankHere 79 = .ok (.ifCond .ne 21, 3) := by decide +kernel
theorem dX12_rankHere_82 : decode cX12_rankHere 82 = .ok (.aload_n 0, 1) := by decide +kernel
theorem dX12_rankHere_83 : decode cX12_rankHere 83 = .ok (.bipush 47, 2) := by decide +kernel
theorem dX12_rankHere_85 : decode cX12_rankHere 85 = .ok (.invokevirtual 279, 3) := by decide +kernel
theorem dX12_rankHere_88 : decode cX12_rankHere 88 = .ok (.ifCond .ne 12, 3) := by decide +kernel
theorem dX12_rankHere_91 : decode cX12_rankHere 91 = .ok (.aload_n 0, 1) := by decide +kernel
theorem dX12_rankHere_92 : decode cX12_rankHere 92 = .ok (.bipush 37, 2) := by decide +kernel
theorem dX12_rankHere_94 : decode cX12_rankHere 94 = .ok (.invokevirtual 279, 3) := by decide +kernel
theorem dX12_rankHere_97 : decode cX12_rankHere 97 = .ok (.ifCond .eq 8, 3) := by decide +kernel
theorem dX12_rankHere_100 : decode cX12_rankHere 100 = .ok (.bipush 6, 2) := by decide +kernel
theorem dX12_rankHere_102 : decode cX12_rankHere 102 = .ok (.goto 4, 3) := by decide +kernel
theorem dX12_rankHere_105 : decode cX12_rankHere 105 = .ok (.iconst 0, 1) := by decide +kernel
theorem dX12_rankHere_106 : decode cX12_rankHere 106 = .ok (.ireturn, 1) := by decide +kernel
theorem dX12_isCompared_0 : decode cX12_isCompared 0 = .ok (.aload_n 0, 1) := by decide +kernel
theorem dX12_isCompared_1 : decode cX12_isCompared 1 = .ok (.getfield 292, 3) := by decide +kernel
theorem dX12_isCompared_4 : decode cX12_isCompared 4 = .ok (.iconst 1, 1) := by decide +kernel
theorem dX12_isCompared_5 : decode cX12_isCompared 5 = .ok (.isub, 1) := by decide +kernel
theorem dX12_isCompared_6 : decode cX12_isCompared 6 = .ok (.istore_n 1, 1) := by decide +kernel
theorem dX12_isCompared_7 : decode cX12_isCompared 7 = .ok (.aload_n 0, 1) := by decide +kernel
theorem dX12_isCompared_8 : decode cX12_isCompared 8 = .ok (.getfield 76, 3) := by decide +kernel
theorem dX12_isCompared_11 : decode cX12_isCompared 11 = .ok (.iload_n 1, 1) := by decide +kernel
theorem dX12_isCompared_12 : decode cX12_isCompared 12 = .ok (.iaload, 1) := by decide +kernel
theorem dX12_isCompared_13 : decode cX12_isCompared 13 = .ok (.iconst 5, 1) := by decide +kernel
theorem dX12_isCompared_14 : decode cX12_isCompared 14 = .ok (.if_icmp .eq 14, 3) := by decide +kernel
theorem dX12_isCompared_17 : decode cX12_isCompared 17 = .ok (.aload_n 0, 1) := by decide +kernel
theorem dX12_isCompared_18 : decode cX12_isCompared 18 = .ok (.getfield 76, 3) := by decide +kernel
theorem dX12_isCompared_21 : decode cX12_isCompared 21 = .ok (.iload_n 1, 1) := by decide +kernel
theorem dX12_isCompared_22 : decode cX12_isCompared 22 = .ok (.iaload, 1) := by decide +kernel
theorem dX12_isCompared_23 : decode cX12_isCompared 23 = .ok (.bipush 6, 2) := by decide +kernel
theorem dX12_isCompared_25 : decode cX12_isCompared 25 = .ok (.if_icmp .ne 9, 3) := by decide +kernel
theorem dX12_isCompared_28 : decode cX12_isCompared 28 = .ok (.iinc 1 (-1), 3) := by decide +kernel
theorem dX12_isCompared_31 : decode cX12_isCompared 31 = .ok (.goto (-24), 3) := by decide +kernel
theorem dX12_isCompared_34 : decode cX12_isCompared 34 = .ok (.aload_n 0, 1) := by decide +kernel
theorem dX12_isCompared_35 : decode cX12_isCompared 35 = .ok (.getfield 76, 3) := by decide +kernel
theorem dX12_isCompared_38 : decode cX12_isCompared 38 = .ok (.iload_n 1, 1) := by decide +kernel
theorem dX12_isCompared_39 : decode cX12_isCompared 39 = .ok (.iaload, 1) := by decide +kernel
theorem dX12_isCompared_40 : decode cX12_isCompared 40 = .ok (.iconst 4, 1) := by decide +kernel
theorem dX12_isCompared_41 : decode cX12_isCompared 41 = .ok (.if_icmp .ne 7, 3) := by decide +kernel
theorem dX12_isCompared_44 : decode cX12_isCompared 44 = .ok (.iconst 1, 1) := by decide +kernel
theorem dX12_isCompared_45 : decode cX12_isCompared 45 = .ok (.goto 4, 3) := by decide +kernel
theorem dX12_isCompared_48 : decode cX12_isCompared 48 = .ok (.iconst 0, 1) := by decide +kernel
theorem dX12_isCompared_49 : decode cX12_isCompared 49 = .ok (.ireturn, 1) := by decide +kernel
theorem dX12_behindUnit_0 : decode cX12_behindUnit 0 = .ok (.aload_n 0, 1) := by decide +kernel
theorem dX12_behindUnit_1 : decode cX12_behindUnit 1 = .ok (.invokevirtual 313, 3) := by decide +kernel
theorem dX12_behindUnit_4 : decode cX12_behindUnit 4 = .ok (.istore_n 1, 1) := by decide +kernel
theorem dX12_behindUnit_5 : decode cX12_behindUnit 5 = .ok (.iload_n 1, 1) := by decide +kernel
theorem dX12_behindUnit_6 : decode cX12_behindUnit 6 = .ok (.iconst 4, 1) := by decide +kernel
theorem dX12_behindUnit_7 : decode cX12_behindUnit 7 = .ok (.if_icmp .ne 16, 3) := by decide +kernel
theorem dX12_behindUnit_10 : decode cX12_behindUnit 10 = .ok (.aload_n 0, 1) := by decide +kernel
theorem dX12_behindUnit_11 : decode cX12_behindUnit 11 = .ok (.invokevirtual 316, 3) := by decide +kernel
theorem dX12_behindUnit_14 : decode cX12_behindUnit 14 = .ok (.ifCond .eq 9, 3) := by decide +kernel
theorem dX12_behindUnit_17 : decode cX12_behindUnit 17 = .ok (.aload_n 0, 1) := by decide +kernel
theorem dX12_behindUnit_18 : decode cX12_behindUnit 18 = .ok (.invokevirtual 221, 3) := by decide +kernel
theorem dX12_behindUnit_21 : decode cX12_behindUnit 21 = .ok (.iconst 1, 1) := by decide +kernel
theorem dX12_behindUnit_22 : decode cX12_behindUnit 22 = .ok (.ireturn, 1) := by decide +kernel
theorem dX12_behindUnit_23 : decode cX12_behindUnit 23 = .ok (.aload_n 0, 1) := by decide +kernel
theorem dX12_behindUnit_24 : decode cX12_behindUnit 24 = .ok (.getfield 76, 3) := by decide +kernel
theorem dX12_behindUnit_27 : decode cX12_behindUnit 27 = .ok (.aload_n 0, 1) := by decide +kernel
theorem dX12_behindUnit_28 : decode cX12_behindUnit 28 = .ok (.getfield 292, 3) := by decide +kernel
theorem dX12_behindUnit_31 : decode cX12_behindUnit 31 = .ok (.iconst 1, 1) := by decide +kernel
theorem dX12_behindUnit_32 : decode cX12_behindUnit 32 = .ok (.isub, 1) := by decide +kernel
theorem dX12_behindUnit_33 : decode cX12_behindUnit 33 = .ok (.iaload, 1) := by decide +kernel
theorem dX12_behindUnit_34 : decode cX12_behindUnit 34 = .ok (.bipush 6, 2) := by decide +kernel
theorem dX12_behindUnit_36 : decode cX12_behindUnit 36 = .ok (.if_icmp .gt 68, 3) := by decide +kernel
theorem dX12_behindUnit_39 : decode cX12_behindUnit 39 = .ok (.aload_n 0, 1) := by decide +kernel
theorem dX12_behindUnit_40 : decode cX12_behindUnit 40 = .ok (.getfield 76, 3) := by decide +kernel
theorem dX12_behindUnit_43 : decode cX12_behindUnit 43 = .ok (.aload_n 0, 1) := by decide +kernel
theorem dX12_behindUnit_44 : decode cX12_behindUnit 44 = .ok (.getfield 292, 3) := by decide +kernel
theorem dX12_behindUnit_47 : decode cX12_behindUnit 47 = .ok (.iconst 1, 1) := by decide +kernel
theorem dX12_behindUnit_48 : decode cX12_behindUnit 48 = .ok (.isub, 1) := by decide +kernel
theorem dX12_behindUnit_49 : decode cX12_behindUnit 49 = .ok (.iaload, 1) := by decide +kernel
theorem dX12_behindUnit_50 : decode cX12_behindUnit 50 = .ok (.iload_n 1, 1) := by decide +kernel
theorem dX12_behindUnit_51 : decode cX12_behindUnit 51 = .ok (.if_icmp .lt 53, 3) := by decide +kernel
theorem dX12_behindUnit_54 : decode cX12_behindUnit 54 = .ok (.aload_n 0, 1) := by decide +kernel
theorem dX12_behindUnit_55 : decode cX12_behindUnit 55 = .ok (.dup, 1) := by decide +kernel
theorem dX12_behindUnit_56 : decode cX12_behindUnit 56 = .ok (.getfield 292, 3) := by decide +kernel
theorem dX12_behindUnit_59 : decode cX12_behindUnit 59 = .ok (.iconst 1, 1) := by decide +kernel
theorem dX12_behindUnit_60 : decode cX12_behindUnit 60 = .ok (.isub, 1) := by decide +kernel
theorem dX12_behindUnit_61 : decode cX12_behindUnit 61 = .ok (.putfield 292, 3) := by decide +kernel
theorem dX12_behindUnit_64 : decode cX12_behindUnit 64 = .ok (.aload_n 0, 1) := by decide +kernel
theorem dX12_behindUnit_65 : decode cX12_behindUnit 65 = .ok (.getfield 76, 3) := by decide +kernel
theorem dX12_behindUnit_68 : decode cX12_behindUnit 68 = .ok (.aload_n 0, 1) := by decide +kernel
theorem dX12_behindUnit_69 : decode cX12_behindUnit 69 = .ok (.getfield 292, 3) := by decide +kernel
theorem dX12_behindUnit_72 : decode cX12_behindUnit 72 = .ok (.iaload, 1) := by decide +kernel
theorem dX12_behindUnit_73 : decode cX12_behindUnit 73 = .ok (.iconst 3, 1) := by decide +kernel
theorem dX12_behindUnit_74 : decode cX12_behindUnit 74 = .ok (.if_icmp .ne 13, 3) := by decide +kernel
theorem dX12_behindUnit_77 : decode cX12_behindUnit 77 = .ok (.aload_n 0, 1) := by decide +kernel
theorem dX12_behindUnit_78 : decode cX12_behindUnit 78 = .ok (.dup, 1) := by decide +kernel
theorem dX12_behindUnit_79 : decode cX12_behindUnit 79 = .ok (.getfield 295, 3) := by decide +kernel
theorem dX12_behindUnit_82 : decode cX12_behindUnit 82 = .ok (.iconst 1, 1) := by decide +kernel
theorem dX12_behindUnit_83 : decode cX12_behindUnit 83 = .ok (.isub, 1) := by decide +kernel
theorem dX12_behindUnit_84 : decode cX12_behindUnit 84 = .ok (.putfield 295, 3) := by decide +kernel
theorem dX12_behindUnit_87 : decode cX12_behindUnit 87 = .ok (.aload_n 0, 1) := by decide +kernel
theorem dX12_behindUnit_88 : decode cX12_behindUnit 88 = .ok (.aload_n 0, 1) := by decide +kernel
theorem dX12_behindUnit_89 : decode cX12_behindUnit 89 = .ok (.getfield 79, 3) := by decide +kernel
theorem dX12_behindUnit_92 : decode cX12_behindUnit 92 = .ok (.aload_n 0, 1) := by decide +kernel
theorem dX12_behindUnit_93 : decode cX12_behindUnit 93 = .ok (.getfield 292, 3) := by decide +kernel
theorem dX12_behindUnit_96 : decode cX12_behindUnit 96 = .ok (.iaload, 1) := by decide +kernel
theorem dX12_behindUnit_97 : decode cX12_behindUnit 97 = .ok (.iconst 0, 1) := by decide +kernel
theorem dX12_behindUnit_98 : decode cX12_behindUnit 98 = .ok (.invokevirtual 310, 3) := by decide +kernel
theorem dX12_behindUnit_101 : decode cX12_behindUnit 101 = .ok (.goto (-78), 3) := by decide +kernel
theorem dX12_behindUnit_104 : decode cX12_behindUnit 104 = .ok (.iload_n 1, 1) := by decide +kernel
theorem dX12_behindUnit_105 : decode cX12_behindUnit 105 = .ok (.ifCond .le 42, 3) := by decide +kernel
theorem dX12_behindUnit_108 : decode cX12_behindUnit 108 = .ok (.aload_n 0, 1) := by decide +kernel
theorem dX12_behindUnit_109 : decode cX12_behindUnit 109 = .ok (.iload_n 1, 1) := by decide +kernel
theorem dX12_behindUnit_110 : decode cX12_behindUnit 110 = .ok (.iload_n 1, 1) := by decide +kernel
theorem dX12_behindUnit_111 : decode cX12_behindUnit 111 = .ok (.iconst 2, 1) := by decide +kernel
theorem dX12_behindUnit_112 : decode cX12_behindUnit 112 = .ok (.if_icmp .ne 8, 3) := by decide +kernel
theorem dX12_behindUnit_115 : decode cX12_behindUnit 115 = .ok (.bipush 38, 2) := by decide +kernel
theorem dX12_behindUnit_117 : decode cX12_behindUnit 117 = .ok (.goto 21, 3) := by decide +kernel
theorem dX12_behindUnit_120 : decode cX12_behindUnit 120 = .ok (.iload_n 1, 1) := by decide +kernel
theorem dX12_behindUnit_121 : decode cX12_behindUnit 121 = .ok (.iconst 1, 1) := by decide +kernel
theorem dX12_behindUnit_122 : decode cX12_behindUnit 122 = .ok (.if_icmp .ne 8, 3) := by decide +kernel
theorem dX12_behindUnit_125 : decode cX12_behindUnit 125 = .ok (.bipush 124, 2) := by decide +kernel
theorem dX12_behindUnit_127 : decode cX12_behindUnit 127 = .ok (.goto 11, 3) := by decide +kernel
theorem dX12_behindUnit_130 : decode cX12_behindUnit 130 = .ok (.aload_n 0, 1) := by decide +kernel
theorem dX12_behindUnit_131 : decode cX12_behindUnit 131 = .ok (.aload_n 0, 1) := by decide +kernel
theorem dX12_behindUnit_132 : decode cX12_behindUnit 132 = .ok (.getfield 179, 3) := by decide +kernel
theorem dX12_behindUnit_135 : decode cX12_behindUnit 135 = .ok (.invokevirtual 182, 3) := by decide +kernel
theorem dX12_behindUnit_138 : decode cX12_behindUnit 138 = .ok (.invokevirtual 298, 3) := by decide +kernel
theorem dX12_behindUnit_141 : decode cX12_behindUnit 141 = .ok (.aload_n 0, 1) := by decide +kernel
theorem dX12_behindUnit_142 : decode cX12_behindUnit 142 = .ok (.invokevirtual 218, 3) := by decide +kernel
theorem dX12_behindUnit_145 : decode cX12_behindUnit 145 = .ok (.iconst 1, 1) := by decide +kernel
theorem dX12_behindUnit_146 : decode cX12_behindUnit 146 = .ok (.ireturn, 1) := by decide +kernel
theorem dX12_behindUnit_147 : decode cX12_behindUnit 147 = .ok (.aload_n 0, 1) := by decide +kernel
theorem dX12_behindUnit_148 : decode cX12_behindUnit 148 = .ok (.dup, 1) := by decide +kernel
theorem dX12_behindUnit_149 : decode cX12_behindUnit 149 = .ok (.getfield 292, 3) := by decide +kernel
theorem dX12_behindUnit_152 : decode cX12_behindUnit 152 = .ok (.iconst 1, 1) := by decide +kernel
theorem dX12_behindUnit_153 : decode cX12_behindUnit 153 = .ok (.isub, 1) := by decide +kernel
theorem dX12_behindUnit_154 : decode cX12_behindUnit 154 = .ok (.putfield 292, 3) := by decide +kernel
theorem dX12_behindUnit_157 : decode cX12_behindUnit 157 = .ok (.aload_n 0, 1) := by decide +kernel
theorem dX12_behindUnit_158 : decode cX12_behindUnit 158 = .ok (.getfield 76, 3) := by decide +kernel
theorem dX12_behindUnit_161 : decode cX12_behindUnit 161 = .ok (.aload_n 0, 1) := by decide +kernel
theorem dX12_behindUnit_162 : decode cX12_behindUnit 162 = .ok (.getfield 292, 3) := by decide +kernel
theorem dX12_behindUnit_165 : decode cX12_behindUnit 165 = .ok (.iaload, 1) := by decide +kernel
theorem dX12_behindUnit_166 : decode cX12_behindUnit 166 = .ok (.bipush 7, 2) := by decide +kernel
theorem dX12_behindUnit_168 : decode cX12_behindUnit 168 = .ok (.if_icmp .ne 23, 3) := by decide +kernel
theorem dX12_behindUnit_171 : decode cX12_behindUnit 171 = .ok (.aload_n 0, 1) := by decide +kernel
theorem dX12_behindUnit_172 : decode cX12_behindUnit 172 = .ok (.dup, 1) := by decide +kernel
theorem dX12_behindUnit_173 : decode cX12_behindUnit 173 = .ok (.getfield 295, 3) := by decide +kernel
theorem dX12_behindUnit_176 : decode cX12_behindUnit 176 = .ok (.iconst 1, 1) := by decide +kernel
theorem dX12_behindUnit_177 : decode cX12_behindUnit 177 = .ok (.isub, 1) := by decide +kernel
theorem dX12_behindUnit_178 : decode cX12_behindUnit 178 = .ok (.putfield 295, 3) := by decide +kernel
theorem dX12_behindUnit_181 : decode cX12_behindUnit 181 = .ok (.aload_n 0, 1) := by decide +kernel
theorem dX12_behindUnit_182 : decode cX12_behindUnit 182 = .ok (.aload_n 0, 1) := by decide +kernel
theorem dX12_behindUnit_183 : decode cX12_behindUnit 183 = .ok (.bipush 41, 2) := by decide +kernel
theorem dX12_behindUnit_185 : decode cX12_behindUnit 185 = .ok (.invokevirtual 279, 3) := by decide +kernel
theorem dX12_behindUnit_188 : decode cX12_behindUnit 188 = .ok (.invokevirtual 227, 3) := by decide +kernel
theorem dX12_behindUnit_191 : decode cX12_behindUnit 191 = .ok (.iconst 0, 1) := by decide +kernel
theorem dX12_behindUnit_192 : decode cX12_behindUnit 192 = .ok (.ireturn, 1) := by decide +kernel
theorem dX12_two_0 : decode cX12_two 0 = .ok (.iload_n 0, 1) := by decide +kernel
theorem dX12_two_1 : decode cX12_two 1 = .ok (.tableswitch 202 37 62 #[143, 188, 202, 202, 202, 127, 119, 202, 123, 202, 131, 202, 202, 202, 202, 202, 202, 202, 202, 202, 202, 202, 202, 155, 177, 166], 119) := by decide +kernel
theorem dX12_two_120 : decode cX12_two 120 = .ok (.iload_n 1, 1) := by decide +kernel
theorem dX12_two_121 : decode cX12_two 121 = .ok (.iload_n 2, 1) := by decide +kernel
theorem dX12_two_122 : decode cX12_two 122 = .ok (.iadd, 1) := by decide +kernel
theorem dX12_two_123 : decode cX12_two 123 = .ok (.ireturn, 1) := by decide +kernel
theorem dX12_two_124 : decode cX12_two 124 = .ok (.iload_n 1, 1) := by decide +kernel
theorem dX12_two_125 : decode cX12_two 125 = .ok (.iload_n 2, 1) := by decide +kernel
theorem dX12_two_126 : decode cX12_two 126 = .ok (.isub, 1) := by decide +kernel
theorem dX12_two_127 : decode cX12_two 127 = .ok (.ireturn, 1) := by decide +kernel
theorem dX12_two_128 : decode cX12_two 128 = .ok (.iload_n 1, 1) := by decide +kernel
theorem dX12_two_129 : decode cX12_two 129 = .ok (.iload_n 2, 1) := by decide +kernel
theorem dX12_two_130 : decode cX12_two 130 = .ok (.imul, 1) := by decide +kernel
theorem dX12_two_131 : decode cX12_two 131 = .ok (.ireturn, 1) := by decide +kernel
theorem dX12_two_132 : decode cX12_two 132 = .ok (.iload_n 2, 1) := by decide +kernel
theorem dX12_two_133 : decode cX12_two 133 = .ok (.ifCond .ne 7, 3) := by decide +kernel
theorem dX12_two_136 : decode cX12_two 136 = .ok (.iconst 0, 1) := by decide +kernel
theorem dX12_two_137 : decode cX12_two 137 = .ok (.goto 6, 3) := by decide +kernel
theorem dX12_two_140 : decode cX12_two 140 = .ok (.iload_n 1, 1) := by decide +kernel
theorem dX12_two_141 : decode cX12_two 141 = .ok (.iload_n 2, 1) := by decide +kernel
theorem dX12_two_142 : decode cX12_two 142 = .ok (.idiv, 1) := by decide +kernel
theorem dX12_two_143 : decode cX12_two 143 = .ok (.ireturn, 1) := by decide +kernel
theorem dX12_two_144 : decode cX12_two 144 = .ok (.iload_n 2, 1) := by decide +kernel
theorem dX12_two_145 : decode cX12_two 145 = .ok (.ifCond .ne 7, 3) := by decide +kernel
theorem dX12_two_148 : decode cX12_two 148 = .ok (.iconst 0, 1) := by decide +kernel
theorem dX12_two_149 : decode cX12_two 149 = .ok (.goto 6, 3) := by decide +kernel
theorem dX12_two_152 : decode cX12_two 152 = .ok (.iload_n 1, 1) := by decide +kernel
theorem dX12_two_153 : decode cX12_two 153 = .ok (.iload_n 2, 1) := by decide +kernel
theorem dX12_two_154 : decode cX12_two 154 = .ok (.irem, 1) := by decide +kernel
theorem dX12_two_155 : decode cX12_two 155 = .ok (.ireturn, 1) := by decide +kernel
theorem dX12_two_156 : decode cX12_two 156 = .ok (.iload_n 1, 1) := by decide +kernel
theorem dX12_two_157 : decode cX12_two 157 = .ok (.iload_n 2, 1) := by decide +kernel
theorem dX12_two_158 : decode cX12_two 158 = .ok (.if_icmp .ge 7, 3) := by decide +kernel
theorem dX12_two_161 : decode cX12_two 161 = .ok (.iconst 1, 1) := by decide +kernel
theorem dX12_two_162 : decode cX12_two 162 = .ok (.goto 4, 3) := by decide +kernel
theorem dX12_two_165 : decode cX12_two 165 = .ok (.iconst 0, 1) := by decide +kernel
theorem dX12_two_166 : decode cX12_two 166 = .ok (.ireturn, 1) := by decide +kernel
theorem dX12_two_167 : decode cX12_two 167 = .ok (.iload_n 1, 1) := by decide +kernel
theorem dX12_two_168 : decode cX12_two 168 = .ok (.iload_n 2, 1) := by decide +kernel
theorem dX12_two_169 : decode cX12_two 169 = .ok (.if_icmp .le 7, 3) := by decide +kernel
theorem dX12_two_172 : decode cX12_two 172 = .ok (.iconst 1, 1) := by decide +kernel
theorem dX12_two_173 : decode cX12_two 173 = .ok (.goto 4, 3) := by decide +kernel
theorem dX12_two_176 : decode cX12_two 176 = .ok (.iconst 0, 1) := by decide +kernel
theorem dX12_two_177 : decode cX12_two 177 = .ok (.ireturn, 1) := by decide +kernel
theorem dX12_two_178 : decode cX12_two 178 = .ok (.iload_n 1, 1) := by decide +kernel
theorem dX12_two_179 : decode cX12_two 179 = .ok (.iload_n 2, 1) := by decide +kernel
theorem dX12_two_180 : decode cX12_two 180 = .ok (.if_icmp .ne 7, 3) := by decide +kernel
theorem dX12_two_183 : decode cX12_two 183 = .ok (.iconst 1, 1) := by decide +kernel
theorem dX12_two_184 : decode cX12_two 184 = .ok (.goto 4, 3) := by decide +kernel
theorem dX12_two_187 : decode cX12_two 187 = .ok (.iconst 0, 1) := by decide +kernel
theorem dX12_two_188 : decode cX12_two 188 = .ok (.ireturn, 1) := by decide +kernel
theorem dX12_two_189 : decode cX12_two 189 = .ok (.iload_n 1, 1) := by decide +kernel
theorem dX12_two_190 : decode cX12_two 190 = .ok (.ifCond .eq 11, 3) := by decide +kernel
theorem dX12_two_193 : decode cX12_two 193 = .ok (.iload_n 2, 1) := by decide +kernel
theorem dX12_two_194 : decode cX12_two 194 = .ok (.ifCond .eq 7, 3) := by decide +kernel
theorem dX12_two_197 : decode cX12_two 197 = .ok (.iconst 1, 1) := by decide +kernel
theorem dX12_two_198 : decode cX12_two 198 = .ok (.goto 4, 3) := by decide +kernel
theorem dX12_two_201 : decode cX12_two 201 = .ok (.iconst 0, 1) := by decide +kernel
theorem dX12_two_202 : decode cX12_two 202 = .ok (.ireturn, 1) := by decide +kernel
theorem dX12_two_203 : decode cX12_two 203 = .ok (.iload_n 1, 1) := by decide +kernel
theorem dX12_two_204 : decode cX12_two 204 = .ok (.ifCond .ne 7, 3) := by decide +kernel
theorem dX12_two_207 : decode cX12_two 207 = .ok (.iload_n 2, 1) := by decide +kernel
theorem dX12_two_208 : decode cX12_two 208 = .ok (.ifCond .eq 7, 3) := by decide +kernel
theorem dX12_two_211 : decode cX12_two 211 = .ok (.iconst 1, 1) := by decide +kernel
theorem dX12_two_212 : decode cX12_two 212 = .ok (.goto 4, 3) := by decide +kernel
theorem dX12_two_215 : decode cX12_two 215 = .ok (.iconst 0, 1) := by decide +kernel
theorem dX12_two_216 : decode cX12_two 216 = .ok (.ireturn, 1) := by decide +kernel
theorem dX12_asked_0 : decode cX12_asked 0 = .ok (.iload_n 1, 1) := by decide +kernel
theorem dX12_asked_1 : decode cX12_asked 1 = .ok (.lookupswitch 136 #[(97, 75), (98, 51), (108, 103), (109, 120), (121, 128)], 51) := by decide +kernel
theorem dX12_asked_52 : decode cX12_asked 52 = .ok (.aload_n 0, 1) := by decide +kernel
theorem dX12_asked_53 : decode cX12_asked 53 = .ok (.getfield 85, 3) := by decide +kernel
theorem dX12_asked_56 : decode cX12_asked 56 = .ok (.iconst 0, 1) := by decide +kernel
theorem dX12_asked_57 : decode cX12_asked 57 = .ok (.aload_n 0, 1) := by decide +kernel
theorem dX12_asked_58 : decode cX12_asked 58 = .ok (.getfield 319, 3) := by decide +kernel
theorem dX12_asked_61 : decode cX12_asked 61 = .ok (.iadd, 1) := by decide +kernel
theorem dX12_asked_62 : decode cX12_asked 62 = .ok (.iaload, 1) := by decide +kernel
theorem dX12_asked_63 : decode cX12_asked 63 = .ok (.aload_n 0, 1) := by decide +kernel
theorem dX12_asked_64 : decode cX12_asked 64 = .ok (.getfield 85, 3) := by decide +kernel
theorem dX12_asked_67 : decode cX12_asked 67 = .ok (.iconst 0, 1) := by decide +kernel
theorem dX12_asked_68 : decode cX12_asked 68 = .ok (.aload_n 0, 1) := by decide +kernel
theorem dX12_asked_69 : decode cX12_asked 69 = .ok (.getfield 322, 3) := by decide +kernel
theorem dX12_asked_72 : decode cX12_asked 72 = .ok (.iadd, 1) := by decide +kernel
theorem dX12_asked_73 : decode cX12_asked 73 = .ok (.iaload, 1) := by decide +kernel
theorem dX12_asked_74 : decode cX12_asked 74 = .ok (.iadd, 1) := by decide +kernel
theorem dX12_asked_75 : decode cX12_asked 75 = .ok (.ireturn, 1) := by decide +kernel
theorem dX12_asked_76 : decode cX12_asked 76 = .ok (.aload_n 0, 1) := by decide +kernel
theorem dX12_asked_77 : decode cX12_asked 77 = .ok (.getfield 85, 3) := by decide +kernel
theorem dX12_asked_80 : decode cX12_asked 80 = .ok (.bipush 16, 2) := by decide +kernel
theorem dX12_asked_82 : decode cX12_asked 82 = .ok (.aload_n 0, 1) := by decide +kernel
theorem dX12_asked_83 : decode cX12_asked 83 = .ok (.getfield 319, 3) := by decide +kernel
theorem dX12_asked_86 : decode cX12_asked 86 = .ok (.iadd, 1) := by decide +kernel
theorem dX12_asked_87 : decode cX12_asked 87 = .ok (.iaload, 1) := by decide +kernel
theorem dX12_asked_88 : decode cX12_asked 88 = .ok (.aload_n 0, 1) := by decide +kernel
theorem dX12_asked_89 : decode cX12_asked 89 = .ok (.getfield 85, 3) := by decide +kernel
theorem dX12_asked_92 : decode cX12_asked 92 = .ok (.bipush 16, 2) := by decide +kernel
theorem dX12_asked_94 : decode cX12_asked 94 = .ok (.aload_n 0, 1) := by decide +kernel
theorem dX12_asked_95 : decode cX12_asked 95 = .ok (.getfield 322, 3) := by decide +kernel
theorem dX12_asked_98 : decode cX12_asked 98 = .ok (.iadd, 1) := by decide +kernel
theorem dX12_asked_99 : decode cX12_asked 99 = .ok (.iaload, 1) := by decide +kernel
theorem dX12_asked_100 : decode cX12_asked 100 = .ok (.invokestatic 325, 3) := by decide +kernel
theorem dX12_asked_103 : decode cX12_asked 103 = .ok (.ireturn, 1) := by decide +kernel
theorem dX12_asked_104 : decode cX12_asked 104 = .ok (.aload_n 0, 1) := by decide +kernel
theorem dX12_asked_105 : decode cX12_asked 105 = .ok (.aload_n 0, 1) := by decide +kernel
theorem dX12_asked_106 : decode cX12_asked 106 = .ok (.getfield 85, 3) := by decide +kernel
theorem dX12_asked_109 : decode cX12_asked 109 = .ok (.bipush 8, 2) := by decide +kernel
theorem dX12_asked_111 : decode cX12_asked 111 = .ok (.aload_n 0, 1) := by decide +kernel
theorem dX12_asked_112 : decode cX12_asked 112 = .ok (.getfield 319, 3) := by decide +kernel
theorem dX12_asked_115 : decode cX12_asked 115 = .ok (.iadd, 1) := by decide +kernel
theorem dX12_asked_116 : decode cX12_asked 116 = .ok (.iaload, 1) := by decide +kernel
theorem dX12_asked_117 : decode cX12_asked 117 = .ok (.invokevirtual 328, 3) := by decide +kernel
theorem dX12_asked_120 : decode cX12_asked 120 = .ok (.ireturn, 1) := by decide +kernel
theorem dX12_asked_121 : decode cX12_asked 121 = .ok (.aload_n 0, 1) := by decide +kernel
theorem dX12_asked_122 : decode cX12_asked 122 = .ok (.invokevirtual 331, 3) := by decide +kernel
theorem dX12_asked_125 : decode cX12_asked 125 = .ok (.invokestatic 334, 3) := by decide +kernel
theorem dX12_asked_128 : decode cX12_asked 128 = .ok (.ireturn, 1) := by decide +kernel
theorem dX12_asked_129 : decode cX12_asked 129 = .ok (.aload_n 0, 1) := by decide +kernel
theorem dX12_asked_130 : decode cX12_asked 130 = .ok (.getfield 85, 3) := by decide +kernel
theorem dX12_asked_133 : decode cX12_asked 133 = .ok (.bipush 57, 2) := by decide +kernel
theorem dX12_asked_135 : decode cX12_asked 135 = .ok (.iaload, 1) := by decide +kernel
theorem dX12_asked_136 : decode cX12_asked 136 = .ok (.ireturn, 1) := by decide +kernel
theorem dX12_asked_137 : decode cX12_asked 137 = .ok (.iload_n 2, 1) := by decide +kernel
theorem dX12_asked_138 : decode cX12_asked 138 = .ok (.ireturn, 1) := by decide +kernel
theorem dX12_comes_0 : decode cX12_comes 0 = .ok (.iconst 0, 1) := by decide +kernel
theorem dX12_comes_1 : decode cX12_comes 1 = .ok (.istore_n 1, 1) := by decide +kernel
theorem dX12_comes_2 : decode cX12_comes 2 = .ok (.aload_n 0, 1) := by decide +kernel
theorem dX12_comes_3 : decode cX12_comes 3 = .ok (.getfield 57, 3) := by decide +kernel
theorem dX12_comes_6 : decode cX12_comes 6 = .ok (.aload_n 0, 1) := by decide +kernel
theorem dX12_comes_7 : decode cX12_comes 7 = .ok (.getfield 244, 3) := by decide +kernel
theorem dX12_comes_10 : decode cX12_comes 10 = .ok (.iaload, 1) := by decide +kernel
theorem dX12_comes_11 : decode cX12_comes 11 = .ok (.istore_n 2, 1) := by decide +kernel
theorem dX12_comes_12 : decode cX12_comes 12 = .ok (.iload_n 2, 1) := by decide +kernel
theorem dX12_comes_13 : decode cX12_comes 13 = .ok (.aload_n 0, 1) := by decide +kernel
theorem dX12_comes_14 : decode cX12_comes 14 = .ok (.getfield 60, 3) := by decide +kernel
theorem dX12_comes_17 : decode cX12_comes 17 = .ok (.aload_n 0, 1) := by decide +kernel
theorem dX12_comes_18 : decode cX12_comes 18 = .ok (.getfield 244, 3) := by decide +kernel
theorem dX12_comes_21 : decode cX12_comes 21 = .ok (.iaload, 1) := by decide +kernel
theorem dX12_comes_22 : decode cX12_comes 22 = .ok (.if_icmp .ge 108, 3) := by decide +kernel
theorem dX12_comes_25 : decode cX12_comes 25 = .ok (.aload_n 0, 1) := by decide +kernel
theorem dX12_comes_26 : decode cX12_comes 26 = .ok (.getfield 70, 3) := by decide +kernel
theorem dX12_comes_29 : decode cX12_comes 29 = .ok (.iload_n 2, 1) := by decide +kernel
theorem dX12_comes_30 : decode cX12_comes 30 = .ok (.iaload, 1) := by decide +kernel
theorem dX12_comes_31 : decode cX12_comes 31 = .ok (.istore_n 3, 1) := by decide +kernel
theorem dX12_comes_32 : decode cX12_comes 32 = .ok (.iload_n 3, 1) := by decide +kernel
theorem dX12_comes_33 : decode cX12_comes 33 = .ok (.bipush 126, 2) := by decide +kernel
theorem dX12_comes_35 : decode cX12_comes 35 = .ok (.if_icmp .ne 30, 3) := by decide +kernel
theorem dX12_comes_38 : decode cX12_comes 38 = .ok (.aload_n 0, 1) := by decide +kernel
theorem dX12_comes_39 : decode cX12_comes 39 = .ok (.getfield 82, 3) := by decide +kernel
theorem dX12_comes_42 : decode cX12_comes 42 = .ok (.iload_n 1, 1) := by decide +kernel
theorem dX12_comes_43 : decode cX12_comes 43 = .ok (.iconst 1, 1) := by decide +kernel
theorem dX12_comes_44 : decode cX12_comes 44 = .ok (.isub, 1) := by decide +kernel
theorem dX12_comes_45 : decode cX12_comes 45 = .ok (.aload_n 0, 1) := by decide +kernel
theorem dX12_comes_46 : decode cX12_comes 46 = .ok (.getfield 82, 3) := by decide +kernel
theorem dX12_comes_49 : decode cX12_comes 49 = .ok (.iload_n 1, 1) := by decide +kernel
theorem dX12_comes_50 : decode cX12_comes 50 = .ok (.iconst 1, 1) := by decide +kernel
theorem dX12_comes_51 : decode cX12_comes 51 = .ok (.isub, 1) := by decide +kernel
theorem dX12_comes_52 : decode cX12_comes 52 = .ok (.iaload, 1) := by decide +kernel
theorem dX12_comes_53 : decode cX12_comes 53 = .ok (.ifCond .ne 7, 3) := by decide +kernel
theorem dX12_comes_56 : decode cX12_comes 56 = .ok (.iconst 1, 1) := by decide +kernel
theorem dX12_comes_57 : decode cX12_comes 57 = .ok (.goto 4, 3) := by decide +kernel
theorem dX12_comes_60 : decode cX12_comes 60 = .ok (.iconst 0, 1) := by decide +kernel
theorem dX12_comes_61 : decode cX12_comes 61 = .ok (.iastore, 1) := by decide +kernel
theorem dX12_comes_62 : decode cX12_comes 62 = .ok (.goto 62, 3) := by decide +kernel
theorem dX12_comes_65 : decode cX12_comes 65 = .ok (.iload_n 3, 1) := by decide +kernel
theorem dX12_comes_66 : decode cX12_comes 66 = .ok (.invokestatic 189, 3) := by decide +kernel
theorem dX12_comes_69 : decode cX12_comes 69 = .ok (.ifCond .eq 26, 3) := by decide +kernel
theorem dX12_comes_72 : decode cX12_comes 72 = .ok (.aload_n 0, 1) := by decide +kernel
theorem dX12_comes_73 : decode cX12_comes 73 = .ok (.getfield 82, 3) := by decide +kernel
theorem dX12_comes_76 : decode cX12_comes 76 = .ok (.iload_n 1, 1) := by decide +kernel
theorem dX12_comes_77 : decode cX12_comes 77 = .ok (.aload_n 0, 1) := by decide +kernel
theorem dX12_comes_78 : decode cX12_comes 78 = .ok (.iload_n 3, 1) := by decide +kernel
theorem dX12_comes_79 : decode cX12_comes 79 = .ok (.aload_n 0, 1) := by decide +kernel
theorem dX12_comes_80 : decode cX12_comes 80 = .ok (.getfield 73, 3) := by decide +kernel
theorem dX12_comes_83 : decode cX12_comes 83 = .ok (.iload_n 2, 1) := by decide +kernel
theorem dX12_comes_84 : decode cX12_comes 84 = .ok (.iaload, 1) := by decide +kernel
theorem dX12_comes_85 : decode cX12_comes 85 = .ok (.invokevirtual 337, 3) := by decide +kernel
theorem dX12_comes_88 : decode cX12_comes 88 = .ok (.iastore, 1) := by decide +kernel
theorem dX12_comes_89 : decode cX12_comes 89 = .ok (.iinc 1 1, 3) := by decide +kernel
theorem dX12_comes_92 : decode cX12_comes 92 = .ok (.goto 32, 3) := by decide +kernel
theorem dX12_comes_95 : decode cX12_comes 95 = .ok (.iinc 1 (-1), 3) := by decide +kernel
theorem dX12_comes_98 : decode cX12_comes 98 = .ok (.aload_n 0, 1) := by decide +kernel
theorem dX12_comes_99 : decode cX12_comes 99 = .ok (.getfield 82, 3) := by decide +kernel
theorem dX12_comes_102 : decode cX12_comes 102 = .ok (.iload_n 1, 1) := by decide +kernel
theorem dX12_comes_103 : decode cX12_comes 103 = .ok (.iconst 1, 1) := by decide +kernel
theorem dX12_comes_104 : decode cX12_comes 104 = .ok (.isub, 1) := by decide +kernel
theorem dX12_comes_105 : decode cX12_comes 105 = .ok (.iload_n 3, 1) := by decide +kernel
theorem dX12_comes_106 : decode cX12_comes 106 = .ok (.aload_n 0, 1) := by decide +kernel
theorem dX12_comes_107 : decode cX12_comes 107 = .ok (.getfield 82, 3) := by decide +kernel
theorem dX12_comes_110 : decode cX12_comes 110 = .ok (.iload_n 1, 1) := by decide +kernel
theorem dX12_comes_111 : decode cX12_comes 111 = .ok (.iconst 1, 1) := by decide +kernel
theorem dX12_comes_112 : decode cX12_comes 112 = .ok (.isub, 1) := by decide +kernel
theorem dX12_comes_113 : decode cX12_comes 113 = .ok (.iaload, 1) := by decide +kernel
theorem dX12_comes_114 : decode cX12_comes 114 = .ok (.aload_n 0, 1) := by decide +kernel
theorem dX12_comes_115 : decode cX12_comes 115 = .ok (.getfield 82, 3) := by decide +kernel
theorem dX12_comes_118 : decode cX12_comes 118 = .ok (.iload_n 1, 1) := by decide +kernel
theorem dX12_comes_119 : decode cX12_comes 119 = .ok (.iaload, 1) := by decide +kernel
theorem dX12_comes_120 : decode cX12_comes 120 = .ok (.invokestatic 340, 3) := by decide +kernel
theorem dX12_comes_123 : decode cX12_comes 123 = .ok (.iastore, 1) := by decide +kernel
theorem dX12_comes_124 : decode cX12_comes 124 = .ok (.iinc 2 1, 3) := by decide +kernel
theorem dX12_comes_127 : decode cX12_comes 127 = .ok (.goto (-115), 3) := by decide +kernel
theorem dX12_comes_130 : decode cX12_comes 130 = .ok (.aload_n 0, 1) := by decide +kernel
theorem dX12_comes_131 : decode cX12_comes 131 = .ok (.getfield 82, 3) := by decide +kernel
theorem dX12_comes_134 : decode cX12_comes 134 = .ok (.iconst 0, 1) := by decide +kernel
theorem dX12_comes_135 : decode cX12_comes 135 = .ok (.iaload, 1) := by decide +kernel
theorem dX12_comes_136 : decode cX12_comes 136 = .ok (.ireturn, 1) := by decide +kernel
theorem dX12_fault_0 : decode cX12_fault 0 = .ok (.iload_n 1, 1) := by decide +kernel
theorem dX12_fault_1 : decode cX12_fault 1 = .ok (.ifCond .ne 10, 3) := by decide +kernel
theorem dX12_fault_4 : decode cX12_fault 4 = .ok (.aload_n 0, 1) := by decide +kernel
theorem dX12_fault_5 : decode cX12_fault 5 = .ok (.getfield 137, 3) := by decide +kernel
theorem dX12_fault_8 : decode cX12_fault 8 = .ok (.goto 16, 3) := by decide +kernel
theorem dX12_fault_11 : decode cX12_fault 11 = .ok (.iload_n 1, 1) := by decide +kernel
theorem dX12_fault_12 : decode cX12_fault 12 = .ok (.iconst 1, 1) := by decide +kernel
theorem dX12_fault_13 : decode cX12_fault 13 = .ok (.if_icmp .ne 10, 3) := by decide +kernel
theorem dX12_fault_16 : decode cX12_fault 16 = .ok (.aload_n 0, 1) := by decide +kernel
theorem dX12_fault_17 : decode cX12_fault 17 = .ok (.getfield 16, 3) := by decide +kernel
theorem dX12_fault_20 : decode cX12_fault 20 = .ok (.goto 4, 3) := by decide +kernel
theorem dX12_fault_23 : decode cX12_fault 23 = .ok (.iconst (-1), 1) := by decide +kernel
theorem dX12_fault_24 : decode cX12_fault 24 = .ok (.ireturn, 1) := by decide +kernel
theorem dX12_isIn_0 : decode cX12_isIn 0 = .ok (.iload_n 0, 1) := by decide +kernel
theorem dX12_isIn_1 : decode cX12_isIn 1 = .ok (.iload_n 1, 1) := by decide +kernel
theorem dX12_isIn_2 : decode cX12_isIn 2 = .ok (.if_icmp .lt 12, 3) := by decide +kernel
theorem dX12_isIn_5 : decode cX12_isIn 5 = .ok (.iload_n 0, 1) := by decide +kernel
theorem dX12_isIn_6 : decode cX12_isIn 6 = .ok (.iload_n 2, 1) := by decide +kernel
theorem dX12_isIn_7 : decode cX12_isIn 7 = .ok (.if_icmp .gt 7, 3) := by decide +kernel
theorem dX12_isIn_10 : decode cX12_isIn 10 = .ok (.iconst 1, 1) := by decide +kernel
theorem dX12_isIn_11 : decode cX12_isIn 11 = .ok (.goto 4, 3) := by decide +kernel
theorem dX12_isIn_14 : decode cX12_isIn 14 = .ok (.iconst 0, 1) := by decide +kernel
theorem dX12_isIn_15 : decode cX12_isIn 15 = .ok (.ireturn, 1) := by decide +kernel
theorem dX12_bit_0 : decode cX12_bit 0 = .ok (.iload_n 0, 1) := by decide +kernel
theorem dX12_bit_1 : decode cX12_bit 1 = .ok (.iload_n 1, 1) := by decide +kernel
theorem dX12_bit_2 : decode cX12_bit 2 = .ok (.ishr, 1) := by decide +kernel
theorem dX12_bit_3 : decode cX12_bit 3 = .ok (.iconst 1, 1) := by decide +kernel
theorem dX12_bit_4 : decode cX12_bit 4 = .ok (.iand, 1) := by decide +kernel
theorem dX12_bit_5 : decode cX12_bit 5 = .ok (.iconst 1, 1) := by decide +kernel
theorem dX12_bit_6 : decode cX12_bit 6 = .ok (.if_icmp .ne 7, 3) := by decide +kernel
theorem dX12_bit_9 : decode cX12_bit 9 = .ok (.iconst 1, 1) := by decide +kernel
theorem dX12_bit_10 : decode cX12_bit 10 = .ok (.goto 4, 3) := by decide +kernel
theorem dX12_bit_13 : decode cX12_bit 13 = .ok (.iconst 0, 1) := by decide +kernel
theorem dX12_bit_14 : decode cX12_bit 14 = .ok (.ireturn, 1) := by decide +kernel
theorem dX12_bitsOf_0 : decode cX12_bitsOf 0 = .ok (.iconst 0, 1) := by decide +kernel
theorem dX12_bitsOf_1 : decode cX12_bitsOf 1 = .ok (.istore_n 1, 1) := by decide +kernel
theorem dX12_bitsOf_2 : decode cX12_bitsOf 2 = .ok (.iload_n 0, 1) := by decide +kernel
theorem dX12_bitsOf_3 : decode cX12_bitsOf 3 = .ok (.istore_n 2, 1) := by decide +kernel
theorem dX12_bitsOf_4 : decode cX12_bitsOf 4 = .ok (.iload_n 2, 1) := by decide +kernel
theorem dX12_bitsOf_5 : decode cX12_bitsOf 5 = .ok (.ifCond .eq 15, 3) := by decide +kernel
theorem dX12_bitsOf_8 : decode cX12_bitsOf 8 = .ok (.iinc 1 1, 3) := by decide +kernel
theorem dX12_bitsOf_11 : decode cX12_bitsOf 11 = .ok (.iload_n 2, 1) := by decide +kernel
theorem dX12_bitsOf_12 : decode cX12_bitsOf 12 = .ok (.iload_n 2, 1) := by decide +kernel
theorem dX12_bitsOf_13 : decode cX12_bitsOf 13 = .ok (.iconst 1, 1) := by decide +kernel
theorem dX12_bitsOf_14 : decode cX12_bitsOf 14 = .ok (.isub, 1) := by decide +kernel
theorem dX12_bitsOf_15 : decode cX12_bitsOf 15 = .ok (.iand, 1) := by decide +kernel
theorem dX12_bitsOf_16 : decode cX12_bitsOf 16 = .ok (.istore_n 2, 1) := by decide +kernel
theorem dX12_bitsOf_17 : decode cX12_bitsOf 17 = .ok (.goto (-13), 3) := by decide +kernel
theorem dX12_bitsOf_20 : decode cX12_bitsOf 20 = .ok (.iload_n 1, 1) := by decide +kernel
theorem dX12_bitsOf_21 : decode cX12_bitsOf 21 = .ok (.ireturn, 1) := by decide +kernel
theorem dX12_sharedBy_0 : decode cX12_sharedBy 0 = .ok (.bipush 6, 2) := by decide +kernel
theorem dX12_sharedBy_2 : decode cX12_sharedBy 2 = .ok (.iload_n 0, 1) := by decide +kernel
theorem dX12_sharedBy_3 : decode cX12_sharedBy 3 = .ok (.iload_n 1, 1) := by decide +kernel
theorem dX12_sharedBy_4 : decode cX12_sharedBy 4 = .ok (.ixor, 1) := by decide +kernel
theorem dX12_sharedBy_5 : decode cX12_sharedBy 5 = .ok (.bipush 63, 2) := by decide +kernel
theorem dX12_sharedBy_7 : decode cX12_sharedBy 7 = .ok (.iand, 1) := by decide +kernel
theorem dX12_sharedBy_8 : decode cX12_sharedBy 8 = .ok (.invokestatic 334, 3) := by decide +kernel
theorem dX12_sharedBy_11 : decode cX12_sharedBy 11 = .ok (.isub, 1) := by decide +kernel
theorem dX12_sharedBy_12 : decode cX12_sharedBy 12 = .ok (.ireturn, 1) := by decide +kernel
theorem dX12_chambers_0 : decode cX12_chambers 0 = .ok (.aload_n 0, 1) := by decide +kernel
theorem dX12_chambers_1 : decode cX12_chambers 1 = .ok (.getfield 20, 3) := by decide +kernel
theorem dX12_chambers_4 : decode cX12_chambers 4 = .ok (.aload_n 0, 1) := by decide +kernel
theorem dX12_chambers_5 : decode cX12_chambers 5 = .ok (.getfield 244, 3) := by decide +kernel
theorem dX12_chambers_8 : decode cX12_chambers 8 = .ok (.iaload, 1) := by decide +kernel
theorem dX12_chambers_9 : decode cX12_chambers 9 = .ok (.ireturn, 1) := by decide +kernel
theorem dX12_isRoom_0 : decode cX12_isRoom 0 = .ok (.iload_n 1, 1) := by decide +kernel
theorem dX12_isRoom_1 : decode cX12_isRoom 1 = .ok (.iconst 0, 1) := by decide +kernel
theorem dX12_isRoom_2 : decode cX12_isRoom 2 = .ok (.aload_n 0, 1) := by decide +kernel
theorem dX12_isRoom_3 : decode cX12_isRoom 3 = .ok (.invokevirtual 343, 3) := by decide +kernel
theorem dX12_isRoom_6 : decode cX12_isRoom 6 = .ok (.iconst 1, 1) := by decide +kernel
theorem dX12_isRoom_7 : decode cX12_isRoom 7 = .ok (.isub, 1) := by decide +kernel
theorem dX12_isRoom_8 : decode cX12_isRoom 8 = .ok (.invokestatic 346, 3) := by decide +kernel
theorem dX12_isRoom_11 : decode cX12_isRoom 11 = .ok (.ireturn, 1) := by decide +kernel
theorem dX12_isThere_0 : decode cX12_isThere 0 = .ok (.iload_n 1, 1) := by decide +kernel
theorem dX12_isThere_1 : decode cX12_isThere 1 = .ok (.iconst 0, 1) := by decide +kernel
theorem dX12_isThere_2 : decode cX12_isThere 2 = .ok (.bipush 7, 2) := by decide +kernel
theorem dX12_isThere_4 : decode cX12_isThere 4 = .ok (.invokestatic 346, 3) := by decide +kernel
theorem dX12_isThere_7 : decode cX12_isThere 7 = .ok (.ifCond .eq 18, 3) := by decide +kernel
theorem dX12_isThere_10 : decode cX12_isThere 10 = .ok (.aload_n 0, 1) := by decide +kernel
theorem dX12_isThere_11 : decode cX12_isThere 11 = .ok (.getfield 85, 3) := by decide +kernel
theorem dX12_isThere_14 : decode cX12_isThere 14 = .ok (.iconst 0, 1) := by decide +kernel
theorem dX12_isThere_15 : decode cX12_isThere 15 = .ok (.iload_n 1, 1) := by decide +kernel
theorem dX12_isThere_16 : decode cX12_isThere 16 = .ok (.iadd, 1) := by decide +kernel
theorem dX12_isThere_17 : decode cX12_isThere 17 = .ok (.iaload, 1) := by decide +kernel
theorem dX12_isThere_18 : decode cX12_isThere 18 = .ok (.ifCond .le 7, 3) := by decide +kernel
theorem dX12_isThere_21 : decode cX12_isThere 21 = .ok (.iconst 1, 1) := by decide +kernel
theorem dX12_isThere_22 : decode cX12_isThere 22 = .ok (.goto 4, 3) := by decide +kernel
theorem dX12_isThere_25 : decode cX12_isThere 25 = .ok (.iconst 0, 1) := by decide +kernel
theorem dX12_isThere_26 : decode cX12_isThere 26 = .ok (.ireturn, 1) := by decide +kernel
theorem dX12_holdsOf_0 : decode cX12_holdsOf 0 = .ok (.aload_n 0, 1) := by decide +kernel
theorem dX12_holdsOf_1 : decode cX12_holdsOf 1 = .ok (.getfield 42, 3) := by decide +kernel
theorem dX12_holdsOf_4 : decode cX12_holdsOf 4 = .ok (.iconst 4, 1) := by decide +kernel
theorem dX12_holdsOf_5 : decode cX12_holdsOf 5 = .ok (.aload_n 0, 1) := by decide +kernel
theorem dX12_holdsOf_6 : decode cX12_holdsOf 6 = .ok (.getfield 244, 3) := by decide +kernel
theorem dX12_holdsOf_9 : decode cX12_holdsOf 9 = .ok (.imul, 1) := by decide +kernel
theorem dX12_holdsOf_10 : decode cX12_holdsOf 10 = .ok (.iload_n 1, 1) := by decide +kernel
theorem dX12_holdsOf_11 : decode cX12_holdsOf 11 = .ok (.iadd, 1) := by decide +kernel
theorem dX12_holdsOf_12 : decode cX12_holdsOf 12 = .ok (.iaload, 1) := by decide +kernel
theorem dX12_holdsOf_13 : decode cX12_holdsOf 13 = .ok (.ireturn, 1) := by decide +kernel
theorem dX12_those_0 : decode cX12_those 0 = .ok (.iconst 0, 1) := by decide +kernel
theorem dX12_those_1 : decode cX12_those 1 = .ok (.istore_n 1, 1) := by decide +kernel
theorem dX12_those_2 : decode cX12_those 2 = .ok (.iconst 0, 1) := by decide +kernel
theorem dX12_those_3 : decode cX12_those 3 = .ok (.istore_n 2, 1) := by decide +kernel
theorem dX12_those_4 : decode cX12_those 4 = .ok (.iload_n 2, 1) := by decide +kernel
theorem dX12_those_5 : decode cX12_those 5 = .ok (.bipush 8, 2) := by decide +kernel
theorem dX12_those_7 : decode cX12_those 7 = .ok (.if_icmp .ge 26, 3) := by decide +kernel
theorem dX12_those_10 : decode cX12_those 10 = .ok (.aload_n 0, 1) := by decide +kernel
theorem dX12_those_11 : decode cX12_those 11 = .ok (.getfield 85, 3) := by decide +kernel
theorem dX12_those_14 : decode cX12_those 14 = .ok (.iconst 0, 1) := by decide +kernel
theorem dX12_those_15 : decode cX12_those 15 = .ok (.iload_n 2, 1) := by decide +kernel
theorem dX12_those_16 : decode cX12_those 16 = .ok (.iadd, 1) := by decide +kernel
theorem dX12_those_17 : decode cX12_those 17 = .ok (.iaload, 1) := by decide +kernel
theorem dX12_those_18 : decode cX12_those 18 = .ok (.ifCond .le 9, 3) := by decide +kernel
theorem dX12_those_21 : decode cX12_those 21 = .ok (.iload_n 1, 1) := by decide +kernel
theorem dX12_those_22 : decode cX12_those 22 = .ok (.iconst 1, 1) := by decide +kernel
theorem dX12_those_23 : decode cX12_those 23 = .ok (.iload_n 2, 1) := by decide +kernel
theorem dX12_those_24 : decode cX12_those 24 = .ok (.ishl, 1) := by decide +kernel
theorem dX12_those_25 : decode cX12_those 25 = .ok (.ior, 1) := by decide +kernel
theorem dX12_those_26 : decode cX12_those 26 = .ok (.istore_n 1, 1) := by decide +kernel
theorem dX12_those_27 : decode cX12_those 27 = .ok (.iinc 2 1, 3) := by decide +kernel
theorem dX12_those_30 : decode cX12_those 30 = .ok (.goto (-26), 3) := by decide +kernel
theorem dX12_those_33 : decode cX12_those 33 = .ok (.iload_n 1, 1) := by decide +kernel
theorem dX12_those_34 : decode cX12_those 34 = .ok (.ireturn, 1) := by decide +kernel
theorem dX12_thoseIn_0 : decode cX12_thoseIn 0 = .ok (.iconst 0, 1) := by decide +kernel
theorem dX12_thoseIn_1 : decode cX12_thoseIn 1 = .ok (.istore_n 2, 1) := by decide +kernel
theorem dX12_thoseIn_2 : decode cX12_thoseIn 2 = .ok (.iconst 0, 1) := by decide +kernel
theorem dX12_thoseIn_3 : decode cX12_thoseIn 3 = .ok (.istore_n 3, 1) := by decide +kernel
theorem dX12_thoseIn_4 : decode cX12_thoseIn 4 = .ok (.iload_n 3, 1) := by decide +kernel
theorem dX12_thoseIn_5 : decode cX12_thoseIn 5 = .ok (.bipush 8, 2) := by decide +kernel
theorem dX12_thoseIn_7 : decode cX12_thoseIn 7 = .ok (.if_icmp .ge 39, 3) := by decide +kernel
theorem dX12_thoseIn_10 : decode cX12_thoseIn 10 = .ok (.aload_n 0, 1) := by decide +kernel
theorem dX12_thoseIn_11 : decode cX12_thoseIn 11 = .ok (.getfield 85, 3) := by decide +kernel
theorem dX12_thoseIn_14 : decode cX12_thoseIn 14 = .ok (.iconst 0, 1) := by decide +kernel
theorem dX12_thoseIn_15 : decode cX12_thoseIn 15 = .ok (.iload_n 3, 1) := by decide +kernel
theorem dX12_thoseIn_16 : decode cX12_thoseIn 16 = .ok (.iadd, 1) := by decide +kernel
theorem dX12_thoseIn_17 : decode cX12_thoseIn 17 = .ok (.iaload, 1) := by decide +kernel
theorem dX12_thoseIn_18 : decode cX12_thoseIn 18 = .ok (.ifCond .le 22, 3) := by decide +kernel
theorem dX12_thoseIn_21 : decode cX12_thoseIn 21 = .ok (.aload_n 0, 1) := by decide +kernel
theorem dX12_thoseIn_22 : decode cX12_thoseIn 22 = .ok (.getfield 85, 3) := by decide +kernel
theorem dX12_thoseIn_25 : decode cX12_thoseIn 25 = .ok (.bipush 8, 2) := by decide +kernel
theorem dX12_thoseIn_27 : decode cX12_thoseIn 27 = .ok (.iload_n 3, 1) := by decide +kernel
theorem dX12_thoseIn_28 : decode cX12_thoseIn 28 = .ok (.iadd, 1) := by decide +kernel
theorem dX12_thoseIn_29 : decode cX12_thoseIn 29 = .ok (.iaload, 1) := by decide +kernel
theorem dX12_thoseIn_30 : decode cX12_thoseIn 30 = .ok (.iload_n 1, 1) := by decide +kernel
theorem dX12_thoseIn_31 : decode cX12_thoseIn 31 = .ok (.if_icmp .ne 9, 3) := by decide +kernel
theorem dX12_thoseIn_34 : decode cX12_thoseIn 34 = .ok (.iload_n 2, 1) := by decide +kernel
theorem dX12_thoseIn_35 : decode cX12_thoseIn 35 = .ok (.iconst 1, 1) := by decide +kernel
theorem dX12_thoseIn_36 : decode cX12_thoseIn 36 = .ok (.iload_n 3, 1) := by decide +kernel
theorem dX12_thoseIn_37 : decode cX12_thoseIn 37 = .ok (.ishl, 1) := by decide +kernel
theorem dX12_thoseIn_38 : decode cX12_thoseIn 38 = .ok (.ior, 1) := by decide +kernel
theorem dX12_thoseIn_39 : decode cX12_thoseIn 39 = .ok (.istore_n 2, 1) := by decide +kernel
theorem dX12_thoseIn_40 : decode cX12_thoseIn 40 = .ok (.iinc 3 1, 3) := by decide +kernel
theorem dX12_thoseIn_43 : decode cX12_thoseIn 43 = .ok (.goto (-39), 3) := by decide +kernel
theorem dX12_thoseIn_46 : decode cX12_thoseIn 46 = .ok (.iload_n 2, 1) := by decide +kernel
theorem dX12_thoseIn_47 : decode cX12_thoseIn 47 = .ok (.ireturn, 1) := by decide +kernel
theorem dX12_bulkOf_0 : decode cX12_bulkOf 0 = .ok (.iconst 0, 1) := by decide +kernel
theorem dX12_bulkOf_1 : decode cX12_bulkOf 1 = .ok (.istore_n 2, 1) := by decide +kernel
theorem dX12_bulkOf_2 : decode cX12_bulkOf 2 = .ok (.iconst 0, 1) := by decide +kernel
theorem dX12_bulkOf_3 : decode cX12_bulkOf 3 = .ok (.istore_n 3, 1) := by decide +kernel
theorem dX12_bulkOf_4 : decode cX12_bulkOf 4 = .ok (.iload_n 3, 1) := by decide +kernel
theorem dX12_bulkOf_5 : decode cX12_bulkOf 5 = .ok (.bipush 8, 2) := by decide +kernel
theorem dX12_bulkOf_7 : decode cX12_bulkOf 7 = .ok (.if_icmp .ge 32, 3) := by decide +kernel
theorem dX12_bulkOf_10 : decode cX12_bulkOf 10 = .ok (.iload_n 2, 1) := by decide +kernel
theorem dX12_bulkOf_11 : decode cX12_bulkOf 11 = .ok (.iload_n 1, 1) := by decide +kernel
theorem dX12_bulkOf_12 : decode cX12_bulkOf 12 = .ok (.iload_n 3, 1) := by decide +kernel
theorem dX12_bulkOf_13 : decode cX12_bulkOf 13 = .ok (.invokestatic 250, 3) := by decide +kernel
theorem dX12_bulkOf_16 : decode cX12_bulkOf 16 = .ok (.ifCond .eq 14, 3) := by decide +kernel
theorem dX12_bulkOf_19 : decode cX12_bulkOf 19 = .ok (.aload_n 0, 1) := by decide +kernel
theorem dX12_bulkOf_20 : decode cX12_bulkOf 20 = .ok (.getfield 85, 3) := by decide +kernel
theorem dX12_bulkOf_23 : decode cX12_bulkOf 23 = .ok (.iconst 0, 1) := by decide +kernel
theorem dX12_bulkOf_24 : decode cX12_bulkOf 24 = .ok (.iload_n 3, 1) := by decide +kernel
theorem dX12_bulkOf_25 : decode cX12_bulkOf 25 = .ok (.iadd, 1) := by decide +kernel
theorem dX12_bulkOf_26 : decode cX12_bulkOf 26 = .ok (.iaload, 1) := by decide +kernel
theorem dX12_bulkOf_27 : decode cX12_bulkOf 27 = .ok (.goto 4, 3) := by decide +kernel
theorem dX12_bulkOf_30 : decode cX12_bulkOf 30 = .ok (.iconst 0, 1) := by decide +kernel
theorem dX12_bulkOf_31 : decode cX12_bulkOf 31 = .ok (.iadd, 1) := by decide +kernel
theorem dX12_bulkOf_32 : decode cX12_bulkOf 32 = .ok (.istore_n 2, 1) := by decide +kernel
theorem dX12_bulkOf_33 : decode cX12_bulkOf 33 = .ok (.iinc 3 1, 3) := by decide +kernel
theorem dX12_bulkOf_36 : decode cX12_bulkOf 36 = .ok (.goto (-32), 3) := by decide +kernel
theorem dX12_bulkOf_39 : decode cX12_bulkOf 39 = .ok (.iload_n 2, 1) := by decide +kernel
theorem dX12_bulkOf_40 : decode cX12_bulkOf 40 = .ok (.ireturn, 1) := by decide +kernel
theorem dX12_leftIn_0 : decode cX12_leftIn 0 = .ok (.aload_n 0, 1) := by decide +kernel
theorem dX12_leftIn_1 : decode cX12_leftIn 1 = .ok (.iload_n 1, 1) := by decide +kernel
theorem dX12_leftIn_2 : decode cX12_leftIn 2 = .ok (.invokevirtual 350, 3) := by decide +kernel
theorem dX12_leftIn_5 : decode cX12_leftIn 5 = .ok (.aload_n 0, 1) := by decide +kernel
theorem dX12_leftIn_6 : decode cX12_leftIn 6 = .ok (.aload_n 0, 1) := by decide +kernel
theorem dX12_leftIn_7 : decode cX12_leftIn 7 = .ok (.iload_n 1, 1) := by decide +kernel
theorem dX12_leftIn_8 : decode cX12_leftIn 8 = .ok (.invokevirtual 353, 3) := by decide +kernel
theorem dX12_leftIn_11 : decode cX12_leftIn 11 = .ok (.invokevirtual 356, 3) := by decide +kernel
theorem dX12_leftIn_14 : decode cX12_leftIn 14 = .ok (.isub, 1) := by decide +kernel
theorem dX12_leftIn_15 : decode cX12_leftIn 15 = .ok (.ireturn, 1) := by decide +kernel
theorem dX12_marksAll_0 : decode cX12_marksAll 0 = .ok (.iconst 0, 1) := by decide +kernel
theorem dX12_marksAll_1 : decode cX12_marksAll 1 = .ok (.istore_n 1, 1) := by decide +kernel
theorem dX12_marksAll_2 : decode cX12_marksAll 2 = .ok (.iconst 0, 1) := by decide +kernel
theorem dX12_marksAll_3 : decode cX12_marksAll 3 = .ok (.istore_n 2, 1) := by decide +kernel
theorem dX12_marksAll_4 : decode cX12_marksAll 4 = .ok (.iload_n 2, 1) := by decide +kernel
theorem dX12_marksAll_5 : decode cX12_marksAll 5 = .ok (.bipush 8, 2) := by decide +kernel
theorem dX12_marksAll_7 : decode cX12_marksAll 7 = .ok (.if_icmp .ge 32, 3) := by decide +kernel
theorem dX12_marksAll_10 : decode cX12_marksAll 10 = .ok (.aload_n 0, 1) := by decide +kernel
theorem dX12_marksAll_11 : decode cX12_marksAll 11 = .ok (.getfield 85, 3) := by decide +kernel
theorem dX12_marksAll_14 : decode cX12_marksAll 14 = .ok (.iconst 0, 1) := by decide +kernel
theorem dX12_marksAll_15 : decode cX12_marksAll 15 = .ok (.iload_n 2, 1) := by decide +kernel
theorem dX12_marksAll_16 : decode cX12_marksAll 16 = .ok (.iadd, 1) := by decide +kernel
theorem dX12_marksAll_17 : decode cX12_marksAll 17 = .ok (.iaload, 1) := by decide +kernel
theorem dX12_marksAll_18 : decode cX12_marksAll 18 = .ok (.ifCond .le 15, 3) := by decide +kernel
theorem dX12_marksAll_21 : decode cX12_marksAll 21 = .ok (.iload_n 1, 1) := by decide +kernel
theorem dX12_marksAll_22 : decode cX12_marksAll 22 = .ok (.aload_n 0, 1) := by decide +kernel
theorem dX12_marksAll_23 : decode cX12_marksAll 23 = .ok (.getfield 85, 3) := by decide +kernel
theorem dX12_marksAll_26 : decode cX12_marksAll 26 = .ok (.bipush 16, 2) := by decide +kernel
theorem dX12_marksAll_28 : decode cX12_marksAll 28 = .ok (.iload_n 2, 1) := by decide +kernel
theorem dX12_marksAll_29 : decode cX12_marksAll 29 = .ok (.iadd, 1) := by decide +kernel
theorem dX12_marksAll_30 : decode cX12_marksAll 30 = .ok (.iaload, 1) := by decide +kernel
theorem dX12_marksAll_31 : decode cX12_marksAll 31 = .ok (.ior, 1) := by decide +kernel
theorem dX12_marksAll_32 : decode cX12_marksAll 32 = .ok (.istore_n 1, 1) := by decide +kernel
theorem dX12_marksAll_33 : decode cX12_marksAll 33 = .ok (.iinc 2 1, 3) := by decide +kernel
theorem dX12_marksAll_36 : decode cX12_marksAll 36 = .ok (.goto (-32), 3) := by decide +kernel
theorem dX12_marksAll_39 : decode cX12_marksAll 39 = .ok (.iload_n 1, 1) := by decide +kernel
theorem dX12_marksAll_40 : decode cX12_marksAll 40 = .ok (.ireturn, 1) := by decide +kernel
theorem dX12_startAnew_0 : decode cX12_startAnew 0 = .ok (.iconst 0, 1) := by decide +kernel
theorem dX12_startAnew_1 : decode cX12_startAnew 1 = .ok (.istore_n 1, 1) := by decide +kernel
theorem dX12_startAnew_2 : decode cX12_startAnew 2 = .ok (.iload_n 1, 1) := by decide +kernel
theorem dX12_startAnew_3 : decode cX12_startAnew 3 = .ok (.bipush 59, 2) := by decide +kernel
theorem dX12_startAnew_5 : decode cX12_startAnew 5 = .ok (.if_icmp .ge 16, 3) := by decide +kernel
theorem dX12_startAnew_8 : decode cX12_startAnew 8 = .ok (.aload_n 0, 1) := by decide +kernel
theorem dX12_startAnew_9 : decode cX12_startAnew 9 = .ok (.getfield 85, 3) := by decide +kernel
theorem dX12_startAnew_12 : decode cX12_startAnew 12 = .ok (.iload_n 1, 1) := by decide +kernel
theorem dX12_startAnew_13 : decode cX12_startAnew 13 = .ok (.iconst 0, 1) := by decide +kernel
theorem dX12_startAnew_14 : decode cX12_startAnew 14 = .ok (.iastore, 1) := by decide +kernel
theorem dX12_startAnew_15 : decode cX12_startAnew 15 = .ok (.iinc 1 1, 3) := by decide +kernel
theorem dX12_startAnew_18 : decode cX12_startAnew 18 = .ok (.goto (-16), 3) := by decide +kernel
theorem dX12_startAnew_21 : decode cX12_startAnew 21 = .ok (.iconst 0, 1) := by decide +kernel
theorem dX12_startAnew_22 : decode cX12_startAnew 22 = .ok (.istore_n 1, 1) := by decide +kernel
theorem dX12_startAnew_23 : decode cX12_startAnew 23 = .ok (.iload_n 1, 1) := by decide +kernel
theorem dX12_startAnew_24 : decode cX12_startAnew 24 = .ok (.bipush 8, 2) := by decide +kernel
theorem dX12_startAnew_26 : decode cX12_startAnew 26 = .ok (.if_icmp .ge 14, 3) := by decide +kernel
theorem dX12_startAnew_29 : decode cX12_startAnew 29 = .ok (.aload_n 0, 1) := by decide +kernel
theorem dX12_startAnew_30 : decode cX12_startAnew 30 = .ok (.iload_n 1, 1) := by decide +kernel
theorem dX12_startAnew_31 : decode cX12_startAnew 31 = .ok (.invokevirtual 359, 3) := by decide +kernel
theorem dX12_startAnew_34 : decode cX12_startAnew 34 = .ok (.iinc 1 1, 3) := by decide +kernel
theorem dX12_startAnew_37 : decode cX12_startAnew 37 = .ok (.goto (-14), 3) := by decide +kernel
theorem dX12_startAnew_40 : decode cX12_startAnew 40 = .ok (.iconst 0, 1) := by decide +kernel
theorem dX12_startAnew_41 : decode cX12_startAnew 41 = .ok (.istore_n 1, 1) := by decide +kernel
theorem dX12_startAnew_42 : decode cX12_startAnew 42 = .ok (.iload_n 1, 1) := by decide +kernel
theorem dX12_startAnew_43 : decode cX12_startAnew 43 = .ok (.aload_n 0, 1) := by decide +kernel
theorem dX12_startAnew_44 : decode cX12_startAnew 44 = .ok (.getfield 24, 3) := by decide +kernel
theorem dX12_startAnew_47 : decode cX12_startAnew 47 = .ok (.aload_n 0, 1) := by decide +kernel
theorem dX12_startAnew_48 : decode cX12_startAnew 48 = .ok (.getfield 244, 3) := by decide +kernel
theorem dX12_startAnew_51 : decode cX12_startAnew 51 = .ok (.iaload, 1) := by decide +kernel
theorem dX12_startAnew_52 : decode cX12_startAnew 52 = .ok (.if_icmp .ge 78, 3) := by decide +kernel
theorem dX12_startAnew_55 : decode cX12_startAnew 55 = .ok (.bipush 6, 2) := by decide +kernel
theorem dX12_startAnew_57 : decode cX12_startAnew 57 = .ok (.aload_n 0, 1) := by decide +kernel
theorem dX12_startAnew_58 : decode cX12_startAnew 58 = .ok (.getfield 244, 3) := by decide +kernel
theorem dX12_startAnew_61 : decode cX12_startAnew 61 = .ok (.imul, 1) := by decide +kernel
theorem dX12_startAnew_62 : decode cX12_startAnew 62 = .ok (.iload_n 1, 1) := by decide +kernel
theorem dX12_startAnew_63 : decode cX12_startAnew 63 = .ok (.iadd, 1) := by decide +kernel
theorem dX12_startAnew_64 : decode cX12_startAnew 64 = .ok (.istore_n 2, 1) := by decide +kernel
theorem dX12_startAnew_65 : decode cX12_startAnew 65 = .ok (.aload_n 0, 1) := by decide +kernel
theorem dX12_startAnew_66 : decode cX12_startAnew 66 = .ok (.getfield 85, 3) := by decide +kernel
theorem dX12_startAnew_69 : decode cX12_startAnew 69 = .ok (.iconst 0, 1) := by decide +kernel
theorem dX12_startAnew_70 : decode cX12_startAnew 70 = .ok (.iload_n 1, 1) := by decide +kernel
theorem dX12_startAnew_71 : decode cX12_startAnew 71 = .ok (.iadd, 1) := by decide +kernel
theorem dX12_startAnew_72 : decode cX12_startAnew 72 = .ok (.aload_n 0, 1) := by decide +kernel
theorem dX12_startAnew_73 : decode cX12_startAnew 73 = .ok (.getfield 45, 3) := by decide +kernel
theorem dX12_startAnew_76 : decode cX12_startAnew 76 = .ok (.iload_n 2, 1) := by decide +kernel
theorem dX12_startAnew_77 : decode cX12_startAnew 77 = .ok (.iaload, 1) := by decide +kernel
theorem dX12_startAnew_78 : decode cX12_startAnew 78 = .ok (.iastore, 1) := by decide +kernel
theorem dX12_startAnew_79 : decode cX12_startAnew 79 = .ok (.aload_n 0, 1) := by decide +kernel
theorem dX12_startAnew_80 : decode cX12_startAnew 80 = .ok (.getfield 85, 3) := by decide +kernel
theorem dX12_startAnew_83 : decode cX12_startAnew 83 = .ok (.bipush 8, 2) := by decide +kernel
theorem dX12_startAnew_85 : decode cX12_startAnew 85 = .ok (.iload_n 1, 1) := by decide +kernel
theorem dX12_startAnew_86 : decode cX12_startAnew 86 = .ok (.iadd, 1) := by decide +kernel
theorem dX12_startAnew_87 : decode cX12_startAnew 87 = .ok (.aload_n 0, 1) := by decide +kernel
theorem dX12_startAnew_88 : decode cX12_startAnew 88 = .ok (.getfield 48, 3) := by decide +kernel
theorem dX12_startAnew_91 : decode cX12_startAnew 91 = .ok (.iload_n 2, 1) := by decide +kernel
theorem dX12_startAnew_92 : decode cX12_startAnew 92 = .ok (.iaload, 1) := by decide +kernel
theorem dX12_startAnew_93 : decode cX12_startAnew 93 = .ok (.iastore, 1) := by decide +kernel
theorem dX12_startAnew_94 : decode cX12_startAnew 94 = .ok (.aload_n 0, 1) := by decide +kernel
theorem dX12_startAnew_95 : decode cX12_startAnew 95 = .ok (.getfield 85, 3) := by decide +kernel
theorem dX12_startAnew_98 : decode cX12_startAnew 98 = .ok (.bipush 16, 2) := by decide +kernel
theorem dX12_startAnew_100 : decode cX12_startAnew 100 = .ok (.iload_n 1, 1) := by decide +kernel
theorem dX12_startAnew_101 : decode cX12_startAnew 101 = .ok (.iadd, 1) := by decide +kernel
theorem dX12_startAnew_102 : decode cX12_startAnew 102 = .ok (.aload_n 0, 1) := by decide +kernel
theorem dX12_startAnew_103 : decode cX12_startAnew 103 = .ok (.getfield 51, 3) := by decide +kernel
theorem dX12_startAnew_106 : decode cX12_startAnew 106 = .ok (.iload_n 2, 1) := by decide +kernel
theorem dX12_startAnew_107 : decode cX12_startAnew 107 = .ok (.iaload, 1) := by decide +kernel
theorem dX12_startAnew_108 : decode cX12_startAnew 108 = .ok (.iastore, 1) := by decide +kernel
theorem dX12_startAnew_109 : decode cX12_startAnew 109 = .ok (.aload_n 0, 1) := by decide +kernel
theorem dX12_startAnew_110 : decode cX12_startAnew 110 = .ok (.getfield 85, 3) := by decide +kernel
theorem dX12_startAnew_113 : decode cX12_startAnew 113 = .ok (.bipush 24, 2) := by decide +kernel
theorem dX12_startAnew_115 : decode cX12_startAnew 115 = .ok (.iload_n 1, 1) := by decide +kernel
theorem dX12_startAnew_116 : decode cX12_startAnew 116 = .ok (.iadd, 1) := by decide +kernel
theorem dX12_startAnew_117 : decode cX12_startAnew 117 = .ok (.aload_n 0, 1) := by decide +kernel
theorem dX12_startAnew_118 : decode cX12_startAnew 118 = .ok (.getfield 54, 3) := by decide +kernel
theorem dX12_startAnew_121 : decode cX12_startAnew 121 = .ok (.iload_n 2, 1) := by decide +kernel
theorem dX12_startAnew_122 : decode cX12_startAnew 122 = .ok (.iaload, 1) := by decide +kernel
theorem dX12_startAnew_123 : decode cX12_startAnew 123 = .ok (.iastore, 1) := by decide +kernel
theorem dX12_startAnew_124 : decode cX12_startAnew 124 = .ok (.iinc 1 1, 3) := by decide +kernel
theorem dX12_startAnew_127 : decode cX12_startAnew 127 = .ok (.goto (-85), 3) := by decide +kernel
theorem dX12_startAnew_130 : decode cX12_startAnew 130 = .ok (.aload_n 0, 1) := by decide +kernel
theorem dX12_startAnew_131 : decode cX12_startAnew 131 = .ok (.getfield 85, 3) := by decide +kernel
theorem dX12_startAnew_134 : decode cX12_startAnew 134 = .ok (.bipush 56, 2) := by decide +kernel
theorem dX12_startAnew_136 : decode cX12_startAnew 136 = .ok (.aload_n 0, 1) := by decide +kernel
theorem dX12_startAnew_137 : decode cX12_startAnew 137 = .ok (.getfield 33, 3) := by decide +kernel
theorem dX12_startAnew_140 : decode cX12_startAnew 140 = .ok (.aload_n 0, 1) := by decide +kernel
theorem dX12_startAnew_141 : decode cX12_startAnew 141 = .ok (.getfield 244, 3) := by decide +kernel
theorem dX12_startAnew_144 : decode cX12_startAnew 144 = .ok (.iaload, 1) := by decide +kernel
theorem dX12_startAnew_145 : decode cX12_startAnew 145 = .ok (.iastore, 1) := by decide +kernel
theorem dX12_startAnew_146 : decode cX12_startAnew 146 = .ok (.aload_n 0, 1) := by decide +kernel
theorem dX12_startAnew_147 : decode cX12_startAnew 147 = .ok (.getfield 85, 3) := by decide +kernel
theorem dX12_startAnew_150 : decode cX12_startAnew 150 = .ok (.bipush 58, 2) := by decide +kernel
theorem dX12_startAnew_152 : decode cX12_startAnew 152 = .ok (.aload_n 0, 1) := by decide +kernel
theorem dX12_startAnew_153 : decode cX12_startAnew 153 = .ok (.getfield 36, 3) := by decide +kernel
theorem dX12_startAnew_156 : decode cX12_startAnew 156 = .ok (.aload_n 0, 1) := by decide +kernel
theorem dX12_startAnew_157 : decode cX12_startAnew 157 = .ok (.getfield 244, 3) := by decide +kernel
theorem dX12_startAnew_160 : decode cX12_startAnew 160 = .ok (.iaload, 1) := by decide +kernel
theorem dX12_startAnew_161 : decode cX12_startAnew 161 = .ok (.iastore, 1) := by decide +kernel
theorem dX12_startAnew_162 : decode cX12_startAnew 162 = .ok (.aload_n 0, 1) := by decide +kernel
theorem dX12_startAnew_163 : decode cX12_startAnew 163 = .ok (.iconst 0, 1) := by decide +kernel
theorem dX12_startAnew_164 : decode cX12_startAnew 164 = .ok (.putfield 363, 3) := by decide +kernel
theorem dX12_startAnew_167 : decode cX12_startAnew 167 = .ok (.aload_n 0, 1) := by decide +kernel
theorem dX12_startAnew_168 : decode cX12_startAnew 168 = .ok (.iconst 0, 1) := by decide +kernel
theorem dX12_startAnew_169 : decode cX12_startAnew 169 = .ok (.putfield 366, 3) := by decide +kernel
theorem dX12_startAnew_172 : decode cX12_startAnew 172 = .ok (.aload_n 0, 1) := by decide +kernel
theorem dX12_startAnew_173 : decode cX12_startAnew 173 = .ok (.iconst 0, 1) := by decide +kernel
theorem dX12_startAnew_174 : decode cX12_startAnew 174 = .ok (.putfield 369, 3) := by decide +kernel
theorem dX12_startAnew_177 : decode cX12_startAnew 177 = .ok (.aload_n 0, 1) := by decide +kernel
theorem dX12_startAnew_178 : decode cX12_startAnew 178 = .ok (.iconst 0, 1) := by decide +kernel
theorem dX12_startAnew_179 : decode cX12_startAnew 179 = .ok (.putfield 372, 3) := by decide +kernel
theorem dX12_startAnew_182 : decode cX12_startAnew 182 = .ok (.iconst 0, 1) := by decide +kernel
theorem dX12_startAnew_183 : decode cX12_startAnew 183 = .ok (.istore_n 1, 1) := by decide +kernel
theorem dX12_startAnew_184 : decode cX12_startAnew 184 = .ok (.iload_n 1, 1) := by decide +kernel
theorem dX12_startAnew_185 : decode cX12_startAnew 185 = .ok (.iconst 3, 1) := by decide +kernel
theorem dX12_startAnew_186 : decode cX12_startAnew 186 = .ok (.if_icmp .ge 16, 3) := by decide +kernel
theorem dX12_startAnew_189 : decode cX12_startAnew 189 = .ok (.aload_n 0, 1) := by decide +kernel
theorem dX12_startAnew_190 : decode cX12_startAnew 190 = .ok (.getfield 125, 3) := by decide +kernel
theorem dX12_startAnew_193 : decode cX12_startAnew 193 = .ok (.iload_n 1, 1) := by decide +kernel
theorem dX12_startAnew_194 : decode cX12_startAnew 194 = .ok (.iconst 0, 1) := by decide +kernel
theorem dX12_startAnew_195 : decode cX12_startAnew 195 = .ok (.bastore, 1) := by decide +kernel
theorem dX12_startAnew_196 : decode cX12_startAnew 196 = .ok (.iinc 1 1, 3) := by decide +kernel
theorem dX12_startAnew_199 : decode cX12_startAnew 199 = .ok (.goto (-15), 3) := by decide +kernel
theorem dX12_startAnew_202 : decode cX12_startAnew 202 = .ok (.return_, 1) := by decide +kernel
theorem dX12_clearPlace_0 : decode cX12_clearPlace 0 = .ok (.aload_n 0, 1) := by decide +kernel
theorem dX12_clearPlace_1 : decode cX12_clearPlace 1 = .ok (.getfield 85, 3) := by decide +kernel
theorem dX12_clearPlace_4 : decode cX12_clearPlace 4 = .ok (.iconst 0, 1) := by decide +kernel
theorem dX12_clearPlace_5 : decode cX12_clearPlace 5 = .ok (.iload_n 1, 1) := by decide +kernel
theorem dX12_clearPlace_6 : decode cX12_clearPlace 6 = .ok (.iadd, 1) := by decide +kernel
theorem dX12_clearPlace_7 : decode cX12_clearPlace 7 = .ok (.iconst 0, 1) := by decide +kernel
theorem dX12_clearPlace_8 : decode cX12_clearPlace 8 = .ok (.iastore, 1) := by decide +kernel
theorem dX12_clearPlace_9 : decode cX12_clearPlace 9 = .ok (.aload_n 0, 1) := by decide +kernel
theorem dX12_clearPlace_10 : decode cX12_clearPlace 10 = .ok (.getfield 85, 3) := by decide +kernel
theorem dX12_clearPlace_13 : decode cX12_clearPlace 13 = .ok (.bipush 8, 2) := by decide +kernel
theorem dX12_clearPlace_15 : decode cX12_clearPlace 15 = .ok (.iload_n 1, 1) := by decide +kernel
theorem dX12_clearPlace_16 : decode cX12_clearPlace 16 = .ok (.iadd, 1) := by decide +kernel
theorem dX12_clearPlace_17 : decode cX12_clearPlace 17 = .ok (.iconst 0, 1) := by decide +kernel
theorem dX12_clearPlace_18 : decode cX12_clearPlace 18 = .ok (.iastore, 1) := by decide +kernel
theorem dX12_clearPlace_19 : decode cX12_clearPlace 19 = .ok (.aload_n 0, 1) := by decide +kernel
theorem dX12_clearPlace_20 : decode cX12_clearPlace 20 = .ok (.getfield 85, 3) := by decide +kernel
theorem dX12_clearPlace_23 : decode cX12_clearPlace 23 = .ok (.bipush 16, 2) := by decide +kernel
theorem dX12_clearPlace_25 : decode cX12_clearPlace 25 = .ok (.iload_n 1, 1) := by decide +kernel
theorem dX12_clearPlace_26 : decode cX12_clearPlace 26 = .ok (.iadd, 1) := by decide +kernel
theorem dX12_clearPlace_27 : decode cX12_clearPlace 27 = .ok (.iconst 0, 1) := by decide +kernel
theorem dX12_clearPlace_28 : decode cX12_clearPlace 28 = .ok (.iastore, 1) := by decide +kernel
theorem dX12_clearPlace_29 : decode cX12_clearPlace 29 = .ok (.aload_n 0, 1) := by decide +kernel
theorem dX12_clearPlace_30 : decode cX12_clearPlace 30 = .ok (.getfield 85, 3) := by decide +kernel
theorem dX12_clearPlace_33 : decode cX12_clearPlace 33 = .ok (.bipush 24, 2) := by decide +kernel
theorem dX12_clearPlace_35 : decode cX12_clearPlace 35 = .ok (.iload_n 1, 1) := by decide +kernel
theorem dX12_clearPlace_36 : decode cX12_clearPlace 36 = .ok (.iadd, 1) := by decide +kernel
theorem dX12_clearPlace_37 : decode cX12_clearPlace 37 = .ok (.iconst 0, 1) := by decide +kernel
theorem dX12_clearPlace_38 : decode cX12_clearPlace 38 = .ok (.iastore, 1) := by decide +kernel
theorem dX12_clearPlace_39 : decode cX12_clearPlace 39 = .ok (.aload_n 0, 1) := by decide +kernel
theorem dX12_clearPlace_40 : decode cX12_clearPlace 40 = .ok (.getfield 85, 3) := by decide +kernel
theorem dX12_clearPlace_43 : decode cX12_clearPlace 43 = .ok (.bipush 32, 2) := by decide +kernel
theorem dX12_clearPlace_45 : decode cX12_clearPlace 45 = .ok (.iload_n 1, 1) := by decide +kernel
theorem dX12_clearPlace_46 : decode cX12_clearPlace 46 = .ok (.iadd, 1) := by decide +kernel
theorem dX12_clearPlace_47 : decode cX12_clearPlace 47 = .ok (.iconst 0, 1) := by decide +kernel
theorem dX12_clearPlace_48 : decode cX12_clearPlace 48 = .ok (.iastore, 1) := by decide +kernel
theorem dX12_clearPlace_49 : decode cX12_clearPlace 49 = .ok (.aload_n 0, 1) := by decide +kernel
theorem dX12_clearPlace_50 : decode cX12_clearPlace 50 = .ok (.getfield 85, 3) := by decide +kernel
theorem dX12_clearPlace_53 : decode cX12_clearPlace 53 = .ok (.bipush 40, 2) := by decide +kernel
theorem dX12_clearPlace_55 : decode cX12_clearPlace 55 = .ok (.iload_n 1, 1) := by decide +kernel
theorem dX12_clearPlace_56 : decode cX12_clearPlace 56 = .ok (.iadd, 1) := by decide +kernel
theorem dX12_clearPlace_57 : decode cX12_clearPlace 57 = .ok (.iconst (-1), 1) := by decide +kernel
theorem dX12_clearPlace_58 : decode cX12_clearPlace 58 = .ok (.iastore, 1) := by decide +kernel
theorem dX12_clearPlace_59 : decode cX12_clearPlace 59 = .ok (.aload_n 0, 1) := by decide +kernel
theorem dX12_clearPlace_60 : decode cX12_clearPlace 60 = .ok (.getfield 85, 3) := by decide +kernel
theorem dX12_clearPlace_63 : decode cX12_clearPlace 63 = .ok (.bipush 48, 2) := by decide +kernel
theorem dX12_clearPlace_65 : decode cX12_clearPlace 65 = .ok (.iload_n 1, 1) := by decide +kernel
theorem dX12_clearPlace_66 : decode cX12_clearPlace 66 = .ok (.iadd, 1) := by decide +kernel
theorem dX12_clearPlace_67 : decode cX12_clearPlace 67 = .ok (.iconst (-1), 1) := by decide +kernel
theorem dX12_clearPlace_68 : decode cX12_clearPlace 68 = .ok (.iastore, 1) := by decide +kernel
theorem dX12_clearPlace_69 : decode cX12_clearPlace 69 = .ok (.return_, 1) := by decide +kernel
theorem dX12_loseOne_0 : decode cX12_loseOne 0 = .ok (.aload_n 0, 1) := by decide +kernel
theorem dX12_loseOne_1 : decode cX12_loseOne 1 = .ok (.iload_n 1, 1) := by decide +kernel
theorem dX12_loseOne_2 : decode cX12_loseOne 2 = .ok (.invokevirtual 359, 3) := by decide +kernel
theorem dX12_loseOne_5 : decode cX12_loseOne 5 = .ok (.iconst 0, 1) := by decide +kernel
theorem dX12_loseOne_6 : decode cX12_loseOne 6 = .ok (.istore_n 2, 1) := by decide +kernel
theorem dX12_loseOne_7 : decode cX12_loseOne 7 = .ok (.iload_n 2, 1) := by decide +kernel
theorem dX12_loseOne_8 : decode cX12_loseOne 8 = .ok (.bipush 8, 2) := by decide +kernel
theorem dX12_loseOne_10 : decode cX12_loseOne 10 = .ok (.if_icmp .ge 55, 3) := by decide +kernel
theorem dX12_loseOne_13 : decode cX12_loseOne 13 = .ok (.aload_n 0, 1) := by decide +kernel
theorem dX12_loseOne_14 : decode cX12_loseOne 14 = .ok (.getfield 85, 3) := by decide +kernel
theorem dX12_loseOne_17 : decode cX12_loseOne 17 = .ok (.bipush 40, 2) := by decide +kernel
theorem dX12_loseOne_19 : decode cX12_loseOne 19 = .ok (.iload_n 2, 1) := by decide +kernel
theorem dX12_loseOne_20 : decode cX12_loseOne 20 = .ok (.iadd, 1) := by decide +kernel
theorem dX12_loseOne_21 : decode cX12_loseOne 21 = .ok (.iaload, 1) := by decide +kernel
theorem dX12_loseOne_22 : decode cX12_loseOne 22 = .ok (.iload_n 1, 1) := by decide +kernel
theorem dX12_loseOne_23 : decode cX12_loseOne 23 = .ok (.if_icmp .ne 13, 3) := by decide +kernel
theorem dX12_loseOne_26 : decode cX12_loseOne 26 = .ok (.aload_n 0, 1) := by decide +kernel
theorem dX12_loseOne_27 : decode cX12_loseOne 27 = .ok (.getfield 85, 3) := by decide +kernel
theorem dX12_loseOne_30 : decode cX12_loseOne 30 = .ok (.bipush 40, 2) := by decide +kernel
theorem dX12_loseOne_32 : decode cX12_loseOne 32 = .ok (.iload_n 2, 1) := by decide +kernel
theorem dX12_loseOne_33 : decode cX12_loseOne 33 = .ok (.iadd, 1) := by decide +kernel
theorem dX12_loseOne_34 : decode cX12_loseOne 34 = .ok (.iconst (-1), 1) := by decide +kernel
theorem dX12_loseOne_35 : decode cX12_loseOne 35 = .ok (.iastore, 1) := by decide +kernel
theorem dX12_loseOne_36 : decode cX12_loseOne 36 = .ok (.aload_n 0, 1) := by decide +kernel
theorem dX12_loseOne_37 : decode cX12_loseOne 37 = .ok (.getfield 85, 3) := by decide +kernel
theorem dX12_loseOne_40 : decode cX12_loseOne 40 = .ok (.bipush 48, 2) := by decide +kernel
theorem dX12_loseOne_42 : decode cX12_loseOne 42 = .ok (.iload_n 2, 1) := by decide +kernel
theorem dX12_loseOne_43 : decode cX12_loseOne 43 = .ok (.iadd, 1) := by decide +kernel
theorem dX12_loseOne_44 : decode cX12_loseOne 44 = .ok (.iaload, 1) := by decide +kernel
theorem dX12_loseOne_45 : decode cX12_loseOne 45 = .ok (.iload_n 1, 1) := by decide +kernel
theorem dX12_loseOne_46 : decode cX12_loseOne 46 = .ok (.if_icmp .ne 13, 3) := by decide +kernel
theorem dX12_loseOne_49 : decode cX12_loseOne 49 = .ok (.aload_n 0, 1) := by decide +kernel
theorem dX12_loseOne_50 : decode cX12_loseOne 50 = .ok (.getfield 85, 3) := by decide +kernel
theorem dX12_loseOne_53 : decode cX12_loseOne 53 = .ok (.bipush 48, 2) := by decide +kernel
theorem dX12_loseOne_55 : decode cX12_loseOne 55 = .ok (.iload_n 2, 1) := by decide +kernel
theorem dX12_loseOne_56 : decode cX12_loseOne 56 = .ok (.iadd, 1) := by decide +kernel
theorem dX12_loseOne_57 : decode cX12_loseOne 57 = .ok (.iconst (-1), 1) := by decide +kernel
theorem dX12_loseOne_58 : decode cX12_loseOne 58 = .ok (.iastore, 1) := by decide +kernel
theorem dX12_loseOne_59 : decode cX12_loseOne 59 = .ok (.iinc 2 1, 3) := by decide +kernel
theorem dX12_loseOne_62 : decode cX12_loseOne 62 = .ok (.goto (-55), 3) := by decide +kernel
theorem dX12_loseOne_65 : decode cX12_loseOne 65 = .ok (.return_, 1) := by decide +kernel
theorem dX12_keepNow_0 : decode cX12_keepNow 0 = .ok (.iconst 0, 1) := by decide +kernel
theorem dX12_keepNow_1 : decode cX12_keepNow 1 = .ok (.istore_n 1, 1) := by decide +kernel
theorem dX12_keepNow_2 : decode cX12_keepNow 2 = .ok (.iload_n 1, 1) := by decide +kernel
theorem dX12_keepNow_3 : decode cX12_keepNow 3 = .ok (.bipush 59, 2) := by decide +kernel
theorem dX12_keepNow_5 : decode cX12_keepNow 5 = .ok (.if_icmp .ge 21, 3) := by decide +kernel
theorem dX12_keepNow_8 : decode cX12_keepNow 8 = .ok (.aload_n 0, 1) := by decide +kernel
theorem dX12_keepNow_9 : decode cX12_keepNow 9 = .ok (.getfield 88, 3) := by decide +kernel
theorem dX12_keepNow_12 : decode cX12_keepNow 12 = .ok (.iload_n 1, 1) := by decide +kernel
theorem dX12_keepNow_13 : decode cX12_keepNow 13 = .ok (.aload_n 0, 1) := by decide +kernel
theorem dX12_keepNow_14 : decode cX12_keepNow 14 = .ok (.getfield 85, 3) := by decide +kernel
theorem dX12_keepNow_17 : decode cX12_keepNow 17 = .ok (.iload_n 1, 1) := by decide +kernel
theorem dX12_keepNow_18 : decode cX12_keepNow 18 = .ok (.iaload, 1) := by decide +kernel
theorem dX12_keepNow_19 : decode cX12_keepNow 19 = .ok (.iastore, 1) := by decide +kernel
theorem dX12_keepNow_20 : decode cX12_keepNow 20 = .ok (.iinc 1 1, 3) := by decide +kernel
theorem dX12_keepNow_23 : decode cX12_keepNow 23 = .ok (.goto (-21), 3) := by decide +kernel
theorem dX12_keepNow_26 : decode cX12_keepNow 26 = .ok (.return_, 1) := by decide +kernel
theorem dX12_bringBack_0 : decode cX12_bringBack 0 = .ok (.iconst 0, 1) := by decide +kernel
theorem dX12_bringBack_1 : decode cX12_bringBack 1 = .ok (.istore_n 1, 1) := by decide +kernel
theorem dX12_bringBack_2 : decode cX12_bringBack 2 = .ok (.iload_n 1, 1) := by decide +kernel
theorem dX12_bringBack_3 : decode cX12_bringBack 3 = .ok (.bipush 59, 2) := by decide +kernel
theorem dX12_bringBack_5 : decode cX12_bringBack 5 = .ok (.if_icmp .ge 21, 3) := by decide +kernel
theorem dX12_bringBack_8 : decode cX12_bringBack 8 = .ok (.aload_n 0, 1) := by decide +kernel
theorem dX12_bringBack_9 : decode cX12_bringBack 9 = .ok (.getfield 85, 3) := by decide +kernel
theorem dX12_bringBack_12 : decode cX12_bringBack 12 = .ok (.iload_n 1, 1) := by decide +kernel
theorem dX12_bringBack_13 : decode cX12_bringBack 13 = .ok (.aload_n 0, 1) := by decide +kernel
theorem dX12_bringBack_14 : decode cX12_bringBack 14 = .ok (.getfield 88, 3) := by decide +kernel
theorem dX12_bringBack_17 : decode cX12_bringBack 17 = .ok (.iload_n 1, 1) := by decide +kernel
theorem dX12_bringBack_18 : decode cX12_bringBack 18 = .ok (.iaload, 1) := by decide +kernel
theorem dX12_bringBack_19 : decode cX12_bringBack 19 = .ok (.iastore, 1) := by decide +kernel
theorem dX12_bringBack_20 : decode cX12_bringBack 20 = .ok (.iinc 1 1, 3) := by decide +kernel
theorem dX12_bringBack_23 : decode cX12_bringBack 23 = .ok (.goto (-21), 3) := by decide +kernel
theorem dX12_bringBack_26 : decode cX12_bringBack 26 = .ok (.return_, 1) := by decide +kernel
theorem dX12_broodOf_0 : decode cX12_broodOf 0 = .ok (.aload_n 0, 1) := by decide +kernel
theorem dX12_broodOf_1 : decode cX12_broodOf 1 = .ok (.iload_n 1, 1) := by decide +kernel
theorem dX12_broodOf_2 : decode cX12_broodOf 2 = .ok (.putfield 319, 3) := by decide +kernel
theorem dX12_broodOf_5 : decode cX12_broodOf 5 = .ok (.aload_n 0, 1) := by decide +kernel
theorem dX12_broodOf_6 : decode cX12_broodOf 6 = .ok (.iload_n 2, 1) := by decide +kernel
theorem dX12_broodOf_7 : decode cX12_broodOf 7 = .ok (.putfield 322, 3) := by decide +kernel
theorem dX12_broodOf_10 : decode cX12_broodOf 10 = .ok (.aload_n 0, 1) := by decide +kernel
theorem dX12_broodOf_11 : decode cX12_broodOf 11 = .ok (.getfield 39, 3) := by decide +kernel
theorem dX12_broodOf_14 : decode cX12_broodOf 14 = .ok (.aload_n 0, 1) := by decide +kernel
theorem dX12_broodOf_15 : decode cX12_broodOf 15 = .ok (.getfield 244, 3) := by decide +kernel
theorem dX12_broodOf_18 : decode cX12_broodOf 18 = .ok (.iaload, 1) := by decide +kernel
theorem dX12_broodOf_19 : decode cX12_broodOf 19 = .ok (.iconst 0, 1) := by decide +kernel
theorem dX12_broodOf_20 : decode cX12_broodOf 20 = .ok (.invokestatic 250, 3) := by decide +kernel
theorem dX12_broodOf_23 : decode cX12_broodOf 23 = .ok (.ifCond .eq 10, 3) := by decide +kernel
theorem dX12_broodOf_26 : decode cX12_broodOf 26 = .ok (.aload_n 0, 1) := by decide +kernel
theorem dX12_broodOf_27 : decode cX12_broodOf 27 = .ok (.invokevirtual 375, 3) := by decide +kernel
theorem dX12_broodOf_30 : decode cX12_broodOf 30 = .ok (.goto 32, 3) := by decide +kernel
theorem dX12_broodOf_33 : decode cX12_broodOf 33 = .ok (.aload_n 0, 1) := by decide +kernel
theorem dX12_broodOf_34 : decode cX12_broodOf 34 = .ok (.getfield 85, 3) := by decide +kernel
theorem dX12_broodOf_37 : decode cX12_broodOf 37 = .ok (.bipush 16, 2) := by decide +kernel
theorem dX12_broodOf_39 : decode cX12_broodOf 39 = .ok (.iload_n 1, 1) := by decide +kernel
theorem dX12_broodOf_40 : decode cX12_broodOf 40 = .ok (.iadd, 1) := by decide +kernel
theorem dX12_broodOf_41 : decode cX12_broodOf 41 = .ok (.iaload, 1) := by decide +kernel
theorem dX12_broodOf_42 : decode cX12_broodOf 42 = .ok (.aload_n 0, 1) := by decide +kernel
theorem dX12_broodOf_43 : decode cX12_broodOf 43 = .ok (.getfield 85, 3) := by decide +kernel
theorem dX12_broodOf_46 : decode cX12_broodOf 46 = .ok (.bipush 16, 2) := by decide +kernel
theorem dX12_broodOf_48 : decode cX12_broodOf 48 = .ok (.iload_n 2, 1) := by decide +kernel
theorem dX12_broodOf_49 : decode cX12_broodOf 49 = .ok (.iadd, 1) := by decide +kernel
theorem dX12_broodOf_50 : decode cX12_broodOf 50 = .ok (.iaload, 1) := by decide +kernel
theorem dX12_broodOf_51 : decode cX12_broodOf 51 = .ok (.invokestatic 325, 3) := by decide +kernel
theorem dX12_broodOf_54 : decode cX12_broodOf 54 = .ok (.aload_n 0, 1) := by decide +kernel
theorem dX12_broodOf_55 : decode cX12_broodOf 55 = .ok (.invokevirtual 331, 3) := by decide +kernel
theorem dX12_broodOf_58 : decode cX12_broodOf 58 = .ok (.invokestatic 334, 3) := by decide +kernel
theorem dX12_broodOf_61 : decode cX12_broodOf 61 = .ok (.isub, 1) := by decide +kernel
theorem dX12_broodOf_62 : decode cX12_broodOf 62 = .ok (.ireturn, 1) := by decide +kernel
theorem dX12_biggestOf_0 : decode cX12_biggestOf 0 = .ok (.iconst (-1), 1) := by decide +kernel
theorem dX12_biggestOf_1 : decode cX12_biggestOf 1 = .ok (.istore_n 2, 1) := by decide +kernel
theorem dX12_biggestOf_2 : decode cX12_biggestOf 2 = .ok (.iconst 0, 1) := by decide +kernel
theorem dX12_biggestOf_3 : decode cX12_biggestOf 3 = .ok (.istore_n 3, 1) := by decide +kernel
theorem dX12_biggestOf_4 : decode cX12_biggestOf 4 = .ok (.iload_n 3, 1) := by decide +kernel
theorem dX12_biggestOf_5 : decode cX12_biggestOf 5 = .ok (.bipush 8, 2) := by decide +kernel
theorem dX12_biggestOf_7 : decode cX12_biggestOf 7 = .ok (.if_icmp .ge 42, 3) := by decide +kernel
theorem dX12_biggestOf_10 : decode cX12_biggestOf 10 = .ok (.iload_n 1, 1) := by decide +kernel
theorem dX12_biggestOf_11 : decode cX12_biggestOf 11 = .ok (.iload_n 3, 1) := by decide +kernel
theorem dX12_biggestOf_12 : decode cX12_biggestOf 12 = .ok (.invokestatic 250, 3) := by decide +kernel
theorem dX12_biggestOf_15 : decode cX12_biggestOf 15 = .ok (.ifCond .eq 28, 3) := by decide +kernel
theorem dX12_biggestOf_18 : decode cX12_biggestOf 18 = .ok (.iload_n 2, 1) := by decide +kernel
theorem dX12_biggestOf_19 : decode cX12_biggestOf 19 = .ok (.ifCond .lt 22, 3) := by decide +kernel
theorem dX12_biggestOf_22 : decode cX12_biggestOf 22 = .ok (.aload_n 0, 1) := by decide +kernel
theorem dX12_biggestOf_23 : decode cX12_biggestOf 23 = .ok (.getfield 85, 3) := by decide +kernel
theorem dX12_biggestOf_26 : decode cX12_biggestOf 26 = .ok (.iconst 0, 1) := by decide +kernel
theorem dX12_biggestOf_27 : decode cX12_biggestOf 27 = .ok (.iload_n 3, 1) := by decide +kernel
theorem dX12_biggestOf_28 : decode cX12_biggestOf 28 = .ok (.iadd, 1) := by decide +kernel
theorem dX12_biggestOf_29 : decode cX12_biggestOf 29 = .ok (.iaload, 1) := by decide +kernel
theorem dX12_biggestOf_30 : decode cX12_biggestOf 30 = .ok (.aload_n 0, 1) := by decide +kernel
theorem dX12_biggestOf_31 : decode cX12_biggestOf 31 = .ok (.getfield 85, 3) := by decide +kernel
theorem dX12_biggestOf_34 : decode cX12_biggestOf 34 = .ok (.iconst 0, 1) := by decide +kernel
theorem dX12_biggestOf_35 : decode cX12_biggestOf 35 = .ok (.iload_n 2, 1) := by decide +kernel
theorem dX12_biggestOf_36 : decode cX12_biggestOf 36 = .ok (.iadd, 1) := by decide +kernel
theorem dX12_biggestOf_37 : decode cX12_biggestOf 37 = .ok (.iaload, 1) := by decide +kernel
theorem dX12_biggestOf_38 : decode cX12_biggestOf 38 = .ok (.if_icmp .le 5, 3) := by decide +kernel
theorem dX12_biggestOf_41 : decode cX12_biggestOf 41 = .ok (.iload_n 3, 1) := by decide +kernel
theorem dX12_biggestOf_42 : decode cX12_biggestOf 42 = .ok (.istore_n 2, 1) := by decide +kernel
theorem dX12_biggestOf_43 : decode cX12_biggestOf 43 = .ok (.iinc 3 1, 3) := by decide +kernel
theorem dX12_biggestOf_46 : decode cX12_biggestOf 46 = .ok (.goto (-42), 3) := by decide +kernel
theorem dX12_biggestOf_49 : decode cX12_biggestOf 49 = .ok (.iload_n 2, 1) := by decide +kernel
theorem dX12_biggestOf_50 : decode cX12_biggestOf 50 = .ok (.ireturn, 1) := by decide +kernel
theorem dX12_coupleOf_0 : decode cX12_coupleOf 0 = .ok (.aload_n 0, 1) := by decide +kernel
theorem dX12_coupleOf_1 : decode cX12_coupleOf 1 = .ok (.iload_n 1, 1) := by decide +kernel
theorem dX12_coupleOf_2 : decode cX12_coupleOf 2 = .ok (.invokevirtual 353, 3) := by decide +kernel
theorem dX12_coupleOf_5 : decode cX12_coupleOf 5 = .ok (.istore_n 2, 1) := by decide +kernel
theorem dX12_coupleOf_6 : decode cX12_coupleOf 6 = .ok (.iconst 0, 1) := by decide +kernel
theorem dX12_coupleOf_7 : decode cX12_coupleOf 7 = .ok (.istore_n 3, 1) := by decide +kernel
theorem dX12_coupleOf_8 : decode cX12_coupleOf 8 = .ok (.iload_n 3, 1) := by decide +kernel
theorem dX12_coupleOf_9 : decode cX12_coupleOf 9 = .ok (.bipush 8, 2) := by decide +kernel
theorem dX12_coupleOf_11 : decode cX12_coupleOf 11 = .ok (.if_icmp .ge 29, 3) := by decide +kernel
theorem dX12_coupleOf_14 : decode cX12_coupleOf 14 = .ok (.aload_n 0, 1) := by decide +kernel
theorem dX12_coupleOf_15 : decode cX12_coupleOf 15 = .ok (.getfield 85, 3) := by decide +kernel
theorem dX12_coupleOf_18 : decode cX12_coupleOf 18 = .ok (.bipush 32, 2) := by decide +kernel
theorem dX12_coupleOf_20 : decode cX12_coupleOf 20 = .ok (.iload_n 3, 1) := by decide +kernel
theorem dX12_coupleOf_21 : decode cX12_coupleOf 21 = .ok (.iadd, 1) := by decide +kernel
theorem dX12_coupleOf_22 : decode cX12_coupleOf 22 = .ok (.iaload, 1) := by decide +kernel
theorem dX12_coupleOf_23 : decode cX12_coupleOf 23 = .ok (.ifCond .le 11, 3) := by decide +kernel
theorem dX12_coupleOf_26 : decode cX12_coupleOf 26 = .ok (.iload_n 2, 1) := by decide +kernel
theorem dX12_coupleOf_27 : decode cX12_coupleOf 27 = .ok (.iconst 1, 1) := by decide +kernel
theorem dX12_coupleOf_28 : decode cX12_coupleOf 28 = .ok (.iload_n 3, 1) := by decide +kernel
theorem dX12_coupleOf_29 : decode cX12_coupleOf 29 = .ok (.ishl, 1) := by decide +kernel
theorem dX12_coupleOf_30 : decode cX12_coupleOf 30 = .ok (.iconst (-1), 1) := by decide +kernel
theorem dX12_coupleOf_31 : decode cX12_coupleOf 31 = .ok (.ixor, 1) := by decide +kernel
theorem dX12_coupleOf_32 : decode cX12_coupleOf 32 = .ok (.iand, 1) := by decide +kernel
theorem dX12_coupleOf_33 : decode cX12_coupleOf 33 = .ok (.istore_n 2, 1) := by decide +kernel
theorem dX12_coupleOf_34 : decode cX12_coupleOf 34 = .ok (.iinc 3 1, 3) := by decide +kernel
theorem dX12_coupleOf_37 : decode cX12_coupleOf 37 = .ok (.goto (-29), 3) := by decide +kernel
theorem dX12_coupleOf_40 : decode cX12_coupleOf 40 = .ok (.iload_n 2, 1) := by decide +kernel
theorem dX12_coupleOf_41 : decode cX12_coupleOf 41 = .ok (.invokestatic 334, 3) := by decide +kernel
theorem dX12_coupleOf_44 : decode cX12_coupleOf 44 = .ok (.iconst 2, 1) := by decide +kernel
theorem dX12_coupleOf_45 : decode cX12_coupleOf 45 = .ok (.if_icmp .ge 5, 3) := by decide +kernel
theorem dX12_coupleOf_48 : decode cX12_coupleOf 48 = .ok (.iconst (-1), 1) := by decide +kernel
theorem dX12_coupleOf_49 : decode cX12_coupleOf 49 = .ok (.ireturn, 1) := by decide +kernel
theorem dX12_coupleOf_50 : decode cX12_coupleOf 50 = .ok (.aload_n 0, 1) := by decide +kernel
theorem dX12_coupleOf_51 : decode cX12_coupleOf 51 = .ok (.iload_n 2, 1) := by decide +kernel
theorem dX12_coupleOf_52 : decode cX12_coupleOf 52 = .ok (.invokevirtual 378, 3) := by decide +kernel
theorem dX12_coupleOf_55 : decode cX12_coupleOf 55 = .ok (.istore_n 3, 1) := by decide +kernel
theorem dX12_coupleOf_56 : decode cX12_coupleOf 56 = .ok (.bipush 8, 2) := by decide +kernel
theorem dX12_coupleOf_58 : decode cX12_coupleOf 58 = .ok (.iload_n 3, 1) := by decide +kernel
theorem dX12_coupleOf_59 : decode cX12_coupleOf 59 = .ok (.imul, 1) := by decide +kernel
theorem dX12_coupleOf_60 : decode cX12_coupleOf 60 = .ok (.aload_n 0, 1) := by decide +kernel
theorem dX12_coupleOf_61 : decode cX12_coupleOf 61 = .ok (.iload_n 2, 1) := by decide +kernel
theorem dX12_coupleOf_62 : decode cX12_coupleOf 62 = .ok (.iconst 1, 1) := by decide +kernel
theorem dX12_coupleOf_63 : decode cX12_coupleOf 63 = .ok (.iload_n 3, 1) := by decide +kernel
theorem dX12_coupleOf_64 : decode cX12_coupleOf 64 = .ok (.ishl, 1) := by decide +kernel
theorem dX12_coupleOf_65 : decode cX12_coupleOf 65 = .ok (.iconst (-1), 1) := by decide +kernel
theorem dX12_coupleOf_66 : decode cX12_coupleOf 66 = .ok (.ixor, 1) := by decide +kernel
theorem dX12_coupleOf_67 : decode cX12_coupleOf 67 = .ok (.iand, 1) := by decide +kernel
theorem dX12_coupleOf_68 : decode cX12_coupleOf 68 = .ok (.invokevirtual 378, 3) := by decide +kernel
theorem dX12_coupleOf_71 : decode cX12_coupleOf 71 = .ok (.iadd, 1) := by decide +kernel
theorem dX12_coupleOf_72 : decode cX12_coupleOf 72 = .ok (.ireturn, 1) := by decide +kernel
theorem dX12_youngOf_0 : decode cX12_youngOf 0 = .ok (.aload_n 0, 1) := by decide +kernel
theorem dX12_youngOf_1 : decode cX12_youngOf 1 = .ok (.getfield 85, 3) := by decide +kernel
theorem dX12_youngOf_4 : decode cX12_youngOf 4 = .ok (.iconst 0, 1) := by decide +kernel
theorem dX12_youngOf_5 : decode cX12_youngOf 5 = .ok (.iload_n 1, 1) := by decide +kernel
theorem dX12_youngOf_6 : decode cX12_youngOf 6 = .ok (.bipush 8, 2) := by decide +kernel
theorem dX12_youngOf_8 : decode cX12_youngOf 8 = .ok (.idiv, 1) := by decide +kernel
theorem dX12_youngOf_9 : decode cX12_youngOf 9 = .ok (.iadd, 1) := by decide +kernel
theorem dX12_youngOf_10 : decode cX12_youngOf 10 = .ok (.iaload, 1) := by decide +kernel
theorem dX12_youngOf_11 : decode cX12_youngOf 11 = .ok (.aload_n 0, 1) := by decide +kernel
theorem dX12_youngOf_12 : decode cX12_youngOf 12 = .ok (.getfield 85, 3) := by decide +kernel
theorem dX12_youngOf_15 : decode cX12_youngOf 15 = .ok (.iconst 0, 1) := by decide +kernel
theorem dX12_youngOf_16 : decode cX12_youngOf 16 = .ok (.iload_n 1, 1) := by decide +kernel
theorem dX12_youngOf_17 : decode cX12_youngOf 17 = .ok (.bipush 8, 2) := by decide +kernel
theorem dX12_youngOf_19 : decode cX12_youngOf 19 = .ok (.irem, 1) := by decide +kernel
theorem dX12_youngOf_20 : decode cX12_youngOf 20 = .ok (.iadd, 1) := by decide +kernel
theorem dX12_youngOf_21 : decode cX12_youngOf 21 = .ok (.iaload, 1) := by decide +kernel
theorem dX12_youngOf_22 : decode cX12_youngOf 22 = .ok (.iadd, 1) := by decide +kernel
theorem dX12_youngOf_23 : decode cX12_youngOf 23 = .ok (.iconst 4, 1) := by decide +kernel
theorem dX12_youngOf_24 : decode cX12_youngOf 24 = .ok (.idiv, 1) := by decide +kernel
theorem dX12_youngOf_25 : decode cX12_youngOf 25 = .ok (.istore_n 2, 1) := by decide +kernel
theorem dX12_youngOf_26 : decode cX12_youngOf 26 = .ok (.iload_n 2, 1) := by decide +kernel
theorem dX12_youngOf_27 : decode cX12_youngOf 27 = .ok (.iconst 1, 1) := by decide +kernel
theorem dX12_youngOf_28 : decode cX12_youngOf 28 = .ok (.if_icmp .ge 7, 3) := by decide +kernel
theorem dX12_youngOf_31 : decode cX12_youngOf 31 = .ok (.iconst 1, 1) := by decide +kernel
theorem dX12_youngOf_32 : decode cX12_youngOf 32 = .ok (.goto 4, 3) := by decide +kernel
theorem dX12_youngOf_35 : decode cX12_youngOf 35 = .ok (.iload_n 2, 1) := by decide +kernel
theorem dX12_youngOf_36 : decode cX12_youngOf 36 = .ok (.ireturn, 1) := by decide +kernel
theorem dX12_freePlace_0 : decode cX12_freePlace 0 = .ok (.iconst 0, 1) := by decide +kernel
theorem dX12_freePlace_1 : decode cX12_freePlace 1 = .ok (.istore_n 1, 1) := by decide +kernel
theorem dX12_freePlace_2 : decode cX12_freePlace 2 = .ok (.iload_n 1, 1) := by decide +kernel
theorem dX12_freePlace_3 : decode cX12_freePlace 3 = .ok (.bipush 8, 2) := by decide +kernel
theorem dX12_freePlace_5 : decode cX12_freePlace 5 = .ok (.if_icmp .ge 22, 3) := by decide +kernel
theorem dX12_freePlace_8 : decode cX12_freePlace 8 = .ok (.aload_n 0, 1) := by decide +kernel
theorem dX12_freePlace_9 : decode cX12_freePlace 9 = .ok (.getfield 85, 3) := by decide +kernel
theorem dX12_freePlace_12 : decode cX12_freePlace 12 = .ok (.iconst 0, 1) := by decide +kernel
theorem dX12_freePlace_13 : decode cX12_freePlace 13 = .ok (.iload_n 1, 1) := by decide +kernel
theorem dX12_freePlace_14 : decode cX12_freePlace 14 = .ok (.iadd, 1) := by decide +kernel
theorem dX12_freePlace_15 : decode cX12_freePlace 15 = .ok (.iaload, 1) := by decide +kernel
theorem dX12_freePlace_16 : decode cX12_freePlace 16 = .ok (.ifCond .ne 5, 3) := by decide +kernel
theorem dX12_freePlace_19 : decode cX12_freePlace 19 = .ok (.iload_n 1, 1) := by decide +kernel
theorem dX12_freePlace_20 : decode cX12_freePlace 20 = .ok (.ireturn, 1) := by decide +kernel
theorem dX12_freePlace_21 : decode cX12_freePlace 21 = .ok (.iinc 1 1, 3) := by decide +kernel
theorem dX12_freePlace_24 : decode cX12_freePlace 24 = .ok (.goto (-22), 3) := by decide +kernel
theorem dX12_freePlace_27 : decode cX12_freePlace 27 = .ok (.iconst (-1), 1) := by decide +kernel
theorem dX12_freePlace_28 : decode cX12_freePlace 28 = .ok (.ireturn, 1) := by decide +kernel
theorem dX12_isRipe_0 : decode cX12_isRipe 0 = .ok (.aload_n 0, 1) := by decide +kernel
theorem dX12_isRipe_1 : decode cX12_isRipe 1 = .ok (.iload_n 1, 1) := by decide +kernel
theorem dX12_isRipe_2 : decode cX12_isRipe 2 = .ok (.invokevirtual 381, 3) := by decide +kernel
theorem dX12_isRipe_5 : decode cX12_isRipe 5 = .ok (.istore_n 2, 1) := by decide +kernel
theorem dX12_isRipe_6 : decode cX12_isRipe 6 = .ok (.iload_n 2, 1) := by decide +kernel
theorem dX12_isRipe_7 : decode cX12_isRipe 7 = .ok (.ifCond .lt 42, 3) := by decide +kernel
theorem dX12_isRipe_10 : decode cX12_isRipe 10 = .ok (.aload_n 0, 1) := by decide +kernel
theorem dX12_isRipe_11 : decode cX12_isRipe 11 = .ok (.invokevirtual 384, 3) := by decide +kernel
theorem dX12_isRipe_14 : decode cX12_isRipe 14 = .ok (.ifCond .lt 35, 3) := by decide +kernel
theorem dX12_isRipe_17 : decode cX12_isRipe 17 = .ok (.aload_n 0, 1) := by decide +kernel
theorem dX12_isRipe_18 : decode cX12_isRipe 18 = .ok (.iload_n 2, 1) := by decide +kernel
theorem dX12_isRipe_19 : decode cX12_isRipe 19 = .ok (.bipush 8, 2) := by decide +kernel
theorem dX12_isRipe_21 : decode cX12_isRipe 21 = .ok (.idiv, 1) := by decide +kernel
theorem dX12_isRipe_22 : decode cX12_isRipe 22 = .ok (.iload_n 2, 1) := by decide +kernel
theorem dX12_isRipe_23 : decode cX12_isRipe 23 = .ok (.bipush 8, 2) := by decide +kernel
theorem dX12_isRipe_25 : decode cX12_isRipe 25 = .ok (.irem, 1) := by decide +kernel
theorem dX12_isRipe_26 : decode cX12_isRipe 26 = .ok (.invokevirtual 387, 3) := by decide +kernel
theorem dX12_isRipe_29 : decode cX12_isRipe 29 = .ok (.ifCond .le 20, 3) := by decide +kernel
theorem dX12_isRipe_32 : decode cX12_isRipe 32 = .ok (.aload_n 0, 1) := by decide +kernel
theorem dX12_isRipe_33 : decode cX12_isRipe 33 = .ok (.iload_n 2, 1) := by decide +kernel
theorem dX12_isRipe_34 : decode cX12_isRipe 34 = .ok (.invokevirtual 390, 3) := by decide +kernel
theorem dX12_isRipe_37 : decode cX12_isRipe 37 = .ok (.aload_n 0, 1) := by decide +kernel
theorem dX12_isRipe_38 : decode cX12_isRipe 38 = .ok (.iload_n 1, 1) := by decide +kernel
theorem dX12_isRipe_39 : decode cX12_isRipe 39 = .ok (.invokevirtual 328, 3) := by decide +kernel
theorem dX12_isRipe_42 : decode cX12_isRipe 42 = .ok (.if_icmp .gt 7, 3) := by decide +kernel
theorem dX12_isRipe_45 : decode cX12_isRipe 45 = .ok (.iconst 1, 1) := by decide +kernel
theorem dX12_isRipe_46 : decode cX12_isRipe 46 = .ok (.goto 4, 3) := by decide +kernel
theorem dX12_isRipe_49 : decode cX12_isRipe 49 = .ok (.iconst 0, 1) := by decide +kernel
theorem dX12_isRipe_50 : decode cX12_isRipe 50 = .ok (.ireturn, 1) := by decide +kernel
theorem dX12_bringForth_0 : decode cX12_bringForth 0 = .ok (.aload_n 0, 1) := by decide +kernel
theorem dX12_bringForth_1 : decode cX12_bringForth 1 = .ok (.iload_n 1, 1) := by decide +kernel
theorem dX12_bringForth_2 : decode cX12_bringForth 2 = .ok (.invokevirtual 381, 3) := by decide +kernel
theorem dX12_bringForth_5 : decode cX12_bringForth 5 = .ok (.istore_n 2, 1) := by decide +kernel
theorem dX12_bringForth_6 : decode cX12_bringForth 6 = .ok (.iload_n 2, 1) := by decide +kernel
theorem dX12_bringForth_7 : decode cX12_bringForth 7 = .ok (.bipush 8, 2) := by decide +kernel
theorem dX12_bringForth_9 : decode cX12_bringForth 9 = .ok (.idiv, 1) := by decide +kernel
theorem dX12_bringForth_10 : decode cX12_bringForth 10 = .ok (.istore_n 3, 1) := by decide +kernel
theorem dX12_bringForth_11 : decode cX12_bringForth 11 = .ok (.iload_n 2, 1) := by decide +kernel
theorem dX12_bringForth_12 : decode cX12_bringForth 12 = .ok (.bipush 8, 2) := by decide +kernel
theorem dX12_bringForth_14 : decode cX12_bringForth 14 = .ok (.irem, 1) := by decide +kernel
theorem dX12_bringForth_15 : decode cX12_bringForth 15 = .ok (.istore 4, 2) := by decide +kernel
theorem dX12_bringForth_17 : decode cX12_bringForth 17 = .ok (.aload_n 0, 1) := by decide +kernel
theorem dX12_bringForth_18 : decode cX12_bringForth 18 = .ok (.invokevirtual 384, 3) := by decide +kernel
theorem dX12_bringForth_21 : decode cX12_bringForth 21 = .ok (.istore 5, 2) := by decide +kernel
theorem dX12_bringForth_23 : decode cX12_bringForth 23 = .ok (.aload_n 0, 1) := by decide +kernel
theorem dX12_bringForth_24 : decode cX12_bringForth 24 = .ok (.getfield 85, 3) := by decide +kernel
theorem dX12_bringForth_27 : decode cX12_bringForth 27 = .ok (.bipush 58, 2) := by decide +kernel
theorem dX12_bringForth_29 : decode cX12_bringForth 29 = .ok (.sipush 137, 3) := by decide +kernel
theorem dX12_bringForth_32 : decode cX12_bringForth 32 = .ok (.aload_n 0, 1) := by decide +kernel
theorem dX12_bringForth_33 : decode cX12_bringForth 33 = .ok (.getfield 85, 3) := by decide +kernel
theorem dX12_bringForth_36 : decode cX12_bringForth 36 = .ok (.bipush 58, 2) := by decide +kernel
theorem dX12_bringForth_38 : decode cX12_bringForth 38 = .ok (.iaload, 1) := by decide +kernel
theorem dX12_bringForth_39 : decode cX12_bringForth 39 = .ok (.imul, 1) := by decide +kernel
theorem dX12_bringForth_40 : decode cX12_bringForth 40 = .ok (.bipush 71, 2) := by decide +kernel
theorem dX12_bringForth_42 : decode cX12_bringForth 42 = .ok (.iadd, 1) := by decide +kernel
theorem dX12_bringForth_43 : decode cX12_bringForth 43 = .ok (.sipush 1000, 3) := by decide +kernel
theorem dX12_bringForth_46 : decode cX12_bringForth 46 = .ok (.irem, 1) := by decide +kernel
theorem dX12_bringForth_47 : decode cX12_bringForth 47 = .ok (.iastore, 1) := by decide +kernel
theorem dX12_bringForth_48 : decode cX12_bringForth 48 = .ok (.iconst 0, 1) := by decide +kernel
theorem dX12_bringForth_49 : decode cX12_bringForth 49 = .ok (.istore 6, 2) := by decide +kernel
theorem dX12_bringForth_51 : decode cX12_bringForth 51 = .ok (.iconst 0, 1) := by decide +kernel
theorem dX12_bringForth_52 : decode cX12_bringForth 52 = .ok (.istore 7, 2) := by decide +kernel
theorem dX12_bringForth_54 : decode cX12_bringForth 54 = .ok (.iload 7, 2) := by decide +kernel
theorem dX12_bringForth_56 : decode cX12_bringForth 56 = .ok (.bipush 6, 2) := by decide +kernel
theorem dX12_bringForth_58 : decode cX12_bringForth 58 = .ok (.if_icmp .ge 48, 3) := by decide +kernel
theorem dX12_bringForth_61 : decode cX12_bringForth 61 = .ok (.iload 6, 2) := by decide +kernel
theorem dX12_bringForth_63 : decode cX12_bringForth 63 = .ok (.aload_n 0, 1) := by decide +kernel
theorem dX12_bringForth_64 : decode cX12_bringForth 64 = .ok (.getfield 85, 3) := by decide +kernel
theorem dX12_bringForth_67 : decode cX12_bringForth 67 = .ok (.bipush 16, 2) := by decide +kernel
theorem dX12_bringForth_69 : decode cX12_bringForth 69 = .ok (.aload_n 0, 1) := by decide +kernel
theorem dX12_bringForth_70 : decode cX12_bringForth 70 = .ok (.getfield 85, 3) := by decide +kernel
theorem dX12_bringForth_73 : decode cX12_bringForth 73 = .ok (.bipush 58, 2) := by decide +kernel
theorem dX12_bringForth_75 : decode cX12_bringForth 75 = .ok (.iaload, 1) := by decide +kernel
theorem dX12_bringForth_76 : decode cX12_bringForth 76 = .ok (.iload 7, 2) := by decide +kernel
theorem dX12_bringForth_78 : decode cX12_bringForth 78 = .ok (.invokestatic 250, 3) := by decide +kernel
theorem dX12_bringForth_81 : decode cX12_bringForth 81 = .ok (.ifCond .eq 7, 3) := by decide +kernel
theorem dX12_bringForth_84 : decode cX12_bringForth 84 = .ok (.iload_n 3, 1) := by decide +kernel
theorem dX12_bringForth_85 : decode cX12_bringForth 85 = .ok (.goto 5, 3) := by decide +kernel
theorem dX12_bringForth_88 : decode cX12_bringForth 88 = .ok (.iload 4, 2) := by decide +kernel
theorem dX12_bringForth_90 : decode cX12_bringForth 90 = .ok (.iadd, 1) := by decide +kernel
theorem dX12_bringForth_91 : decode cX12_bringForth 91 = .ok (.iaload, 1) := by decide +kernel
theorem dX12_bringForth_92 : decode cX12_bringForth 92 = .ok (.iconst 1, 1) := by decide +kernel
theorem dX12_bringForth_93 : decode cX12_bringForth 93 = .ok (.iload 7, 2) := by decide +kernel
theorem dX12_bringForth_95 : decode cX12_bringForth 95 = .ok (.ishl, 1) := by decide +kernel
theorem dX12_bringForth_96 : decode cX12_bringForth 96 = .ok (.iand, 1) := by decide +kernel
theorem dX12_bringForth_97 : decode cX12_bringForth 97 = .ok (.ior, 1) := by decide +kernel
theorem dX12_bringForth_98 : decode cX12_bringForth 98 = .ok (.istore 6, 2) := by decide +kernel
theorem dX12_bringForth_100 : decode cX12_bringForth 100 = .ok (.iinc 7 1, 3) := by decide +kernel
theorem dX12_bringForth_103 : decode cX12_bringForth 103 = .ok (.goto (-49), 3) := by decide +kernel
theorem dX12_bringForth_106 : decode cX12_bringForth 106 = .ok (.aload_n 0, 1) := by decide +kernel
theorem dX12_bringForth_107 : decode cX12_bringForth 107 = .ok (.iload_n 2, 1) := by decide +kernel
theorem dX12_bringForth_108 : decode cX12_bringForth 108 = .ok (.invokevirtual 390, 3) := by decide +kernel
theorem dX12_bringForth_111 : decode cX12_bringForth 111 = .ok (.istore 7, 2) := by decide +kernel
theorem dX12_bringForth_113 : decode cX12_bringForth 113 = .ok (.aload_n 0, 1) := by decide +kernel
theorem dX12_bringForth_114 : decode cX12_bringForth 114 = .ok (.getfield 85, 3) := by decide +kernel
theorem dX12_bringForth_117 : decode cX12_bringForth 117 = .ok (.iconst 0, 1) := by decide +kernel
theorem dX12_bringForth_118 : decode cX12_bringForth 118 = .ok (.iload 5, 2) := by decide +kernel
theorem dX12_bringForth_120 : decode cX12_bringForth 120 = .ok (.iadd, 1) := by decide +kernel
theorem dX12_bringForth_121 : decode cX12_bringForth 121 = .ok (.iload 7, 2) := by decide +kernel
theorem dX12_bringForth_123 : decode cX12_bringForth 123 = .ok (.iastore, 1) := by decide +kernel
theorem dX12_bringForth_124 : decode cX12_bringForth 124 = .ok (.aload_n 0, 1) := by decide +kernel
theorem dX12_bringForth_125 : decode cX12_bringForth 125 = .ok (.getfield 85, 3) := by decide +kernel
theorem dX12_bringForth_128 : decode cX12_bringForth 128 = .ok (.bipush 8, 2) := by decide +kernel
theorem dX12_bringForth_130 : decode cX12_bringForth 130 = .ok (.iload 5, 2) := by decide +kernel
theorem dX12_bringForth_132 : decode cX12_bringForth 132 = .ok (.iadd, 1) := by decide +kernel
theorem dX12_bringForth_133 : decode cX12_bringForth 133 = .ok (.iload_n 1, 1) := by decide +kernel
theorem dX12_bringForth_134 : decode cX12_bringForth 134 = .ok (.iastore, 1) := by decide +kernel
theorem dX12_bringForth_135 : decode cX12_bringForth 135 = .ok (.aload_n 0, 1) := by decide +kernel
theorem dX12_bringForth_136 : decode cX12_bringForth 136 = .ok (.getfield 85, 3) := by decide +kernel
theorem dX12_bringForth_139 : decode cX12_bringForth 139 = .ok (.bipush 16, 2) := by decide +kernel
theorem dX12_bringForth_141 : decode cX12_bringForth 141 = .ok (.iload 5, 2) := by decide +kernel
theorem dX12_bringForth_143 : decode cX12_bringForth 143 = .ok (.iadd, 1) := by decide +kernel
theorem dX12_bringForth_144 : decode cX12_bringForth 144 = .ok (.iload 6, 2) := by decide +kernel
theorem dX12_bringForth_146 : decode cX12_bringForth 146 = .ok (.iastore, 1) := by decide +kernel
theorem dX12_bringForth_147 : decode cX12_bringForth 147 = .ok (.aload_n 0, 1) := by decide +kernel
theorem dX12_bringForth_148 : decode cX12_bringForth 148 = .ok (.getfield 85, 3) := by decide +kernel
theorem dX12_bringForth_151 : decode cX12_bringForth 151 = .ok (.bipush 24, 2) := by decide +kernel
theorem dX12_bringForth_153 : decode cX12_bringForth 153 = .ok (.iload 5, 2) := by decide +kernel
theorem dX12_bringForth_155 : decode cX12_bringForth 155 = .ok (.iadd, 1) := by decide +kernel
theorem dX12_bringForth_156 : decode cX12_bringForth 156 = .ok (.iconst 0, 1) := by decide +kernel
theorem dX12_bringForth_157 : decode cX12_bringForth 157 = .ok (.iastore, 1) := by decide +kernel
theorem dX12_bringForth_158 : decode cX12_bringForth 158 = .ok (.aload_n 0, 1) := by decide +kernel
theorem dX12_bringForth_159 : decode cX12_bringForth 159 = .ok (.getfield 85, 3) := by decide +kernel
theorem dX12_bringForth_162 : decode cX12_bringForth 162 = .ok (.bipush 32, 2) := by decide +kernel
theorem dX12_bringForth_164 : decode cX12_bringForth 164 = .ok (.iload 5, 2) := by decide +kernel
theorem dX12_bringForth_166 : decode cX12_bringForth 166 = .ok (.iadd, 1) := by decide +kernel
theorem dX12_bringForth_167 : decode cX12_bringForth 167 = .ok (.iconst 0, 1) := by decide +kernel
theorem dX12_bringForth_168 : decode cX12_bringForth 168 = .ok (.iastore, 1) := by decide +kernel
theorem dX12_bringForth_169 : decode cX12_bringForth 169 = .ok (.aload_n 0, 1) := by decide +kernel
theorem dX12_bringForth_170 : decode cX12_bringForth 170 = .ok (.getfield 85, 3) := by decide +kernel
theorem dX12_bringForth_173 : decode cX12_bringForth 173 = .ok (.bipush 40, 2) := by decide +kernel
theorem dX12_bringForth_175 : decode cX12_bringForth 175 = .ok (.iload 5, 2) := by decide +kernel
theorem dX12_bringForth_177 : decode cX12_bringForth 177 = .ok (.iadd, 1) := by decide +kernel
theorem dX12_bringForth_178 : decode cX12_bringForth 178 = .ok (.iload_n 3, 1) := by decide +kernel
theorem dX12_bringForth_179 : decode cX12_bringForth 179 = .ok (.iastore, 1) := by decide +kernel
theorem dX12_bringForth_180 : decode cX12_bringForth 180 = .ok (.aload_n 0, 1) := by decide +kernel
theorem dX12_bringForth_181 : decode cX12_bringForth 181 = .ok (.getfield 85, 3) := by decide +kernel
theorem dX12_bringForth_184 : decode cX12_bringForth 184 = .ok (.bipush 48, 2) := by decide +kernel
theorem dX12_bringForth_186 : decode cX12_bringForth 186 = .ok (.iload 5, 2) := by decide +kernel
theorem dX12_bringForth_188 : decode cX12_bringForth 188 = .ok (.iadd, 1) := by decide +kernel
theorem dX12_bringForth_189 : decode cX12_bringForth 189 = .ok (.iload 4, 2) := by decide +kernel
theorem dX12_bringForth_191 : decode cX12_bringForth 191 = .ok (.iastore, 1) := by decide +kernel
theorem dX12_bringForth_192 : decode cX12_bringForth 192 = .ok (.return_, 1) := by decide +kernel
theorem dX12_listen_0 : decode cX12_listen 0 = .ok (.aload_n 0, 1) := by decide +kernel
theorem dX12_listen_1 : decode cX12_listen 1 = .ok (.getfield 85, 3) := by decide +kernel
theorem dX12_listen_4 : decode cX12_listen 4 = .ok (.bipush 24, 2) := by decide +kernel
theorem dX12_listen_6 : decode cX12_listen 6 = .ok (.iload_n 1, 1) := by decide +kernel
theorem dX12_listen_7 : decode cX12_listen 7 = .ok (.iadd, 1) := by decide +kernel
theorem dX12_listen_8 : decode cX12_listen 8 = .ok (.iaload, 1) := by decide +kernel
theorem dX12_listen_9 : decode cX12_listen 9 = .ok (.ifCond .le 27, 3) := by decide +kernel
theorem dX12_listen_12 : decode cX12_listen 12 = .ok (.aload_n 0, 1) := by decide +kernel
theorem dX12_listen_13 : decode cX12_listen 13 = .ok (.getfield 85, 3) := by decide +kernel
theorem dX12_listen_16 : decode cX12_listen 16 = .ok (.bipush 24, 2) := by decide +kernel
theorem dX12_listen_18 : decode cX12_listen 18 = .ok (.iload_n 1, 1) := by decide +kernel
theorem dX12_listen_19 : decode cX12_listen 19 = .ok (.iadd, 1) := by decide +kernel
theorem dX12_listen_20 : decode cX12_listen 20 = .ok (.dup2, 1) := by decide +kernel
theorem dX12_listen_21 : decode cX12_listen 21 = .ok (.iaload, 1) := by decide +kernel
theorem dX12_listen_22 : decode cX12_listen 22 = .ok (.iconst 1, 1) := by decide +kernel
theorem dX12_listen_23 : decode cX12_listen 23 = .ok (.isub, 1) := by decide +kernel
theorem dX12_listen_24 : decode cX12_listen 24 = .ok (.iastore, 1) := by decide +kernel
theorem dX12_listen_25 : decode cX12_listen 25 = .ok (.aload_n 0, 1) := by decide +kernel
theorem dX12_listen_26 : decode cX12_listen 26 = .ok (.getfield 85, 3) := by decide +kernel
theorem dX12_listen_29 : decode cX12_listen 29 = .ok (.bipush 32, 2) := by decide +kernel
theorem dX12_listen_31 : decode cX12_listen 31 = .ok (.iload_n 1, 1) := by decide +kernel
theorem dX12_listen_32 : decode cX12_listen 32 = .ok (.iadd, 1) := by decide +kernel
theorem dX12_listen_33 : decode cX12_listen 33 = .ok (.iconst 0, 1) := by decide +kernel
theorem dX12_listen_34 : decode cX12_listen 34 = .ok (.iastore, 1) := by decide +kernel
theorem dX12_listen_35 : decode cX12_listen 35 = .ok (.return_, 1) := by decide +kernel
theorem dX12_listen_36 : decode cX12_listen 36 = .ok (.aload_n 0, 1) := by decide +kernel
theorem dX12_listen_37 : decode cX12_listen 37 = .ok (.getfield 85, 3) := by decide +kernel
theorem dX12_listen_40 : decode cX12_listen 40 = .ok (.bipush 32, 2) := by decide +kernel
theorem dX12_listen_42 : decode cX12_listen 42 = .ok (.iload_n 1, 1) := by decide +kernel
theorem dX12_listen_43 : decode cX12_listen 43 = .ok (.iadd, 1) := by decide +kernel
theorem dX12_listen_44 : decode cX12_listen 44 = .ok (.dup2, 1) := by decide +kernel
theorem dX12_listen_45 : decode cX12_listen 45 = .ok (.iaload, 1) := by decide +kernel
theorem dX12_listen_46 : decode cX12_listen 46 = .ok (.iconst 1, 1) := by decide +kernel
theorem dX12_listen_47 : decode cX12_listen 47 = .ok (.iadd, 1) := by decide +kernel
theorem dX12_listen_48 : decode cX12_listen 48 = .ok (.iastore, 1) := by decide +kernel
theorem dX12_listen_49 : decode cX12_listen 49 = .ok (.aload_n 0, 1) := by decide +kernel
theorem dX12_listen_50 : decode cX12_listen 50 = .ok (.getfield 85, 3) := by decide +kernel
theorem dX12_listen_53 : decode cX12_listen 53 = .ok (.bipush 32, 2) := by decide +kernel
theorem dX12_listen_55 : decode cX12_listen 55 = .ok (.iload_n 1, 1) := by decide +kernel
theorem dX12_listen_56 : decode cX12_listen 56 = .ok (.iadd, 1) := by decide +kernel
theorem dX12_listen_57 : decode cX12_listen 57 = .ok (.iaload, 1) := by decide +kernel
theorem dX12_listen_58 : decode cX12_listen 58 = .ok (.aload_n 0, 1) := by decide +kernel
theorem dX12_listen_59 : decode cX12_listen 59 = .ok (.getfield 91, 3) := by decide +kernel
theorem dX12_listen_62 : decode cX12_listen 62 = .ok (.ifCond .lt 10, 3) := by decide +kernel
theorem dX12_listen_65 : decode cX12_listen 65 = .ok (.aload_n 0, 1) := by decide +kernel
theorem dX12_listen_66 : decode cX12_listen 66 = .ok (.getfield 91, 3) := by decide +kernel
theorem dX12_listen_69 : decode cX12_listen 69 = .ok (.goto 12, 3) := by decide +kernel
theorem dX12_listen_72 : decode cX12_listen 72 = .ok (.aload_n 0, 1) := by decide +kernel
theorem dX12_listen_73 : decode cX12_listen 73 = .ok (.getfield 30, 3) := by decide +kernel
theorem dX12_listen_76 : decode cX12_listen 76 = .ok (.aload_n 0, 1) := by decide +kernel
theorem dX12_listen_77 : decode cX12_listen 77 = .ok (.getfield 244, 3) := by decide +kernel
theorem dX12_listen_80 : decode cX12_listen 80 = .ok (.iaload, 1) := by decide +kernel
theorem dX12_listen_81 : decode cX12_listen 81 = .ok (.if_icmp .lt 8, 3) := by decide +kernel
theorem dX12_listen_84 : decode cX12_listen 84 = .ok (.aload_n 0, 1) := by decide +kernel
theorem dX12_listen_85 : decode cX12_listen 85 = .ok (.iload_n 1, 1) := by decide +kernel
theorem dX12_listen_86 : decode cX12_listen 86 = .ok (.invokevirtual 393, 3) := by decide +kernel
theorem dX12_listen_89 : decode cX12_listen 89 = .ok (.return_, 1) := by decide +kernel
theorem dX12_goYear_0 : decode cX12_goYear 0 = .ok (.iconst 0, 1) := by decide +kernel
theorem dX12_goYear_1 : decode cX12_goYear 1 = .ok (.istore_n 1, 1) := by decide +kernel
theorem dX12_goYear_2 : decode cX12_goYear 2 = .ok (.iload_n 1, 1) := by decide +kernel
theorem dX12_goYear_3 : decode cX12_goYear 3 = .ok (.bipush 8, 2) := by decide +kernel
theorem dX12_goYear_5 : decode cX12_goYear 5 = .ok (.if_icmp .ge 25, 3) := by decide +kernel
theorem dX12_goYear_8 : decode cX12_goYear 8 = .ok (.aload_n 0, 1) := by decide +kernel
theorem dX12_goYear_9 : decode cX12_goYear 9 = .ok (.getfield 85, 3) := by decide +kernel
theorem dX12_goYear_12 : decode cX12_goYear 12 = .ok (.iconst 0, 1) := by decide +kernel
theorem dX12_goYear_13 : decode cX12_goYear 13 = .ok (.iload_n 1, 1) := by decide +kernel
theorem dX12_goYear_14 : decode cX12_goYear 14 = .ok (.iadd, 1) := by decide +kernel
theorem dX12_goYear_15 : decode cX12_goYear 15 = .ok (.iaload, 1) := by decide +kernel
theorem dX12_goYear_16 : decode cX12_goYear 16 = .ok (.ifCond .le 8, 3) := by decide +kernel
theorem dX12_goYear_19 : decode cX12_goYear 19 = .ok (.aload_n 0, 1) := by decide +kernel
theorem dX12_goYear_20 : decode cX12_goYear 20 = .ok (.iload_n 1, 1) := by decide +kernel
theorem dX12_goYear_21 : decode cX12_goYear 21 = .ok (.invokevirtual 396, 3) := by decide +kernel
theorem dX12_goYear_24 : decode cX12_goYear 24 = .ok (.iinc 1 1, 3) := by decide +kernel
theorem dX12_goYear_27 : decode cX12_goYear 27 = .ok (.goto (-25), 3) := by decide +kernel
theorem dX12_goYear_30 : decode cX12_goYear 30 = .ok (.iconst 0, 1) := by decide +kernel
theorem dX12_goYear_31 : decode cX12_goYear 31 = .ok (.istore_n 1, 1) := by decide +kernel
theorem dX12_goYear_32 : decode cX12_goYear 32 = .ok (.iload_n 1, 1) := by decide +kernel
theorem dX12_goYear_33 : decode cX12_goYear 33 = .ok (.bipush 8, 2) := by decide +kernel
theorem dX12_goYear_35 : decode cX12_goYear 35 = .ok (.if_icmp .ge 76, 3) := by decide +kernel
theorem dX12_goYear_38 : decode cX12_goYear 38 = .ok (.aload_n 0, 1) := by decide +kernel
theorem dX12_goYear_39 : decode cX12_goYear 39 = .ok (.getfield 85, 3) := by decide +kernel
theorem dX12_goYear_42 : decode cX12_goYear 42 = .ok (.iconst 0, 1) := by decide +kernel
theorem dX12_goYear_43 : decode cX12_goYear 43 = .ok (.iload_n 1, 1) := by decide +kernel
theorem dX12_goYear_44 : decode cX12_goYear 44 = .ok (.iadd, 1) := by decide +kernel
theorem dX12_goYear_45 : decode cX12_goYear 45 = .ok (.iaload, 1) := by decide +kernel
theorem dX12_goYear_46 : decode cX12_goYear 46 = .ok (.iconst 1, 1) := by decide +kernel
theorem dX12_goYear_47 : decode cX12_goYear 47 = .ok (.bipush 19, 2) := by decide +kernel
theorem dX12_goYear_49 : decode cX12_goYear 49 = .ok (.invokestatic 346, 3) := by decide +kernel
theorem dX12_goYear_52 : decode cX12_goYear 52 = .ok (.ifCond .eq 19, 3) := by decide +kernel
theorem dX12_goYear_55 : decode cX12_goYear 55 = .ok (.aload_n 0, 1) := by decide +kernel
theorem dX12_goYear_56 : decode cX12_goYear 56 = .ok (.getfield 85, 3) := by decide +kernel
theorem dX12_goYear_59 : decode cX12_goYear 59 = .ok (.bipush 32, 2) := by decide +kernel
theorem dX12_goYear_61 : decode cX12_goYear 61 = .ok (.iload_n 1, 1) := by decide +kernel
theorem dX12_goYear_62 : decode cX12_goYear 62 = .ok (.iadd, 1) := by decide +kernel
theorem dX12_goYear_63 : decode cX12_goYear 63 = .ok (.iaload, 1) := by decide +kernel
theorem dX12_goYear_64 : decode cX12_goYear 64 = .ok (.ifCond .ne 7, 3) := by decide +kernel
theorem dX12_goYear_67 : decode cX12_goYear 67 = .ok (.iconst 1, 1) := by decide +kernel
theorem dX12_goYear_68 : decode cX12_goYear 68 = .ok (.goto 4, 3) := by decide +kernel
theorem dX12_goYear_71 : decode cX12_goYear 71 = .ok (.iconst 0, 1) := by decide +kernel
theorem dX12_goYear_72 : decode cX12_goYear 72 = .ok (.istore_n 2, 1) := by decide +kernel
theorem dX12_goYear_73 : decode cX12_goYear 73 = .ok (.iload_n 2, 1) := by decide +kernel
theorem dX12_goYear_74 : decode cX12_goYear 74 = .ok (.ifCond .eq 31, 3) := by decide +kernel
theorem dX12_goYear_77 : decode cX12_goYear 77 = .ok (.aload_n 0, 1) := by decide +kernel
theorem dX12_goYear_78 : decode cX12_goYear 78 = .ok (.aload_n 0, 1) := by decide +kernel
theorem dX12_goYear_79 : decode cX12_goYear 79 = .ok (.getfield 85, 3) := by decide +kernel
theorem dX12_goYear_82 : decode cX12_goYear 82 = .ok (.bipush 8, 2) := by decide +kernel
theorem dX12_goYear_84 : decode cX12_goYear 84 = .ok (.iload_n 1, 1) := by decide +kernel
theorem dX12_goYear_85 : decode cX12_goYear 85 = .ok (.iadd, 1) := by decide +kernel
theorem dX12_goYear_86 : decode cX12_goYear 86 = .ok (.iaload, 1) := by decide +kernel
theorem dX12_goYear_87 : decode cX12_goYear 87 = .ok (.invokevirtual 328, 3) := by decide +kernel
theorem dX12_goYear_90 : decode cX12_goYear 90 = .ok (.ifCond .le 15, 3) := by decide +kernel
theorem dX12_goYear_93 : decode cX12_goYear 93 = .ok (.aload_n 0, 1) := by decide +kernel
theorem dX12_goYear_94 : decode cX12_goYear 94 = .ok (.getfield 85, 3) := by decide +kernel
theorem dX12_goYear_97 : decode cX12_goYear 97 = .ok (.iconst 0, 1) := by decide +kernel
theorem dX12_goYear_98 : decode cX12_goYear 98 = .ok (.iload_n 1, 1) := by decide +kernel
theorem dX12_goYear_99 : decode cX12_goYear 99 = .ok (.iadd, 1) := by decide +kernel
theorem dX12_goYear_100 : decode cX12_goYear 100 = .ok (.dup2, 1) := by decide +kernel
theorem dX12_goYear_101 : decode cX12_goYear 101 = .ok (.iaload, 1) := by decide +kernel
theorem dX12_goYear_102 : decode cX12_goYear 102 = .ok (.iconst 1, 1) := by decide +kernel
theorem dX12_goYear_103 : decode cX12_goYear 103 = .ok (.iadd, 1) := by decide +kernel
theorem dX12_goYear_104 : decode cX12_goYear 104 = .ok (.iastore, 1) := by decide +kernel
theorem dX12_goYear_105 : decode cX12_goYear 105 = .ok (.iinc 1 1, 3) := by decide +kernel
theorem dX12_goYear_108 : decode cX12_goYear 108 = .ok (.goto (-76), 3) := by decide +kernel
theorem dX12_goYear_111 : decode cX12_goYear 111 = .ok (.iconst 0, 1) := by decide +kernel
theorem dX12_goYear_112 : decode cX12_goYear 112 = .ok (.istore_n 1, 1) := by decide +kernel
theorem dX12_goYear_113 : decode cX12_goYear 113 = .ok (.iconst 0, 1) := by decide +kernel
theorem dX12_goYear_114 : decode cX12_goYear 114 = .ok (.istore_n 2, 1) := by decide +kernel
theorem dX12_goYear_115 : decode cX12_goYear 115 = .ok (.iload_n 2, 1) := by decide +kernel
theorem dX12_goYear_116 : decode cX12_goYear 116 = .ok (.aload_n 0, 1) := by decide +kernel
theorem dX12_goYear_117 : decode cX12_goYear 117 = .ok (.invokevirtual 343, 3) := by decide +kernel
theorem dX12_goYear_120 : decode cX12_goYear 120 = .ok (.if_icmp .ge 34, 3) := by decide +kernel
theorem dX12_goYear_123 : decode cX12_goYear 123 = .ok (.aload_n 0, 1) := by decide +kernel
theorem dX12_goYear_124 : decode cX12_goYear 124 = .ok (.iload_n 2, 1) := by decide +kernel
theorem dX12_goYear_125 : decode cX12_goYear 125 = .ok (.invokevirtual 399, 3) := by decide +kernel
theorem dX12_goYear_128 : decode cX12_goYear 128 = .ok (.ifCond .ne 6, 3) := by decide +kernel
theorem dX12_goYear_131 : decode cX12_goYear 131 = .ok (.goto 17, 3) := by decide +kernel
theorem dX12_goYear_134 : decode cX12_goYear 134 = .ok (.iload_n 1, 1) := by decide +kernel
theorem dX12_goYear_135 : decode cX12_goYear 135 = .ok (.iconst 1, 1) := by decide +kernel
theorem dX12_goYear_136 : decode cX12_goYear 136 = .ok (.aload_n 0, 1) := by decide +kernel
theorem dX12_goYear_137 : decode cX12_goYear 137 = .ok (.invokevirtual 384, 3) := by decide +kernel
theorem dX12_goYear_140 : decode cX12_goYear 140 = .ok (.ishl, 1) := by decide +kernel
theorem dX12_goYear_141 : decode cX12_goYear 141 = .ok (.ior, 1) := by decide +kernel
theorem dX12_goYear_142 : decode cX12_goYear 142 = .ok (.istore_n 1, 1) := by decide +kernel
theorem dX12_goYear_143 : decode cX12_goYear 143 = .ok (.aload_n 0, 1) := by decide +kernel
theorem dX12_goYear_144 : decode cX12_goYear 144 = .ok (.iload_n 2, 1) := by decide +kernel
theorem dX12_goYear_145 : decode cX12_goYear 145 = .ok (.invokevirtual 402, 3) := by decide +kernel
theorem dX12_goYear_148 : decode cX12_goYear 148 = .ok (.iinc 2 1, 3) := by decide +kernel
theorem dX12_goYear_151 : decode cX12_goYear 151 = .ok (.goto (-36), 3) := by decide +kernel
theorem dX12_goYear_154 : decode cX12_goYear 154 = .ok (.aload_n 0, 1) := by decide +kernel
theorem dX12_goYear_155 : decode cX12_goYear 155 = .ok (.getfield 85, 3) := by decide +kernel
theorem dX12_goYear_158 : decode cX12_goYear 158 = .ok (.bipush 57, 2) := by decide +kernel
theorem dX12_goYear_160 : decode cX12_goYear 160 = .ok (.dup2, 1) := by decide +kernel
theorem dX12_goYear_161 : decode cX12_goYear 161 = .ok (.iaload, 1) := by decide +kernel
theorem dX12_goYear_162 : decode cX12_goYear 162 = .ok (.iconst 1, 1) := by decide +kernel
theorem dX12_goYear_163 : decode cX12_goYear 163 = .ok (.iadd, 1) := by decide +kernel
theorem dX12_goYear_164 : decode cX12_goYear 164 = .ok (.iastore, 1) := by decide +kernel
theorem dX12_goYear_165 : decode cX12_goYear 165 = .ok (.iload_n 1, 1) := by decide +kernel
theorem dX12_goYear_166 : decode cX12_goYear 166 = .ok (.ireturn, 1) := by decide +kernel
theorem dX12_goYears_0 : decode cX12_goYears 0 = .ok (.iconst 0, 1) := by decide +kernel
theorem dX12_goYears_1 : decode cX12_goYears 1 = .ok (.istore_n 2, 1) := by decide +kernel
theorem dX12_goYears_2 : decode cX12_goYears 2 = .ok (.iconst 0, 1) := by decide +kernel
theorem dX12_goYears_3 : decode cX12_goYears 3 = .ok (.istore_n 3, 1) := by decide +kernel
theorem dX12_goYears_4 : decode cX12_goYears 4 = .ok (.iload_n 3, 1) := by decide +kernel
theorem dX12_goYears_5 : decode cX12_goYears 5 = .ok (.iload_n 1, 1) := by decide +kernel
theorem dX12_goYears_6 : decode cX12_goYears 6 = .ok (.if_icmp .ge 16, 3) := by decide +kernel
theorem dX12_goYears_9 : decode cX12_goYears 9 = .ok (.iload_n 2, 1) := by decide +kernel
theorem dX12_goYears_10 : decode cX12_goYears 10 = .ok (.aload_n 0, 1) := by decide +kernel
theorem dX12_goYears_11 : decode cX12_goYears 11 = .ok (.invokevirtual 405, 3) := by decide +kernel
theorem dX12_goYears_14 : decode cX12_goYears 14 = .ok (.ior, 1) := by decide +kernel
theorem dX12_goYears_15 : decode cX12_goYears 15 = .ok (.istore_n 2, 1) := by decide +kernel
theorem dX12_goYears_16 : decode cX12_goYears 16 = .ok (.iinc 3 1, 3) := by decide +kernel
theorem dX12_goYears_19 : decode cX12_goYears 19 = .ok (.goto (-15), 3) := by decide +kernel
theorem dX12_goYears_22 : decode cX12_goYears 22 = .ok (.iload_n 2, 1) := by decide +kernel
theorem dX12_goYears_23 : decode cX12_goYears 23 = .ok (.ireturn, 1) := by decide +kernel
theorem dX12_room_0 : decode cX12_room 0 = .ok (.aload_n 0, 1) := by decide +kernel
theorem dX12_room_1 : decode cX12_room 1 = .ok (.iload_n 1, 1) := by decide +kernel
theorem dX12_room_2 : decode cX12_room 2 = .ok (.invokevirtual 408, 3) := by decide +kernel
theorem dX12_room_5 : decode cX12_room 5 = .ok (.ifCond .ne 5, 3) := by decide +kernel
theorem dX12_room_8 : decode cX12_room 8 = .ok (.iconst (-1), 1) := by decide +kernel
theorem dX12_room_9 : decode cX12_room 9 = .ok (.ireturn, 1) := by decide +kernel
theorem dX12_room_10 : decode cX12_room 10 = .ok (.iload_n 2, 1) := by decide +kernel
theorem dX12_room_11 : decode cX12_room 11 = .ok (.tableswitch 43 0 2 #[25, 31, 37], 25) := by decide +kernel
theorem dX12_room_36 : decode cX12_room 36 = .ok (.aload_n 0, 1) := by decide +kernel
theorem dX12_room_37 : decode cX12_room 37 = .ok (.iload_n 1, 1) := by decide +kernel
theorem dX12_room_38 : decode cX12_room 38 = .ok (.invokevirtual 350, 3) := by decide +kernel
theorem dX12_room_41 : decode cX12_room 41 = .ok (.ireturn, 1) := by decide +kernel
theorem dX12_room_42 : decode cX12_room 42 = .ok (.aload_n 0, 1) := by decide +kernel
theorem dX12_room_43 : decode cX12_room 43 = .ok (.iload_n 1, 1) := by decide +kernel
theorem dX12_room_44 : decode cX12_room 44 = .ok (.invokevirtual 328, 3) := by decide +kernel
theorem dX12_room_47 : decode cX12_room 47 = .ok (.ireturn, 1) := by decide +kernel
theorem dX12_room_48 : decode cX12_room 48 = .ok (.aload_n 0, 1) := by decide +kernel
theorem dX12_room_49 : decode cX12_room 49 = .ok (.iload_n 1, 1) := by decide +kernel
theorem dX12_room_50 : decode cX12_room 50 = .ok (.invokevirtual 353, 3) := by decide +kernel
theorem dX12_room_53 : decode cX12_room 53 = .ok (.ireturn, 1) := by decide +kernel
theorem dX12_room_54 : decode cX12_room 54 = .ok (.iconst (-1), 1) := by decide +kernel
theorem dX12_room_55 : decode cX12_room 55 = .ok (.ireturn, 1) := by decide +kernel
theorem dX12_trunk_0 : decode cX12_trunk 0 = .ok (.aload_n 0, 1) := by decide +kernel
theorem dX12_trunk_1 : decode cX12_trunk 1 = .ok (.iload_n 1, 1) := by decide +kernel
theorem dX12_trunk_2 : decode cX12_trunk 2 = .ok (.invokevirtual 411, 3) := by decide +kernel
theorem dX12_trunk_5 : decode cX12_trunk 5 = .ok (.ifCond .ne 6, 3) := by decide +kernel
theorem dX12_trunk_8 : decode cX12_trunk 8 = .ok (.bipush (-2), 2) := by decide +kernel
theorem dX12_trunk_10 : decode cX12_trunk 10 = .ok (.ireturn, 1) := by decide +kernel
theorem dX12_trunk_11 : decode cX12_trunk 11 = .ok (.iload_n 2, 1) := by decide +kernel
theorem dX12_trunk_12 : decode cX12_trunk 12 = .ok (.tableswitch 113 0 6 #[44, 53, 63, 73, 83, 93, 103], 44) := by decide +kernel
theorem dX12_trunk_56 : decode cX12_trunk 56 = .ok (.aload_n 0, 1) := by decide +kernel
theorem dX12_trunk_57 : decode cX12_trunk 57 = .ok (.getfield 85, 3) := by decide +kernel
theorem dX12_trunk_60 : decode cX12_trunk 60 = .ok (.iconst 0, 1) := by decide +kernel
theorem dX12_trunk_61 : decode cX12_trunk 61 = .ok (.iload_n 1, 1) := by decide +kernel
theorem dX12_trunk_62 : decode cX12_trunk 62 = .ok (.iadd, 1) := by decide +kernel
theorem dX12_trunk_63 : decode cX12_trunk 63 = .ok (.iaload, 1) := by decide +kernel
theorem dX12_trunk_64 : decode cX12_trunk 64 = .ok (.ireturn, 1) := by decide +kernel
theorem dX12_trunk_65 : decode cX12_trunk 65 = .ok (.aload_n 0, 1) := by decide +kernel
theorem dX12_trunk_66 : decode cX12_trunk 66 = .ok (.getfield 85, 3) := by decide +kernel
theorem dX12_trunk_69 : decode cX12_trunk 69 = .ok (.bipush 8, 2) := by decide +kernel
theorem dX12_trunk_71 : decode cX12_trunk 71 = .ok (.iload_n 1, 1) := by decide +kernel
theorem dX12_trunk_72 : decode cX12_trunk 72 = .ok (.iadd, 1) := by decide +kernel
theorem dX12_trunk_73 : decode cX12_trunk 73 = .ok (.iaload, 1) := by decide +kernel
theorem dX12_trunk_74 : decode cX12_trunk 74 = .ok (.ireturn, 1) := by decide +kernel
theorem dX12_trunk_75 : decode cX12_trunk 75 = .ok (.aload_n 0, 1) := by decide +kernel
theorem dX12_trunk_76 : decode cX12_trunk 76 = .ok (.getfield 85, 3) := by decide +kernel
theorem dX12_trunk_79 : decode cX12_trunk 79 = .ok (.bipush 16, 2) := by decide +kernel
theorem dX12_trunk_81 : decode cX12_trunk 81 = .ok (.iload_n 1, 1) := by decide +kernel
theorem dX12_trunk_82 : decode cX12_trunk 82 = .ok (.iadd, 1) := by decide +kernel
theorem dX12_trunk_83 : decode cX12_trunk 83 = .ok (.iaload, 1) := by decide +kernel
theorem dX12_trunk_84 : decode cX12_trunk 84 = .ok (.ireturn, 1) := by decide +kernel
theorem dX12_trunk_85 : decode cX12_trunk 85 = .ok (.aload_n 0, 1) := by decide +kernel
theorem dX12_trunk_86 : decode cX12_trunk 86 = .ok (.getfield 85, 3) := by decide +kernel
theorem dX12_trunk_89 : decode cX12_trunk 89 = .ok (.bipush 24, 2) := by decide +kernel
theorem dX12_trunk_91 : decode cX12_trunk 91 = .ok (.iload_n 1, 1) := by decide +kernel
theorem dX12_trunk_92 : decode cX12_trunk 92 = .ok (.iadd, 1) := by decide +kernel
theorem dX12_trunk_93 : decode cX12_trunk 93 = .ok (.iaload, 1) := by decide +kernel
theorem dX12_trunk_94 : decode cX12_trunk 94 = .ok (.ireturn, 1) := by decide +kernel
theorem dX12_trunk_95 : decode cX12_trunk 95 = .ok (.aload_n 0, 1) := by decide +kernel
theorem dX12_trunk_96 : decode cX12_trunk 96 = .ok (.getfield 85, 3) := by decide +kernel
theorem dX12_trunk_99 : decode cX12_trunk 99 = .ok (.bipush 32, 2) := by decide +kernel
theorem dX12_trunk_101 : decode cX12_trunk 101 = .ok (.iload_n 1, 1) := by decide +kernel
theorem dX12_trunk_102 : decode cX12_trunk 102 = .ok (.iadd, 1) := by decide +kernel
theorem dX12_trunk_103 : decode cX12_trunk 103 = .ok (.iaload, 1) := by decide +kernel
theorem dX12_trunk_104 : decode cX12_trunk 104 = .ok (.ireturn, 1) := by decide +kernel
theorem dX12_trunk_105 : decode cX12_trunk 105 = .ok (.aload_n 0, 1) := by decide +kernel
theorem dX12_trunk_106 : decode cX12_trunk 106 = .ok (.getfield 85, 3) := by decide +kernel
theorem dX12_trunk_109 : decode cX12_trunk 109 = .ok (.bipush 40, 2) := by decide +kernel
theorem dX12_trunk_111 : decode cX12_trunk 111 = .ok (.iload_n 1, 1) := by decide +kernel
theorem dX12_trunk_112 : decode cX12_trunk 112 = .ok (.iadd, 1) := by decide +kernel
theorem dX12_trunk_113 : decode cX12_trunk 113 = .ok (.iaload, 1) := by decide +kernel
theorem dX12_trunk_114 : decode cX12_trunk 114 = .ok (.ireturn, 1) := by decide +kernel
theorem dX12_trunk_115 : decode cX12_trunk 115 = .ok (.aload_n 0, 1) := by decide +kernel
theorem dX12_trunk_116 : decode cX12_trunk 116 = .ok (.getfield 85, 3) := by decide +kernel
theorem dX12_trunk_119 : decode cX12_trunk 119 = .ok (.bipush 48, 2) := by decide +kernel
theorem dX12_trunk_121 : decode cX12_trunk 121 = .ok (.iload_n 1, 1) := by decide +kernel
theorem dX12_trunk_122 : decode cX12_trunk 122 = .ok (.iadd, 1) := by decide +kernel
theorem dX12_trunk_123 : decode cX12_trunk 123 = .ok (.iaload, 1) := by decide +kernel
theorem dX12_trunk_124 : decode cX12_trunk 124 = .ok (.ireturn, 1) := by decide +kernel
theorem dX12_trunk_125 : decode cX12_trunk 125 = .ok (.bipush (-2), 2) := by decide +kernel
theorem dX12_trunk_127 : decode cX12_trunk 127 = .ok (.ireturn, 1) := by decide +kernel
theorem dX12_brood_0 : decode cX12_brood 0 = .ok (.aload_n 0, 1) := by decide +kernel
theorem dX12_brood_1 : decode cX12_brood 1 = .ok (.iload_n 1, 1) := by decide +kernel
theorem dX12_brood_2 : decode cX12_brood 2 = .ok (.invokevirtual 411, 3) := by decide +kernel
theorem dX12_brood_5 : decode cX12_brood 5 = .ok (.ifCond .eq 46, 3) := by decide +kernel
theorem dX12_brood_8 : decode cX12_brood 8 = .ok (.aload_n 0, 1) := by decide +kernel
theorem dX12_brood_9 : decode cX12_brood 9 = .ok (.iload_n 2, 1) := by decide +kernel
theorem dX12_brood_10 : decode cX12_brood 10 = .ok (.invokevirtual 411, 3) := by decide +kernel
theorem dX12_brood_13 : decode cX12_brood 13 = .ok (.ifCond .eq 38, 3) := by decide +kernel
theorem dX12_brood_16 : decode cX12_brood 16 = .ok (.iload_n 1, 1) := by decide +kernel
theorem dX12_brood_17 : decode cX12_brood 17 = .ok (.iload_n 2, 1) := by decide +kernel
theorem dX12_brood_18 : decode cX12_brood 18 = .ok (.if_icmp .eq 33, 3) := by decide +kernel
theorem dX12_brood_21 : decode cX12_brood 21 = .ok (.aload_n 0, 1) := by decide +kernel
theorem dX12_brood_22 : decode cX12_brood 22 = .ok (.getfield 85, 3) := by decide +kernel
theorem dX12_brood_25 : decode cX12_brood 25 = .ok (.bipush 8, 2) := by decide +kernel
theorem dX12_brood_27 : decode cX12_brood 27 = .ok (.iload_n 1, 1) := by decide +kernel
theorem dX12_brood_28 : decode cX12_brood 28 = .ok (.iadd, 1) := by decide +kernel
theorem dX12_brood_29 : decode cX12_brood 29 = .ok (.iaload, 1) := by decide +kernel
theorem dX12_brood_30 : decode cX12_brood 30 = .ok (.aload_n 0, 1) := by decide +kernel
theorem dX12_brood_31 : decode cX12_brood 31 = .ok (.getfield 85, 3) := by decide +kernel
theorem dX12_brood_34 : decode cX12_brood 34 = .ok (.bipush 8, 2) := by decide +kernel
theorem dX12_brood_36 : decode cX12_brood 36 = .ok (.iload_n 2, 1) := by decide +kernel
theorem dX12_brood_37 : decode cX12_brood 37 = .ok (.iadd, 1) := by decide +kernel
theorem dX12_brood_38 : decode cX12_brood 38 = .ok (.iaload, 1) := by decide +kernel
theorem dX12_brood_39 : decode cX12_brood 39 = .ok (.if_icmp .ne 12, 3) := by decide +kernel
theorem dX12_brood_42 : decode cX12_brood 42 = .ok (.aload_n 0, 1) := by decide +kernel
theorem dX12_brood_43 : decode cX12_brood 43 = .ok (.iload_n 1, 1) := by decide +kernel
theorem dX12_brood_44 : decode cX12_brood 44 = .ok (.iload_n 2, 1) := by decide +kernel
theorem dX12_brood_45 : decode cX12_brood 45 = .ok (.invokevirtual 387, 3) := by decide +kernel
theorem dX12_brood_48 : decode cX12_brood 48 = .ok (.goto 6, 3) := by decide +kernel
theorem dX12_brood_51 : decode cX12_brood 51 = .ok (.ldc_w 414, 3) := by decide +kernel
theorem dX12_brood_54 : decode cX12_brood 54 = .ok (.ireturn, 1) := by decide +kernel
theorem dX12_couple_0 : decode cX12_couple 0 = .ok (.aload_n 0, 1) := by decide +kernel
theorem dX12_couple_1 : decode cX12_couple 1 = .ok (.iload_n 1, 1) := by decide +kernel
theorem dX12_couple_2 : decode cX12_couple 2 = .ok (.invokevirtual 408, 3) := by decide +kernel
theorem dX12_couple_5 : decode cX12_couple 5 = .ok (.ifCond .eq 11, 3) := by decide +kernel
theorem dX12_couple_8 : decode cX12_couple 8 = .ok (.aload_n 0, 1) := by decide +kernel
theorem dX12_couple_9 : decode cX12_couple 9 = .ok (.iload_n 1, 1) := by decide +kernel
theorem dX12_couple_10 : decode cX12_couple 10 = .ok (.invokevirtual 381, 3) := by decide +kernel
theorem dX12_couple_13 : decode cX12_couple 13 = .ok (.goto 4, 3) := by decide +kernel
theorem dX12_couple_16 : decode cX12_couple 16 = .ok (.iconst (-1), 1) := by decide +kernel
theorem dX12_couple_17 : decode cX12_couple 17 = .ok (.ireturn, 1) := by decide +kernel
theorem dX12_ripe_0 : decode cX12_ripe 0 = .ok (.iconst 0, 1) := by decide +kernel
theorem dX12_ripe_1 : decode cX12_ripe 1 = .ok (.istore_n 1, 1) := by decide +kernel
theorem dX12_ripe_2 : decode cX12_ripe 2 = .ok (.iconst 0, 1) := by decide +kernel
theorem dX12_ripe_3 : decode cX12_ripe 3 = .ok (.istore_n 2, 1) := by decide +kernel
theorem dX12_ripe_4 : decode cX12_ripe 4 = .ok (.iload_n 2, 1) := by decide +kernel
theorem dX12_ripe_5 : decode cX12_ripe 5 = .ok (.aload_n 0, 1) := by decide +kernel
theorem dX12_ripe_6 : decode cX12_ripe 6 = .ok (.invokevirtual 343, 3) := by decide +kernel
theorem dX12_ripe_9 : decode cX12_ripe 9 = .ok (.if_icmp .ge 23, 3) := by decide +kernel
theorem dX12_ripe_12 : decode cX12_ripe 12 = .ok (.aload_n 0, 1) := by decide +kernel
theorem dX12_ripe_13 : decode cX12_ripe 13 = .ok (.iload_n 2, 1) := by decide +kernel
theorem dX12_ripe_14 : decode cX12_ripe 14 = .ok (.invokevirtual 399, 3) := by decide +kernel
theorem dX12_ripe_17 : decode cX12_ripe 17 = .ok (.ifCond .eq 9, 3) := by decide +kernel
theorem dX12_ripe_20 : decode cX12_ripe 20 = .ok (.iload_n 1, 1) := by decide +kernel
theorem dX12_ripe_21 : decode cX12_ripe 21 = .ok (.iconst 1, 1) := by decide +kernel
theorem dX12_ripe_22 : decode cX12_ripe 22 = .ok (.iload_n 2, 1) := by decide +kernel
theorem dX12_ripe_23 : decode cX12_ripe 23 = .ok (.ishl, 1) := by decide +kernel
theorem dX12_ripe_24 : decode cX12_ripe 24 = .ok (.ior, 1) := by decide +kernel
theorem dX12_ripe_25 : decode cX12_ripe 25 = .ok (.istore_n 1, 1) := by decide +kernel
theorem dX12_ripe_26 : decode cX12_ripe 26 = .ok (.iinc 2 1, 3) := by decide +kernel
theorem dX12_ripe_29 : decode cX12_ripe 29 = .ok (.goto (-25), 3) := by decide +kernel
theorem dX12_ripe_32 : decode cX12_ripe 32 = .ok (.iload_n 1, 1) := by decide +kernel
theorem dX12_ripe_33 : decode cX12_ripe 33 = .ok (.ireturn, 1) := by decide +kernel
theorem dX12_pining_0 : decode cX12_pining 0 = .ok (.iconst 0, 1) := by decide +kernel
theorem dX12_pining_1 : decode cX12_pining 1 = .ok (.istore_n 1, 1) := by decide +kernel
theorem dX12_pining_2 : decode cX12_pining 2 = .ok (.iconst 0, 1) := by decide +kernel
theorem dX12_pining_3 : decode cX12_pining 3 = .ok (.istore_n 2, 1) := by decide +kernel
theorem dX12_pining_4 : decode cX12_pining 4 = .ok (.iload_n 2, 1) := by decide +kernel
theorem dX12_pining_5 : decode cX12_pining 5 = .ok (.bipush 8, 2) := by decide +kernel
theorem dX12_pining_7 : decode cX12_pining 7 = .ok (.if_icmp .ge 27, 3) := by decide +kernel
theorem dX12_pining_10 : decode cX12_pining 10 = .ok (.aload_n 0, 1) := by decide +kernel
theorem dX12_pining_11 : decode cX12_pining 11 = .ok (.getfield 85, 3) := by decide +kernel
theorem dX12_pining_14 : decode cX12_pining 14 = .ok (.bipush 32, 2) := by decide +kernel
theorem dX12_pining_16 : decode cX12_pining 16 = .ok (.iload_n 2, 1) := by decide +kernel
theorem dX12_pining_17 : decode cX12_pining 17 = .ok (.iadd, 1) := by decide +kernel
theorem dX12_pining_18 : decode cX12_pining 18 = .ok (.iaload, 1) := by decide +kernel
theorem dX12_pining_19 : decode cX12_pining 19 = .ok (.ifCond .le 9, 3) := by decide +kernel
theorem dX12_pining_22 : decode cX12_pining 22 = .ok (.iload_n 1, 1) := by decide +kernel
theorem dX12_pining_23 : decode cX12_pining 23 = .ok (.iconst 1, 1) := by decide +kernel
theorem dX12_pining_24 : decode cX12_pining 24 = .ok (.iload_n 2, 1) := by decide +kernel
theorem dX12_pining_25 : decode cX12_pining 25 = .ok (.ishl, 1) := by decide +kernel
theorem dX12_pining_26 : decode cX12_pining 26 = .ok (.ior, 1) := by decide +kernel
theorem dX12_pining_27 : decode cX12_pining 27 = .ok (.istore_n 1, 1) := by decide +kernel
theorem dX12_pining_28 : decode cX12_pining 28 = .ok (.iinc 2 1, 3) := by decide +kernel
theorem dX12_pining_31 : decode cX12_pining 31 = .ok (.goto (-27), 3) := by decide +kernel
theorem dX12_pining_34 : decode cX12_pining 34 = .ok (.iload_n 1, 1) := by decide +kernel
theorem dX12_pining_35 : decode cX12_pining 35 = .ok (.ireturn, 1) := by decide +kernel
theorem dX12_alike_0 : decode cX12_alike 0 = .ok (.aload_n 0, 1) := by decide +kernel
theorem dX12_alike_1 : decode cX12_alike 1 = .ok (.iload_n 1, 1) := by decide +kernel
theorem dX12_alike_2 : decode cX12_alike 2 = .ok (.invokevirtual 411, 3) := by decide +kernel
theorem dX12_alike_5 : decode cX12_alike 5 = .ok (.ifCond .eq 35, 3) := by decide +kernel
theorem dX12_alike_8 : decode cX12_alike 8 = .ok (.aload_n 0, 1) := by decide +kernel
theorem dX12_alike_9 : decode cX12_alike 9 = .ok (.iload_n 2, 1) := by decide +kernel
theorem dX12_alike_10 : decode cX12_alike 10 = .ok (.invokevirtual 411, 3) := by decide +kernel
theorem dX12_alike_13 : decode cX12_alike 13 = .ok (.ifCond .eq 27, 3) := by decide +kernel
theorem dX12_alike_16 : decode cX12_alike 16 = .ok (.aload_n 0, 1) := by decide +kernel
theorem dX12_alike_17 : decode cX12_alike 17 = .ok (.getfield 85, 3) := by decide +kernel
theorem dX12_alike_20 : decode cX12_alike 20 = .ok (.bipush 16, 2) := by decide +kernel
theorem dX12_alike_22 : decode cX12_alike 22 = .ok (.iload_n 1, 1) := by decide +kernel
theorem dX12_alike_23 : decode cX12_alike 23 = .ok (.iadd, 1) := by decide +kernel
theorem dX12_alike_24 : decode cX12_alike 24 = .ok (.iaload, 1) := by decide +kernel
theorem dX12_alike_25 : decode cX12_alike 25 = .ok (.aload_n 0, 1) := by decide +kernel
theorem dX12_alike_26 : decode cX12_alike 26 = .ok (.getfield 85, 3) := by decide +kernel
theorem dX12_alike_29 : decode cX12_alike 29 = .ok (.bipush 16, 2) := by decide +kernel
theorem dX12_alike_31 : decode cX12_alike 31 = .ok (.iload_n 2, 1) := by decide +kernel
theorem dX12_alike_32 : decode cX12_alike 32 = .ok (.iadd, 1) := by decide +kernel
theorem dX12_alike_33 : decode cX12_alike 33 = .ok (.iaload, 1) := by decide +kernel
theorem dX12_alike_34 : decode cX12_alike 34 = .ok (.invokestatic 325, 3) := by decide +kernel
theorem dX12_alike_37 : decode cX12_alike 37 = .ok (.goto 4, 3) := by decide +kernel
theorem dX12_alike_40 : decode cX12_alike 40 = .ok (.iconst (-1), 1) := by decide +kernel
theorem dX12_alike_41 : decode cX12_alike 41 = .ok (.ireturn, 1) := by decide +kernel
theorem dX12_like_0 : decode cX12_like 0 = .ok (.aload_n 0, 1) := by decide +kernel
theorem dX12_like_1 : decode cX12_like 1 = .ok (.iload_n 1, 1) := by decide +kernel
theorem dX12_like_2 : decode cX12_like 2 = .ok (.invokevirtual 411, 3) := by decide +kernel
theorem dX12_like_5 : decode cX12_like 5 = .ok (.ifCond .ne 5, 3) := by decide +kernel
theorem dX12_like_8 : decode cX12_like 8 = .ok (.iconst (-1), 1) := by decide +kernel
theorem dX12_like_9 : decode cX12_like 9 = .ok (.ireturn, 1) := by decide +kernel
theorem dX12_like_10 : decode cX12_like 10 = .ok (.iconst (-1), 1) := by decide +kernel
theorem dX12_like_11 : decode cX12_like 11 = .ok (.istore_n 2, 1) := by decide +kernel
theorem dX12_like_12 : decode cX12_like 12 = .ok (.iconst 0, 1) := by decide +kernel
theorem dX12_like_13 : decode cX12_like 13 = .ok (.istore_n 3, 1) := by decide +kernel
theorem dX12_like_14 : decode cX12_like 14 = .ok (.iload_n 3, 1) := by decide +kernel
theorem dX12_like_15 : decode cX12_like 15 = .ok (.bipush 8, 2) := by decide +kernel
theorem dX12_like_17 : decode cX12_like 17 = .ok (.if_icmp .ge 43, 3) := by decide +kernel
theorem dX12_like_20 : decode cX12_like 20 = .ok (.aload_n 0, 1) := by decide +kernel
theorem dX12_like_21 : decode cX12_like 21 = .ok (.iload_n 3, 1) := by decide +kernel
theorem dX12_like_22 : decode cX12_like 22 = .ok (.invokevirtual 411, 3) := by decide +kernel
theorem dX12_like_25 : decode cX12_like 25 = .ok (.ifCond .eq 29, 3) := by decide +kernel
theorem dX12_like_28 : decode cX12_like 28 = .ok (.iload_n 3, 1) := by decide +kernel
theorem dX12_like_29 : decode cX12_like 29 = .ok (.iload_n 1, 1) := by decide +kernel
theorem dX12_like_30 : decode cX12_like 30 = .ok (.if_icmp .eq 24, 3) := by decide +kernel
theorem dX12_like_33 : decode cX12_like 33 = .ok (.iload_n 2, 1) := by decide +kernel
theorem dX12_like_34 : decode cX12_like 34 = .ok (.ifCond .lt 18, 3) := by decide +kernel
theorem dX12_like_37 : decode cX12_like 37 = .ok (.aload_n 0, 1) := by decide +kernel
theorem dX12_like_38 : decode cX12_like 38 = .ok (.iload_n 1, 1) := by decide +kernel
theorem dX12_like_39 : decode cX12_like 39 = .ok (.iload_n 3, 1) := by decide +kernel
theorem dX12_like_40 : decode cX12_like 40 = .ok (.invokevirtual 415, 3) := by decide +kernel
theorem dX12_like_43 : decode cX12_like 43 = .ok (.aload_n 0, 1) := by decide +kernel
theorem dX12_like_44 : decode cX12_like 44 = .ok (.iload_n 1, 1) := by decide +kernel
theorem dX12_like_45 : decode cX12_like 45 = .ok (.iload_n 2, 1) := by decide +kernel
theorem dX12_like_46 : decode cX12_like 46 = .ok (.invokevirtual 415, 3) := by decide +kernel
theorem dX12_like_49 : decode cX12_like 49 = .ok (.if_icmp .le 5, 3) := by decide +kernel
theorem dX12_like_52 : decode cX12_like 52 = .ok (.iload_n 3, 1) := by decide +kernel
theorem dX12_like_53 : decode cX12_like 53 = .ok (.istore_n 2, 1) := by decide +kernel
theorem dX12_like_54 : decode cX12_like 54 = .ok (.iinc 3 1, 3) := by decide +kernel
theorem dX12_like_57 : decode cX12_like 57 = .ok (.goto (-43), 3) := by decide +kernel
theorem dX12_like_60 : decode cX12_like 60 = .ok (.iload_n 2, 1) := by decide +kernel
theorem dX12_like_61 : decode cX12_like 61 = .ok (.ireturn, 1) := by decide +kernel
theorem dX12_sharesAll_0 : decode cX12_sharesAll 0 = .ok (.iconst 0, 1) := by decide +kernel
theorem dX12_sharesAll_1 : decode cX12_sharesAll 1 = .ok (.istore_n 2, 1) := by decide +kernel
theorem dX12_sharesAll_2 : decode cX12_sharesAll 2 = .ok (.iconst 0, 1) := by decide +kernel
theorem dX12_sharesAll_3 : decode cX12_sharesAll 3 = .ok (.istore_n 3, 1) := by decide +kernel
theorem dX12_sharesAll_4 : decode cX12_sharesAll 4 = .ok (.iload_n 3, 1) := by decide +kernel
theorem dX12_sharesAll_5 : decode cX12_sharesAll 5 = .ok (.bipush 8, 2) := by decide +kernel
theorem dX12_sharesAll_7 : decode cX12_sharesAll 7 = .ok (.if_icmp .ge 35, 3) := by decide +kernel
theorem dX12_sharesAll_10 : decode cX12_sharesAll 10 = .ok (.iload_n 2, 1) := by decide +kernel
theorem dX12_sharesAll_11 : decode cX12_sharesAll 11 = .ok (.iload_n 3, 1) := by decide +kernel
theorem dX12_sharesAll_12 : decode cX12_sharesAll 12 = .ok (.iload_n 1, 1) := by decide +kernel
theorem dX12_sharesAll_13 : decode cX12_sharesAll 13 = .ok (.if_icmp .eq 20, 3) := by decide +kernel
theorem dX12_sharesAll_16 : decode cX12_sharesAll 16 = .ok (.aload_n 0, 1) := by decide +kernel
theorem dX12_sharesAll_17 : decode cX12_sharesAll 17 = .ok (.iload_n 3, 1) := by decide +kernel
theorem dX12_sharesAll_18 : decode cX12_sharesAll 18 = .ok (.invokevirtual 411, 3) := by decide +kernel
theorem dX12_sharesAll_21 : decode cX12_sharesAll 21 = .ok (.ifCond .eq 12, 3) := by decide +kernel
theorem dX12_sharesAll_24 : decode cX12_sharesAll 24 = .ok (.aload_n 0, 1) := by decide +kernel
theorem dX12_sharesAll_25 : decode cX12_sharesAll 25 = .ok (.iload_n 1, 1) := by decide +kernel
theorem dX12_sharesAll_26 : decode cX12_sharesAll 26 = .ok (.iload_n 3, 1) := by decide +kernel
theorem dX12_sharesAll_27 : decode cX12_sharesAll 27 = .ok (.invokevirtual 415, 3) := by decide +kernel
theorem dX12_sharesAll_30 : decode cX12_sharesAll 30 = .ok (.goto 4, 3) := by decide +kernel
theorem dX12_sharesAll_33 : decode cX12_sharesAll 33 = .ok (.iconst 0, 1) := by decide +kernel
theorem dX12_sharesAll_34 : decode cX12_sharesAll 34 = .ok (.iadd, 1) := by decide +kernel
theorem dX12_sharesAll_35 : decode cX12_sharesAll 35 = .ok (.istore_n 2, 1) := by decide +kernel
theorem dX12_sharesAll_36 : decode cX12_sharesAll 36 = .ok (.iinc 3 1, 3) := by decide +kernel
theorem dX12_sharesAll_39 : decode cX12_sharesAll 39 = .ok (.goto (-35), 3) := by decide +kernel
theorem dX12_sharesAll_42 : decode cX12_sharesAll 42 = .ok (.iload_n 2, 1) := by decide +kernel
theorem dX12_sharesAll_43 : decode cX12_sharesAll 43 = .ok (.ireturn, 1) := by decide +kernel
theorem dX12_odd_0 : decode cX12_odd 0 = .ok (.iconst (-1), 1) := by decide +kernel
theorem dX12_odd_1 : decode cX12_odd 1 = .ok (.istore_n 1, 1) := by decide +kernel
theorem dX12_odd_2 : decode cX12_odd 2 = .ok (.iconst 0, 1) := by decide +kernel
theorem dX12_odd_3 : decode cX12_odd 3 = .ok (.istore_n 2, 1) := by decide +kernel
theorem dX12_odd_4 : decode cX12_odd 4 = .ok (.iload_n 2, 1) := by decide +kernel
theorem dX12_odd_5 : decode cX12_odd 5 = .ok (.bipush 8, 2) := by decide +kernel
theorem dX12_odd_7 : decode cX12_odd 7 = .ok (.if_icmp .ge 36, 3) := by decide +kernel
theorem dX12_odd_10 : decode cX12_odd 10 = .ok (.aload_n 0, 1) := by decide +kernel
theorem dX12_odd_11 : decode cX12_odd 11 = .ok (.iload_n 2, 1) := by decide +kernel
theorem dX12_odd_12 : decode cX12_odd 12 = .ok (.invokevirtual 411, 3) := by decide +kernel
theorem dX12_odd_15 : decode cX12_odd 15 = .ok (.ifCond .eq 22, 3) := by decide +kernel
theorem dX12_odd_18 : decode cX12_odd 18 = .ok (.iload_n 1, 1) := by decide +kernel
theorem dX12_odd_19 : decode cX12_odd 19 = .ok (.ifCond .lt 16, 3) := by decide +kernel
theorem dX12_odd_22 : decode cX12_odd 22 = .ok (.aload_n 0, 1) := by decide +kernel
theorem dX12_odd_23 : decode cX12_odd 23 = .ok (.iload_n 2, 1) := by decide +kernel
theorem dX12_odd_24 : decode cX12_odd 24 = .ok (.invokevirtual 418, 3) := by decide +kernel
theorem dX12_odd_27 : decode cX12_odd 27 = .ok (.aload_n 0, 1) := by decide +kernel
theorem dX12_odd_28 : decode cX12_odd 28 = .ok (.iload_n 1, 1) := by decide +kernel
theorem dX12_odd_29 : decode cX12_odd 29 = .ok (.invokevirtual 418, 3) := by decide +kernel
theorem dX12_odd_32 : decode cX12_odd 32 = .ok (.if_icmp .ge 5, 3) := by decide +kernel
theorem dX12_odd_35 : decode cX12_odd 35 = .ok (.iload_n 2, 1) := by decide +kernel
theorem dX12_odd_36 : decode cX12_odd 36 = .ok (.istore_n 1, 1) := by decide +kernel
theorem dX12_odd_37 : decode cX12_odd 37 = .ok (.iinc 2 1, 3) := by decide +kernel
theorem dX12_odd_40 : decode cX12_odd 40 = .ok (.goto (-36), 3) := by decide +kernel
theorem dX12_odd_43 : decode cX12_odd 43 = .ok (.iload_n 1, 1) := by decide +kernel
theorem dX12_odd_44 : decode cX12_odd 44 = .ok (.ireturn, 1) := by decide +kernel
theorem dX12_bearers_0 : decode cX12_bearers 0 = .ok (.iload_n 1, 1) := by decide +kernel
theorem dX12_bearers_1 : decode cX12_bearers 1 = .ok (.iconst 0, 1) := by decide +kernel
theorem dX12_bearers_2 : decode cX12_bearers 2 = .ok (.iconst 5, 1) := by decide +kernel
theorem dX12_bearers_3 : decode cX12_bearers 3 = .ok (.invokestatic 346, 3) := by decide +kernel
theorem dX12_bearers_6 : decode cX12_bearers 6 = .ok (.ifCond .ne 5, 3) := by decide +kernel
theorem dX12_bearers_9 : decode cX12_bearers 9 = .ok (.iconst (-1), 1) := by decide +kernel
theorem dX12_bearers_10 : decode cX12_bearers 10 = .ok (.ireturn, 1) := by decide +kernel
theorem dX12_bearers_11 : decode cX12_bearers 11 = .ok (.iconst 0, 1) := by decide +kernel
theorem dX12_bearers_12 : decode cX12_bearers 12 = .ok (.istore_n 2, 1) := by decide +kernel
theorem dX12_bearers_13 : decode cX12_bearers 13 = .ok (.iconst 0, 1) := by decide +kernel
theorem dX12_bearers_14 : decode cX12_bearers 14 = .ok (.istore_n 3, 1) := by decide +kernel
theorem dX12_bearers_15 : decode cX12_bearers 15 = .ok (.iload_n 3, 1) := by decide +kernel
theorem dX12_bearers_16 : decode cX12_bearers 16 = .ok (.bipush 8, 2) := by decide +kernel
theorem dX12_bearers_18 : decode cX12_bearers 18 = .ok (.if_icmp .ge 37, 3) := by decide +kernel
theorem dX12_bearers_21 : decode cX12_bearers 21 = .ok (.iload_n 2, 1) := by decide +kernel
theorem dX12_bearers_22 : decode cX12_bearers 22 = .ok (.aload_n 0, 1) := by decide +kernel
theorem dX12_bearers_23 : decode cX12_bearers 23 = .ok (.iload_n 3, 1) := by decide +kernel
theorem dX12_bearers_24 : decode cX12_bearers 24 = .ok (.invokevirtual 411, 3) := by decide +kernel
theorem dX12_bearers_27 : decode cX12_bearers 27 = .ok (.ifCond .eq 19, 3) := by decide +kernel
theorem dX12_bearers_30 : decode cX12_bearers 30 = .ok (.aload_n 0, 1) := by decide +kernel
theorem dX12_bearers_31 : decode cX12_bearers 31 = .ok (.getfield 85, 3) := by decide +kernel
theorem dX12_bearers_34 : decode cX12_bearers 34 = .ok (.bipush 16, 2) := by decide +kernel
theorem dX12_bearers_36 : decode cX12_bearers 36 = .ok (.iload_n 3, 1) := by decide +kernel
theorem dX12_bearers_37 : decode cX12_bearers 37 = .ok (.iadd, 1) := by decide +kernel
theorem dX12_bearers_38 : decode cX12_bearers 38 = .ok (.iaload, 1) := by decide +kernel
theorem dX12_bearers_39 : decode cX12_bearers 39 = .ok (.iload_n 1, 1) := by decide +kernel
theorem dX12_bearers_40 : decode cX12_bearers 40 = .ok (.ishr, 1) := by decide +kernel
theorem dX12_bearers_41 : decode cX12_bearers 41 = .ok (.iconst 1, 1) := by decide +kernel
theorem dX12_bearers_42 : decode cX12_bearers 42 = .ok (.iand, 1) := by decide +kernel
theorem dX12_bearers_43 : decode cX12_bearers 43 = .ok (.goto 4, 3) := by decide +kernel
theorem dX12_bearers_46 : decode cX12_bearers 46 = .ok (.iconst 0, 1) := by decide +kernel
theorem dX12_bearers_47 : decode cX12_bearers 47 = .ok (.iadd, 1) := by decide +kernel
theorem dX12_bearers_48 : decode cX12_bearers 48 = .ok (.istore_n 2, 1) := by decide +kernel
theorem dX12_bearers_49 : decode cX12_bearers 49 = .ok (.iinc 3 1, 3) := by decide +kernel
theorem dX12_bearers_52 : decode cX12_bearers 52 = .ok (.goto (-37), 3) := by decide +kernel
theorem dX12_bearers_55 : decode cX12_bearers 55 = .ok (.iload_n 2, 1) := by decide +kernel
theorem dX12_bearers_56 : decode cX12_bearers 56 = .ok (.ireturn, 1) := by decide +kernel
theorem dX12_roomiest_0 : decode cX12_roomiest 0 = .ok (.iconst (-1), 1) := by decide +kernel
theorem dX12_roomiest_1 : decode cX12_roomiest 1 = .ok (.istore_n 1, 1) := by decide +kernel
theorem dX12_roomiest_2 : decode cX12_roomiest 2 = .ok (.iconst 0, 1) := by decide +kernel
theorem dX12_roomiest_3 : decode cX12_roomiest 3 = .ok (.istore_n 2, 1) := by decide +kernel
theorem dX12_roomiest_4 : decode cX12_roomiest 4 = .ok (.iload_n 2, 1) := by decide +kernel
theorem dX12_roomiest_5 : decode cX12_roomiest 5 = .ok (.aload_n 0, 1) := by decide +kernel
theorem dX12_roomiest_6 : decode cX12_roomiest 6 = .ok (.invokevirtual 343, 3) := by decide +kernel
theorem dX12_roomiest_9 : decode cX12_roomiest 9 = .ok (.if_icmp .ge 28, 3) := by decide +kernel
theorem dX12_roomiest_12 : decode cX12_roomiest 12 = .ok (.iload_n 1, 1) := by decide +kernel
theorem dX12_roomiest_13 : decode cX12_roomiest 13 = .ok (.ifCond .lt 16, 3) := by decide +kernel
theorem dX12_roomiest_16 : decode cX12_roomiest 16 = .ok (.aload_n 0, 1) := by decide +kernel
theorem dX12_roomiest_17 : decode cX12_roomiest 17 = .ok (.iload_n 2, 1) := by decide +kernel
theorem dX12_roomiest_18 : decode cX12_roomiest 18 = .ok (.invokevirtual 328, 3) := by decide +kernel
theorem dX12_roomiest_21 : decode cX12_roomiest 21 = .ok (.aload_n 0, 1) := by decide +kernel
theorem dX12_roomiest_22 : decode cX12_roomiest 22 = .ok (.iload_n 1, 1) := by decide +kernel
theorem dX12_roomiest_23 : decode cX12_roomiest 23 = .ok (.invokevirtual 328, 3) := by decide +kernel
theorem dX12_roomiest_26 : decode cX12_roomiest 26 = .ok (.if_icmp .le 5, 3) := by decide +kernel
theorem dX12_roomiest_29 : decode cX12_roomiest 29 = .ok (.iload_n 2, 1) := by decide +kernel
theorem dX12_roomiest_30 : decode cX12_roomiest 30 = .ok (.istore_n 1, 1) := by decide +kernel
theorem dX12_roomiest_31 : decode cX12_roomiest 31 = .ok (.iinc 2 1, 3) := by decide +kernel
theorem dX12_roomiest_34 : decode cX12_roomiest 34 = .ok (.goto (-30), 3) := by decide +kernel
theorem dX12_roomiest_37 : decode cX12_roomiest 37 = .ok (.iload_n 1, 1) := by decide +kernel
theorem dX12_roomiest_38 : decode cX12_roomiest 38 = .ok (.ireturn, 1) := by decide +kernel
theorem dX12_keepAct_0 : decode cX12_keepAct 0 = .ok (.aload_n 0, 1) := by decide +kernel
theorem dX12_keepAct_1 : decode cX12_keepAct 1 = .ok (.getfield 363, 3) := by decide +kernel
theorem dX12_keepAct_4 : decode cX12_keepAct 4 = .ok (.bipush 40, 2) := by decide +kernel
theorem dX12_keepAct_6 : decode cX12_keepAct 6 = .ok (.if_icmp .ne 43, 3) := by decide +kernel
theorem dX12_keepAct_9 : decode cX12_keepAct 9 = .ok (.iconst 0, 1) := by decide +kernel
theorem dX12_keepAct_10 : decode cX12_keepAct 10 = .ok (.istore_n 1, 1) := by decide +kernel
theorem dX12_keepAct_11 : decode cX12_keepAct 11 = .ok (.iload_n 1, 1) := by decide +kernel
theorem dX12_keepAct_12 : decode cX12_keepAct 12 = .ok (.sipush 2360, 3) := by decide +kernel
theorem dX12_keepAct_15 : decode cX12_keepAct 15 = .ok (.if_icmp .ge 24, 3) := by decide +kernel
theorem dX12_keepAct_18 : decode cX12_keepAct 18 = .ok (.aload_n 0, 1) := by decide +kernel
theorem dX12_keepAct_19 : decode cX12_keepAct 19 = .ok (.getfield 94, 3) := by decide +kernel
theorem dX12_keepAct_22 : decode cX12_keepAct 22 = .ok (.iload_n 1, 1) := by decide +kernel
theorem dX12_keepAct_23 : decode cX12_keepAct 23 = .ok (.aload_n 0, 1) := by decide +kernel
theorem dX12_keepAct_24 : decode cX12_keepAct 24 = .ok (.getfield 94, 3) := by decide +kernel
theorem dX12_keepAct_27 : decode cX12_keepAct 27 = .ok (.iload_n 1, 1) := by decide +kernel
theorem dX12_keepAct_28 : decode cX12_keepAct 28 = .ok (.bipush 59, 2) := by decide +kernel
theorem dX12_keepAct_30 : decode cX12_keepAct 30 = .ok (.iadd, 1) := by decide +kernel
theorem dX12_keepAct_31 : decode cX12_keepAct 31 = .ok (.iaload, 1) := by decide +kernel
theorem dX12_keepAct_32 : decode cX12_keepAct 32 = .ok (.iastore, 1) := by decide +kernel
theorem dX12_keepAct_33 : decode cX12_keepAct 33 = .ok (.iinc 1 1, 3) := by decide +kernel
theorem dX12_keepAct_36 : decode cX12_keepAct 36 = .ok (.goto (-25), 3) := by decide +kernel
theorem dX12_keepAct_39 : decode cX12_keepAct 39 = .ok (.aload_n 0, 1) := by decide +kernel
theorem dX12_keepAct_40 : decode cX12_keepAct 40 = .ok (.dup, 1) := by decide +kernel
theorem dX12_keepAct_41 : decode cX12_keepAct 41 = .ok (.getfield 363, 3) := by decide +kernel
theorem dX12_keepAct_44 : decode cX12_keepAct 44 = .ok (.iconst 1, 1) := by decide +kernel
theorem dX12_keepAct_45 : decode cX12_keepAct 45 = .ok (.isub, 1) := by decide +kernel
theorem dX12_keepAct_46 : decode cX12_keepAct 46 = .ok (.putfield 363, 3) := by decide +kernel
theorem dX12_keepAct_49 : decode cX12_keepAct 49 = .ok (.iconst 0, 1) := by decide +kernel
theorem dX12_keepAct_50 : decode cX12_keepAct 50 = .ok (.istore_n 1, 1) := by decide +kernel
theorem dX12_keepAct_51 : decode cX12_keepAct 51 = .ok (.iload_n 1, 1) := by decide +kernel
theorem dX12_keepAct_52 : decode cX12_keepAct 52 = .ok (.bipush 59, 2) := by decide +kernel
theorem dX12_keepAct_54 : decode cX12_keepAct 54 = .ok (.if_icmp .ge 29, 3) := by decide +kernel
theorem dX12_keepAct_57 : decode cX12_keepAct 57 = .ok (.aload_n 0, 1) := by decide +kernel
theorem dX12_keepAct_58 : decode cX12_keepAct 58 = .ok (.getfield 94, 3) := by decide +kernel
theorem dX12_keepAct_61 : decode cX12_keepAct 61 = .ok (.bipush 59, 2) := by decide +kernel
theorem dX12_keepAct_63 : decode cX12_keepAct 63 = .ok (.aload_n 0, 1) := by decide +kernel
theorem dX12_keepAct_64 : decode cX12_keepAct 64 = .ok (.getfield 363, 3) := by decide +kernel
theorem dX12_keepAct_67 : decode cX12_keepAct 67 = .ok (.imul, 1) := by decide +kernel
theorem dX12_keepAct_68 : decode cX12_keepAct 68 = .ok (.iload_n 1, 1) := by decide +kernel
theorem dX12_keepAct_69 : decode cX12_keepAct 69 = .ok (.iadd, 1) := by decide +kernel
theorem dX12_keepAct_70 : decode cX12_keepAct 70 = .ok (.aload_n 0, 1) := by decide +kernel
theorem dX12_keepAct_71 : decode cX12_keepAct 71 = .ok (.getfield 85, 3) := by decide +kernel
theorem dX12_keepAct_74 : decode cX12_keepAct 74 = .ok (.iload_n 1, 1) := by decide +kernel
theorem dX12_keepAct_75 : decode cX12_keepAct 75 = .ok (.iaload, 1) := by decide +kernel
theorem dX12_keepAct_76 : decode cX12_keepAct 76 = .ok (.iastore, 1) := by decide +kernel
theorem dX12_keepAct_77 : decode cX12_keepAct 77 = .ok (.iinc 1 1, 3) := by decide +kernel
theorem dX12_keepAct_80 : decode cX12_keepAct 80 = .ok (.goto (-29), 3) := by decide +kernel
theorem dX12_keepAct_83 : decode cX12_keepAct 83 = .ok (.aload_n 0, 1) := by decide +kernel
theorem dX12_keepAct_84 : decode cX12_keepAct 84 = .ok (.dup, 1) := by decide +kernel
theorem dX12_keepAct_85 : decode cX12_keepAct 85 = .ok (.getfield 363, 3) := by decide +kernel
theorem dX12_keepAct_88 : decode cX12_keepAct 88 = .ok (.iconst 1, 1) := by decide +kernel
theorem dX12_keepAct_89 : decode cX12_keepAct 89 = .ok (.iadd, 1) := by decide +kernel
theorem dX12_keepAct_90 : decode cX12_keepAct 90 = .ok (.putfield 363, 3) := by decide +kernel
theorem dX12_keepAct_93 : decode cX12_keepAct 93 = .ok (.aload_n 0, 1) := by decide +kernel
theorem dX12_keepAct_94 : decode cX12_keepAct 94 = .ok (.iconst 0, 1) := by decide +kernel
theorem dX12_keepAct_95 : decode cX12_keepAct 95 = .ok (.putfield 366, 3) := by decide +kernel
theorem dX12_keepAct_98 : decode cX12_keepAct 98 = .ok (.return_, 1) := by decide +kernel
theorem dX12_swapAll_0 : decode cX12_swapAll 0 = .ok (.iconst 0, 1) := by decide +kernel
theorem dX12_swapAll_1 : decode cX12_swapAll 1 = .ok (.istore_n 1, 1) := by decide +kernel
theorem dX12_swapAll_2 : decode cX12_swapAll 2 = .ok (.iload_n 1, 1) := by decide +kernel
theorem dX12_swapAll_3 : decode cX12_swapAll 3 = .ok (.bipush 59, 2) := by decide +kernel
theorem dX12_swapAll_5 : decode cX12_swapAll 5 = .ok (.if_icmp .ge 51, 3) := by decide +kernel
theorem dX12_swapAll_8 : decode cX12_swapAll 8 = .ok (.aload_n 0, 1) := by decide +kernel
theorem dX12_swapAll_9 : decode cX12_swapAll 9 = .ok (.getfield 94, 3) := by decide +kernel
theorem dX12_swapAll_12 : decode cX12_swapAll 12 = .ok (.bipush 59, 2) := by decide +kernel
theorem dX12_swapAll_14 : decode cX12_swapAll 14 = .ok (.aload_n 0, 1) := by decide +kernel
theorem dX12_swapAll_15 : decode cX12_swapAll 15 = .ok (.getfield 363, 3) := by decide +kernel
theorem dX12_swapAll_18 : decode cX12_swapAll 18 = .ok (.imul, 1) := by decide +kernel
theorem dX12_swapAll_19 : decode cX12_swapAll 19 = .ok (.iload_n 1, 1) := by decide +kernel
theorem dX12_swapAll_20 : decode cX12_swapAll 20 = .ok (.iadd, 1) := by decide +kernel
theorem dX12_swapAll_21 : decode cX12_swapAll 21 = .ok (.iaload, 1) := by decide +kernel
theorem dX12_swapAll_22 : decode cX12_swapAll 22 = .ok (.istore_n 2, 1) := by decide +kernel
theorem dX12_swapAll_23 : decode cX12_swapAll 23 = .ok (.aload_n 0, 1) := by decide +kernel
theorem dX12_swapAll_24 : decode cX12_swapAll 24 = .ok (.getfield 94, 3) := by decide +kernel
theorem dX12_swapAll_27 : decode cX12_swapAll 27 = .ok (.bipush 59, 2) := by decide +kernel
theorem dX12_swapAll_29 : decode cX12_swapAll 29 = .ok (.aload_n 0, 1) := by decide +kernel
theorem dX12_swapAll_30 : decode cX12_swapAll 30 = .ok (.getfield 363, 3) := by decide +kernel
theorem dX12_swapAll_33 : decode cX12_swapAll 33 = .ok (.imul, 1) := by decide +kernel
theorem dX12_swapAll_34 : decode cX12_swapAll 34 = .ok (.iload_n 1, 1) := by decide +kernel
theorem dX12_swapAll_35 : decode cX12_swapAll 35 = .ok (.iadd, 1) := by decide +kernel
theorem dX12_swapAll_36 : decode cX12_swapAll 36 = .ok (.aload_n 0, 1) := by decide +kernel
theorem dX12_swapAll_37 : decode cX12_swapAll 37 = .ok (.getfield 85, 3) := by decide +kernel
theorem dX12_swapAll_40 : decode cX12_swapAll 40 = .ok (.iload_n 1, 1) := by decide +kernel
theorem dX12_swapAll_41 : decode cX12_swapAll 41 = .ok (.iaload, 1) := by decide +kernel
theorem dX12_swapAll_42 : decode cX12_swapAll 42 = .ok (.iastore, 1) := by decide +kernel
theorem dX12_swapAll_43 : decode cX12_swapAll 43 = .ok (.aload_n 0, 1) := by decide +kernel
theorem dX12_swapAll_44 : decode cX12_swapAll 44 = .ok (.getfield 85, 3) := by decide +kernel
theorem dX12_swapAll_47 : decode cX12_swapAll 47 = .ok (.iload_n 1, 1) := by decide +kernel
theorem dX12_swapAll_48 : decode cX12_swapAll 48 = .ok (.iload_n 2, 1) := by decide +kernel
theorem dX12_swapAll_49 : decode cX12_swapAll 49 = .ok (.iastore, 1) := by decide +kernel
theorem dX12_swapAll_50 : decode cX12_swapAll 50 = .ok (.iinc 1 1, 3) := by decide +kernel
theorem dX12_swapAll_53 : decode cX12_swapAll 53 = .ok (.goto (-51), 3) := by decide +kernel
theorem dX12_swapAll_56 : decode cX12_swapAll 56 = .ok (.return_, 1) := by decide +kernel
theorem dX12_year_0 : decode cX12_year 0 = .ok (.aload_n 0, 1) := by decide +kernel
theorem dX12_year_1 : decode cX12_year 1 = .ok (.getfield 85, 3) := by decide +kernel
theorem dX12_year_4 : decode cX12_year 4 = .ok (.bipush 57, 2) := by decide +kernel
theorem dX12_year_6 : decode cX12_year 6 = .ok (.iaload, 1) := by decide +kernel
theorem dX12_year_7 : decode cX12_year 7 = .ok (.sipush 999, 3) := by decide +kernel
theorem dX12_year_10 : decode cX12_year 10 = .ok (.if_icmp .ne 5, 3) := by decide +kernel
theorem dX12_year_13 : decode cX12_year 13 = .ok (.iconst (-1), 1) := by decide +kernel
theorem dX12_year_14 : decode cX12_year 14 = .ok (.ireturn, 1) := by decide +kernel
theorem dX12_year_15 : decode cX12_year 15 = .ok (.aload_n 0, 1) := by decide +kernel
theorem dX12_year_16 : decode cX12_year 16 = .ok (.invokevirtual 421, 3) := by decide +kernel
theorem dX12_year_19 : decode cX12_year 19 = .ok (.aload_n 0, 1) := by decide +kernel
theorem dX12_year_20 : decode cX12_year 20 = .ok (.invokevirtual 405, 3) := by decide +kernel
theorem dX12_year_23 : decode cX12_year 23 = .ok (.ireturn, 1) := by decide +kernel
theorem dX12_canCarry_0 : decode cX12_canCarry 0 = .ok (.aload_n 0, 1) := by decide +kernel
theorem dX12_canCarry_1 : decode cX12_canCarry 1 = .ok (.iload_n 1, 1) := by decide +kernel
theorem dX12_canCarry_2 : decode cX12_canCarry 2 = .ok (.invokevirtual 411, 3) := by decide +kernel
theorem dX12_canCarry_5 : decode cX12_canCarry 5 = .ok (.ifCond .eq 44, 3) := by decide +kernel
theorem dX12_canCarry_8 : decode cX12_canCarry 8 = .ok (.aload_n 0, 1) := by decide +kernel
theorem dX12_canCarry_9 : decode cX12_canCarry 9 = .ok (.iload_n 2, 1) := by decide +kernel
theorem dX12_canCarry_10 : decode cX12_canCarry 10 = .ok (.invokevirtual 408, 3) := by decide +kernel
theorem dX12_canCarry_13 : decode cX12_canCarry 13 = .ok (.ifCond .eq 36, 3) := by decide +kernel
theorem dX12_canCarry_16 : decode cX12_canCarry 16 = .ok (.aload_n 0, 1) := by decide +kernel
theorem dX12_canCarry_17 : decode cX12_canCarry 17 = .ok (.getfield 85, 3) := by decide +kernel
theorem dX12_canCarry_20 : decode cX12_canCarry 20 = .ok (.bipush 8, 2) := by decide +kernel
theorem dX12_canCarry_22 : decode cX12_canCarry 22 = .ok (.iload_n 1, 1) := by decide +kernel
theorem dX12_canCarry_23 : decode cX12_canCarry 23 = .ok (.iadd, 1) := by decide +kernel
theorem dX12_canCarry_24 : decode cX12_canCarry 24 = .ok (.iaload, 1) := by decide +kernel
theorem dX12_canCarry_25 : decode cX12_canCarry 25 = .ok (.iload_n 2, 1) := by decide +kernel
theorem dX12_canCarry_26 : decode cX12_canCarry 26 = .ok (.if_icmp .eq 23, 3) := by decide +kernel
theorem dX12_canCarry_29 : decode cX12_canCarry 29 = .ok (.aload_n 0, 1) := by decide +kernel
theorem dX12_canCarry_30 : decode cX12_canCarry 30 = .ok (.iload_n 2, 1) := by decide +kernel
theorem dX12_canCarry_31 : decode cX12_canCarry 31 = .ok (.invokevirtual 328, 3) := by decide +kernel
theorem dX12_canCarry_34 : decode cX12_canCarry 34 = .ok (.aload_n 0, 1) := by decide +kernel
theorem dX12_canCarry_35 : decode cX12_canCarry 35 = .ok (.getfield 85, 3) := by decide +kernel
theorem dX12_canCarry_38 : decode cX12_canCarry 38 = .ok (.iconst 0, 1) := by decide +kernel
theorem dX12_canCarry_39 : decode cX12_canCarry 39 = .ok (.iload_n 1, 1) := by decide +kernel
theorem dX12_canCarry_40 : decode cX12_canCarry 40 = .ok (.iadd, 1) := by decide +kernel
theorem dX12_canCarry_41 : decode cX12_canCarry 41 = .ok (.iaload, 1) := by decide +kernel
theorem dX12_canCarry_42 : decode cX12_canCarry 42 = .ok (.if_icmp .lt 7, 3) := by decide +kernel
theorem dX12_canCarry_45 : decode cX12_canCarry 45 = .ok (.iconst 1, 1) := by decide +kernel
theorem dX12_canCarry_46 : decode cX12_canCarry 46 = .ok (.goto 4, 3) := by decide +kernel
theorem dX12_canCarry_49 : decode cX12_canCarry 49 = .ok (.iconst 0, 1) := by decide +kernel
theorem dX12_canCarry_50 : decode cX12_canCarry 50 = .ok (.ireturn, 1) := by decide +kernel
theorem dX12_carry_0 : decode cX12_carry 0 = .ok (.aload_n 0, 1) := by decide +kernel
theorem dX12_carry_1 : decode cX12_carry 1 = .ok (.iload_n 1, 1) := by decide +kernel
theorem dX12_carry_2 : decode cX12_carry 2 = .ok (.iload_n 2, 1) := by decide +kernel
theorem dX12_carry_3 : decode cX12_carry 3 = .ok (.invokevirtual 424, 3) := by decide +kernel
theorem dX12_carry_6 : decode cX12_carry 6 = .ok (.ifCond .ne 5, 3) := by decide +kernel
theorem dX12_carry_9 : decode cX12_carry 9 = .ok (.iconst (-1), 1) := by decide +kernel
theorem dX12_carry_10 : decode cX12_carry 10 = .ok (.ireturn, 1) := by decide +kernel
theorem dX12_carry_11 : decode cX12_carry 11 = .ok (.aload_n 0, 1) := by decide +kernel
theorem dX12_carry_12 : decode cX12_carry 12 = .ok (.invokevirtual 421, 3) := by decide +kernel
theorem dX12_carry_15 : decode cX12_carry 15 = .ok (.aload_n 0, 1) := by decide +kernel
theorem dX12_carry_16 : decode cX12_carry 16 = .ok (.getfield 85, 3) := by decide +kernel
theorem dX12_carry_19 : decode cX12_carry 19 = .ok (.bipush 8, 2) := by decide +kernel
theorem dX12_carry_21 : decode cX12_carry 21 = .ok (.iload_n 1, 1) := by decide +kernel
theorem dX12_carry_22 : decode cX12_carry 22 = .ok (.iadd, 1) := by decide +kernel
theorem dX12_carry_23 : decode cX12_carry 23 = .ok (.iaload, 1) := by decide +kernel
theorem dX12_carry_24 : decode cX12_carry 24 = .ok (.istore_n 3, 1) := by decide +kernel
theorem dX12_carry_25 : decode cX12_carry 25 = .ok (.aload_n 0, 1) := by decide +kernel
theorem dX12_carry_26 : decode cX12_carry 26 = .ok (.getfield 85, 3) := by decide +kernel
theorem dX12_carry_29 : decode cX12_carry 29 = .ok (.bipush 8, 2) := by decide +kernel
theorem dX12_carry_31 : decode cX12_carry 31 = .ok (.iload_n 1, 1) := by decide +kernel
theorem dX12_carry_32 : decode cX12_carry 32 = .ok (.iadd, 1) := by decide +kernel
theorem dX12_carry_33 : decode cX12_carry 33 = .ok (.iload_n 2, 1) := by decide +kernel
theorem dX12_carry_34 : decode cX12_carry 34 = .ok (.iastore, 1) := by decide +kernel
theorem dX12_carry_35 : decode cX12_carry 35 = .ok (.iload_n 3, 1) := by decide +kernel
theorem dX12_carry_36 : decode cX12_carry 36 = .ok (.ireturn, 1) := by decide +kernel
theorem dX12_tell_0 : decode cX12_tell 0 = .ok (.aload_n 0, 1) := by decide +kernel
theorem dX12_tell_1 : decode cX12_tell 1 = .ok (.iload_n 1, 1) := by decide +kernel
theorem dX12_tell_2 : decode cX12_tell 2 = .ok (.invokevirtual 411, 3) := by decide +kernel
theorem dX12_tell_5 : decode cX12_tell 5 = .ok (.ifCond .eq 27, 3) := by decide +kernel
theorem dX12_tell_8 : decode cX12_tell 8 = .ok (.aload_n 0, 1) := by decide +kernel
theorem dX12_tell_9 : decode cX12_tell 9 = .ok (.getfield 85, 3) := by decide +kernel
theorem dX12_tell_12 : decode cX12_tell 12 = .ok (.bipush 56, 2) := by decide +kernel
theorem dX12_tell_14 : decode cX12_tell 14 = .ok (.iaload, 1) := by decide +kernel
theorem dX12_tell_15 : decode cX12_tell 15 = .ok (.ifCond .eq 17, 3) := by decide +kernel
theorem dX12_tell_18 : decode cX12_tell 18 = .ok (.aload_n 0, 1) := by decide +kernel
theorem dX12_tell_19 : decode cX12_tell 19 = .ok (.getfield 85, 3) := by decide +kernel
theorem dX12_tell_22 : decode cX12_tell 22 = .ok (.bipush 24, 2) := by decide +kernel
theorem dX12_tell_24 : decode cX12_tell 24 = .ok (.iload_n 1, 1) := by decide +kernel
theorem dX12_tell_25 : decode cX12_tell 25 = .ok (.iadd, 1) := by decide +kernel
theorem dX12_tell_26 : decode cX12_tell 26 = .ok (.iaload, 1) := by decide +kernel
theorem dX12_tell_27 : decode cX12_tell 27 = .ok (.bipush 9, 2) := by decide +kernel
theorem dX12_tell_29 : decode cX12_tell 29 = .ok (.if_icmp .ne 5, 3) := by decide +kernel
theorem dX12_tell_32 : decode cX12_tell 32 = .ok (.iconst (-1), 1) := by decide +kernel
theorem dX12_tell_33 : decode cX12_tell 33 = .ok (.ireturn, 1) := by decide +kernel
theorem dX12_tell_34 : decode cX12_tell 34 = .ok (.aload_n 0, 1) := by decide +kernel
theorem dX12_tell_35 : decode cX12_tell 35 = .ok (.invokevirtual 421, 3) := by decide +kernel
theorem dX12_tell_38 : decode cX12_tell 38 = .ok (.aload_n 0, 1) := by decide +kernel
theorem dX12_tell_39 : decode cX12_tell 39 = .ok (.getfield 85, 3) := by decide +kernel
theorem dX12_tell_42 : decode cX12_tell 42 = .ok (.bipush 56, 2) := by decide +kernel
theorem dX12_tell_44 : decode cX12_tell 44 = .ok (.dup2, 1) := by decide +kernel
theorem dX12_tell_45 : decode cX12_tell 45 = .ok (.iaload, 1) := by decide +kernel
theorem dX12_tell_46 : decode cX12_tell 46 = .ok (.iconst 1, 1) := by decide +kernel
theorem dX12_tell_47 : decode cX12_tell 47 = .ok (.isub, 1) := by decide +kernel
theorem dX12_tell_48 : decode cX12_tell 48 = .ok (.iastore, 1) := by decide +kernel
theorem dX12_tell_49 : decode cX12_tell 49 = .ok (.aload_n 0, 1) := by decide +kernel
theorem dX12_tell_50 : decode cX12_tell 50 = .ok (.getfield 85, 3) := by decide +kernel
theorem dX12_tell_53 : decode cX12_tell 53 = .ok (.bipush 24, 2) := by decide +kernel
theorem dX12_tell_55 : decode cX12_tell 55 = .ok (.iload_n 1, 1) := by decide +kernel
theorem dX12_tell_56 : decode cX12_tell 56 = .ok (.iadd, 1) := by decide +kernel
theorem dX12_tell_57 : decode cX12_tell 57 = .ok (.dup2, 1) := by decide +kernel
theorem dX12_tell_58 : decode cX12_tell 58 = .ok (.iaload, 1) := by decide +kernel
theorem dX12_tell_59 : decode cX12_tell 59 = .ok (.iconst 1, 1) := by decide +kernel
theorem dX12_tell_60 : decode cX12_tell 60 = .ok (.iadd, 1) := by decide +kernel
theorem dX12_tell_61 : decode cX12_tell 61 = .ok (.iastore, 1) := by decide +kernel
theorem dX12_tell_62 : decode cX12_tell 62 = .ok (.aload_n 0, 1) := by decide +kernel
theorem dX12_tell_63 : decode cX12_tell 63 = .ok (.getfield 85, 3) := by decide +kernel
theorem dX12_tell_66 : decode cX12_tell 66 = .ok (.bipush 24, 2) := by decide +kernel
theorem dX12_tell_68 : decode cX12_tell 68 = .ok (.iload_n 1, 1) := by decide +kernel
theorem dX12_tell_69 : decode cX12_tell 69 = .ok (.iadd, 1) := by decide +kernel
theorem dX12_tell_70 : decode cX12_tell 70 = .ok (.iaload, 1) := by decide +kernel
theorem dX12_tell_71 : decode cX12_tell 71 = .ok (.ireturn, 1) := by decide +kernel
theorem dX12_lose_0 : decode cX12_lose 0 = .ok (.aload_n 0, 1) := by decide +kernel
theorem dX12_lose_1 : decode cX12_lose 1 = .ok (.iload_n 1, 1) := by decide +kernel
theorem dX12_lose_2 : decode cX12_lose 2 = .ok (.invokevirtual 411, 3) := by decide +kernel
theorem dX12_lose_5 : decode cX12_lose 5 = .ok (.ifCond .ne 5, 3) := by decide +kernel
theorem dX12_lose_8 : decode cX12_lose 8 = .ok (.iconst (-1), 1) := by decide +kernel
theorem dX12_lose_9 : decode cX12_lose 9 = .ok (.ireturn, 1) := by decide +kernel
theorem dX12_lose_10 : decode cX12_lose 10 = .ok (.aload_n 0, 1) := by decide +kernel
theorem dX12_lose_11 : decode cX12_lose 11 = .ok (.invokevirtual 421, 3) := by decide +kernel
theorem dX12_lose_14 : decode cX12_lose 14 = .ok (.aload_n 0, 1) := by decide +kernel
theorem dX12_lose_15 : decode cX12_lose 15 = .ok (.getfield 85, 3) := by decide +kernel
theorem dX12_lose_18 : decode cX12_lose 18 = .ok (.iconst 0, 1) := by decide +kernel
theorem dX12_lose_19 : decode cX12_lose 19 = .ok (.iload_n 1, 1) := by decide +kernel
theorem dX12_lose_20 : decode cX12_lose 20 = .ok (.iadd, 1) := by decide +kernel
theorem dX12_lose_21 : decode cX12_lose 21 = .ok (.iaload, 1) := by decide +kernel
theorem dX12_lose_22 : decode cX12_lose 22 = .ok (.istore_n 2, 1) := by decide +kernel
theorem dX12_lose_23 : decode cX12_lose 23 = .ok (.aload_n 0, 1) := by decide +kernel
theorem dX12_lose_24 : decode cX12_lose 24 = .ok (.iload_n 1, 1) := by decide +kernel
theorem dX12_lose_25 : decode cX12_lose 25 = .ok (.invokevirtual 393, 3) := by decide +kernel
theorem dX12_lose_28 : decode cX12_lose 28 = .ok (.iload_n 2, 1) := by decide +kernel
theorem dX12_lose_29 : decode cX12_lose 29 = .ok (.ireturn, 1) := by decide +kernel
theorem dX12_undo_0 : decode cX12_undo 0 = .ok (.aload_n 0, 1) := by decide +kernel
theorem dX12_undo_1 : decode cX12_undo 1 = .ok (.getfield 363, 3) := by decide +kernel
theorem dX12_undo_4 : decode cX12_undo 4 = .ok (.ifCond .ne 5, 3) := by decide +kernel
theorem dX12_undo_7 : decode cX12_undo 7 = .ok (.iconst 0, 1) := by decide +kernel
theorem dX12_undo_8 : decode cX12_undo 8 = .ok (.ireturn, 1) := by decide +kernel
theorem dX12_undo_9 : decode cX12_undo 9 = .ok (.aload_n 0, 1) := by decide +kernel
theorem dX12_undo_10 : decode cX12_undo 10 = .ok (.dup, 1) := by decide +kernel
theorem dX12_undo_11 : decode cX12_undo 11 = .ok (.getfield 363, 3) := by decide +kernel
theorem dX12_undo_14 : decode cX12_undo 14 = .ok (.iconst 1, 1) := by decide +kernel
theorem dX12_undo_15 : decode cX12_undo 15 = .ok (.isub, 1) := by decide +kernel
theorem dX12_undo_16 : decode cX12_undo 16 = .ok (.putfield 363, 3) := by decide +kernel
theorem dX12_undo_19 : decode cX12_undo 19 = .ok (.aload_n 0, 1) := by decide +kernel
theorem dX12_undo_20 : decode cX12_undo 20 = .ok (.dup, 1) := by decide +kernel
theorem dX12_undo_21 : decode cX12_undo 21 = .ok (.getfield 366, 3) := by decide +kernel
theorem dX12_undo_24 : decode cX12_undo 24 = .ok (.iconst 1, 1) := by decide +kernel
theorem dX12_undo_25 : decode cX12_undo 25 = .ok (.iadd, 1) := by decide +kernel
theorem dX12_undo_26 : decode cX12_undo 26 = .ok (.putfield 366, 3) := by decide +kernel
theorem dX12_undo_29 : decode cX12_undo 29 = .ok (.aload_n 0, 1) := by decide +kernel
theorem dX12_undo_30 : decode cX12_undo 30 = .ok (.invokevirtual 427, 3) := by decide +kernel
theorem dX12_undo_33 : decode cX12_undo 33 = .ok (.iconst 1, 1) := by decide +kernel
theorem dX12_undo_34 : decode cX12_undo 34 = .ok (.ireturn, 1) := by decide +kernel
theorem dX12_redo_0 : decode cX12_redo 0 = .ok (.aload_n 0, 1) := by decide +kernel
theorem dX12_redo_1 : decode cX12_redo 1 = .ok (.getfield 366, 3) := by decide +kernel
theorem dX12_redo_4 : decode cX12_redo 4 = .ok (.ifCond .ne 5, 3) := by decide +kernel
theorem dX12_redo_7 : decode cX12_redo 7 = .ok (.iconst 0, 1) := by decide +kernel
theorem dX12_redo_8 : decode cX12_redo 8 = .ok (.ireturn, 1) := by decide +kernel
theorem dX12_redo_9 : decode cX12_redo 9 = .ok (.aload_n 0, 1) := by decide +kernel
theorem dX12_redo_10 : decode cX12_redo 10 = .ok (.invokevirtual 427, 3) := by decide +kernel
theorem dX12_redo_13 : decode cX12_redo 13 = .ok (.aload_n 0, 1) := by decide +kernel
theorem dX12_redo_14 : decode cX12_redo 14 = .ok (.dup, 1) := by decide +kernel
theorem dX12_redo_15 : decode cX12_redo 15 = .ok (.getfield 363, 3) := by decide +kernel
theorem dX12_redo_18 : decode cX12_redo 18 = .ok (.iconst 1, 1) := by decide +kernel
theorem dX12_redo_19 : decode cX12_redo 19 = .ok (.iadd, 1) := by decide +kernel
theorem dX12_redo_20 : decode cX12_redo 20 = .ok (.putfield 363, 3) := by decide +kernel
theorem dX12_redo_23 : decode cX12_redo 23 = .ok (.aload_n 0, 1) := by decide +kernel
theorem dX12_redo_24 : decode cX12_redo 24 = .ok (.dup, 1) := by decide +kernel
theorem dX12_redo_25 : decode cX12_redo 25 = .ok (.getfield 366, 3) := by decide +kernel
theorem dX12_redo_28 : decode cX12_redo 28 = .ok (.iconst 1, 1) := by decide +kernel
theorem dX12_redo_29 : decode cX12_redo 29 = .ok (.isub, 1) := by decide +kernel
theorem dX12_redo_30 : decode cX12_redo 30 = .ok (.putfield 366, 3) := by decide +kernel
theorem dX12_redo_33 : decode cX12_redo 33 = .ok (.iconst 1, 1) := by decide +kernel
theorem dX12_redo_34 : decode cX12_redo 34 = .ok (.ireturn, 1) := by decide +kernel
theorem dX12_will_0 : decode cX12_will 0 = .ok (.iload_n 1, 1) := by decide +kernel
theorem dX12_will_1 : decode cX12_will 1 = .ok (.iconst 0, 1) := by decide +kernel
theorem dX12_will_2 : decode cX12_will 2 = .ok (.bipush 7, 2) := by decide +kernel
theorem dX12_will_4 : decode cX12_will 4 = .ok (.invokestatic 346, 3) := by decide +kernel
theorem dX12_will_7 : decode cX12_will 7 = .ok (.ifCond .eq 22, 3) := by decide +kernel
theorem dX12_will_10 : decode cX12_will 10 = .ok (.iload_n 2, 1) := by decide +kernel
theorem dX12_will_11 : decode cX12_will 11 = .ok (.iconst 0, 1) := by decide +kernel
theorem dX12_will_12 : decode cX12_will 12 = .ok (.bipush 30, 2) := by decide +kernel
theorem dX12_will_14 : decode cX12_will 14 = .ok (.invokestatic 346, 3) := by decide +kernel
theorem dX12_will_17 : decode cX12_will 17 = .ok (.ifCond .eq 12, 3) := by decide +kernel
theorem dX12_will_20 : decode cX12_will 20 = .ok (.iload_n 3, 1) := by decide +kernel
theorem dX12_will_21 : decode cX12_will 21 = .ok (.iconst 0, 1) := by decide +kernel
theorem dX12_will_22 : decode cX12_will 22 = .ok (.iconst 1, 1) := by decide +kernel
theorem dX12_will_23 : decode cX12_will 23 = .ok (.invokestatic 346, 3) := by decide +kernel
theorem dX12_will_26 : decode cX12_will 26 = .ok (.ifCond .ne 5, 3) := by decide +kernel
theorem dX12_will_29 : decode cX12_will 29 = .ok (.iconst (-1), 1) := by decide +kernel
theorem dX12_will_30 : decode cX12_will 30 = .ok (.ireturn, 1) := by decide +kernel
theorem dX12_will_31 : decode cX12_will 31 = .ok (.aload_n 0, 1) := by decide +kernel
theorem dX12_will_32 : decode cX12_will 32 = .ok (.invokevirtual 430, 3) := by decide +kernel
theorem dX12_will_35 : decode cX12_will 35 = .ok (.aload_n 0, 1) := by decide +kernel
theorem dX12_will_36 : decode cX12_will 36 = .ok (.iload_n 2, 1) := by decide +kernel
theorem dX12_will_37 : decode cX12_will 37 = .ok (.invokevirtual 433, 3) := by decide +kernel
theorem dX12_will_40 : decode cX12_will 40 = .ok (.istore 4, 2) := by decide +kernel
theorem dX12_will_42 : decode cX12_will 42 = .ok (.aload_n 0, 1) := by decide +kernel
theorem dX12_will_43 : decode cX12_will 43 = .ok (.getfield 85, 3) := by decide +kernel
theorem dX12_will_46 : decode cX12_will 46 = .ok (.iconst 0, 1) := by decide +kernel
theorem dX12_will_47 : decode cX12_will 47 = .ok (.iload_n 1, 1) := by decide +kernel
theorem dX12_will_48 : decode cX12_will 48 = .ok (.iadd, 1) := by decide +kernel
theorem dX12_will_49 : decode cX12_will 49 = .ok (.iaload, 1) := by decide +kernel
theorem dX12_will_50 : decode cX12_will 50 = .ok (.ifCond .ne 7, 3) := by decide +kernel
theorem dX12_will_53 : decode cX12_will 53 = .ok (.iconst (-1), 1) := by decide +kernel
theorem dX12_will_54 : decode cX12_will 54 = .ok (.goto 27, 3) := by decide +kernel
theorem dX12_will_57 : decode cX12_will 57 = .ok (.iload_n 3, 1) := by decide +kernel
theorem dX12_will_58 : decode cX12_will 58 = .ok (.ifCond .ne 14, 3) := by decide +kernel
theorem dX12_will_61 : decode cX12_will 61 = .ok (.aload_n 0, 1) := by decide +kernel
theorem dX12_will_62 : decode cX12_will 62 = .ok (.getfield 85, 3) := by decide +kernel
theorem dX12_will_65 : decode cX12_will 65 = .ok (.iconst 0, 1) := by decide +kernel
theorem dX12_will_66 : decode cX12_will 66 = .ok (.iload_n 1, 1) := by decide +kernel
theorem dX12_will_67 : decode cX12_will 67 = .ok (.iadd, 1) := by decide +kernel
theorem dX12_will_68 : decode cX12_will 68 = .ok (.iaload, 1) := by decide +kernel
theorem dX12_will_69 : decode cX12_will 69 = .ok (.goto 12, 3) := by decide +kernel
theorem dX12_will_72 : decode cX12_will 72 = .ok (.aload_n 0, 1) := by decide +kernel
theorem dX12_will_73 : decode cX12_will 73 = .ok (.getfield 85, 3) := by decide +kernel
theorem dX12_will_76 : decode cX12_will 76 = .ok (.bipush 16, 2) := by decide +kernel
theorem dX12_will_78 : decode cX12_will 78 = .ok (.iload_n 1, 1) := by decide +kernel
theorem dX12_will_79 : decode cX12_will 79 = .ok (.iadd, 1) := by decide +kernel
theorem dX12_will_80 : decode cX12_will 80 = .ok (.iaload, 1) := by decide +kernel
theorem dX12_will_81 : decode cX12_will 81 = .ok (.istore 5, 2) := by decide +kernel
theorem dX12_will_83 : decode cX12_will 83 = .ok (.aload_n 0, 1) := by decide +kernel
theorem dX12_will_84 : decode cX12_will 84 = .ok (.invokevirtual 436, 3) := by decide +kernel
theorem dX12_will_87 : decode cX12_will 87 = .ok (.iload 5, 2) := by decide +kernel
theorem dX12_will_89 : decode cX12_will 89 = .ok (.ireturn, 1) := by decide +kernel
theorem dX12_alive_0 : decode cX12_alive 0 = .ok (.iload_n 1, 1) := by decide +kernel
theorem dX12_alive_1 : decode cX12_alive 1 = .ok (.iconst 0, 1) := by decide +kernel
theorem dX12_alive_2 : decode cX12_alive 2 = .ok (.bipush 30, 2) := by decide +kernel
theorem dX12_alive_4 : decode cX12_alive 4 = .ok (.invokestatic 346, 3) := by decide +kernel
theorem dX12_alive_7 : decode cX12_alive 7 = .ok (.ifCond .ne 5, 3) := by decide +kernel
theorem dX12_alive_10 : decode cX12_alive 10 = .ok (.iconst (-1), 1) := by decide +kernel
theorem dX12_alive_11 : decode cX12_alive 11 = .ok (.ireturn, 1) := by decide +kernel
theorem dX12_alive_12 : decode cX12_alive 12 = .ok (.aload_n 0, 1) := by decide +kernel
theorem dX12_alive_13 : decode cX12_alive 13 = .ok (.invokevirtual 430, 3) := by decide +kernel
theorem dX12_alive_16 : decode cX12_alive 16 = .ok (.aload_n 0, 1) := by decide +kernel
theorem dX12_alive_17 : decode cX12_alive 17 = .ok (.iload_n 1, 1) := by decide +kernel
theorem dX12_alive_18 : decode cX12_alive 18 = .ok (.invokevirtual 433, 3) := by decide +kernel
theorem dX12_alive_21 : decode cX12_alive 21 = .ok (.istore_n 2, 1) := by decide +kernel
theorem dX12_alive_22 : decode cX12_alive 22 = .ok (.aload_n 0, 1) := by decide +kernel
theorem dX12_alive_23 : decode cX12_alive 23 = .ok (.invokevirtual 331, 3) := by decide +kernel
theorem dX12_alive_26 : decode cX12_alive 26 = .ok (.istore_n 3, 1) := by decide +kernel
theorem dX12_alive_27 : decode cX12_alive 27 = .ok (.aload_n 0, 1) := by decide +kernel
theorem dX12_alive_28 : decode cX12_alive 28 = .ok (.invokevirtual 436, 3) := by decide +kernel
theorem dX12_alive_31 : decode cX12_alive 31 = .ok (.iload_n 3, 1) := by decide +kernel
theorem dX12_alive_32 : decode cX12_alive 32 = .ok (.ireturn, 1) := by decide +kernel
theorem dX12_fading_0 : decode cX12_fading 0 = .ok (.iload_n 1, 1) := by decide +kernel
theorem dX12_fading_1 : decode cX12_fading 1 = .ok (.iconst 0, 1) := by decide +kernel
theorem dX12_fading_2 : decode cX12_fading 2 = .ok (.bipush 30, 2) := by decide +kernel
theorem dX12_fading_4 : decode cX12_fading 4 = .ok (.invokestatic 346, 3) := by decide +kernel
theorem dX12_fading_7 : decode cX12_fading 7 = .ok (.ifCond .ne 5, 3) := by decide +kernel
theorem dX12_fading_10 : decode cX12_fading 10 = .ok (.iconst (-1), 1) := by decide +kernel
theorem dX12_fading_11 : decode cX12_fading 11 = .ok (.ireturn, 1) := by decide +kernel
theorem dX12_fading_12 : decode cX12_fading 12 = .ok (.aload_n 0, 1) := by decide +kernel
theorem dX12_fading_13 : decode cX12_fading 13 = .ok (.invokevirtual 430, 3) := by decide +kernel
theorem dX12_fading_16 : decode cX12_fading 16 = .ok (.aload_n 0, 1) := by decide +kernel
theorem dX12_fading_17 : decode cX12_fading 17 = .ok (.invokevirtual 439, 3) := by decide +kernel
theorem dX12_fading_20 : decode cX12_fading 20 = .ok (.istore_n 2, 1) := by decide +kernel
theorem dX12_fading_21 : decode cX12_fading 21 = .ok (.aload_n 0, 1) := by decide +kernel
theorem dX12_fading_22 : decode cX12_fading 22 = .ok (.iload_n 1, 1) := by decide +kernel
theorem dX12_fading_23 : decode cX12_fading 23 = .ok (.invokevirtual 433, 3) := by decide +kernel
theorem dX12_fading_26 : decode cX12_fading 26 = .ok (.istore_n 3, 1) := by decide +kernel
theorem dX12_fading_27 : decode cX12_fading 27 = .ok (.iload_n 2, 1) := by decide +kernel
theorem dX12_fading_28 : decode cX12_fading 28 = .ok (.aload_n 0, 1) := by decide +kernel
theorem dX12_fading_29 : decode cX12_fading 29 = .ok (.invokevirtual 439, 3) := by decide +kernel
theorem dX12_fading_32 : decode cX12_fading 32 = .ok (.iconst (-1), 1) := by decide +kernel
theorem dX12_fading_33 : decode cX12_fading 33 = .ok (.ixor, 1) := by decide +kernel
theorem dX12_fading_34 : decode cX12_fading 34 = .ok (.iand, 1) := by decide +kernel
theorem dX12_fading_35 : decode cX12_fading 35 = .ok (.istore 4, 2) := by decide +kernel
theorem dX12_fading_37 : decode cX12_fading 37 = .ok (.aload_n 0, 1) := by decide +kernel
theorem dX12_fading_38 : decode cX12_fading 38 = .ok (.invokevirtual 436, 3) := by decide +kernel
theorem dX12_fading_41 : decode cX12_fading 41 = .ok (.iload 4, 2) := by decide +kernel
theorem dX12_fading_43 : decode cX12_fading 43 = .ok (.ireturn, 1) := by decide +kernel
theorem dX12_law_0 : decode cX12_law 0 = .ok (.iload_n 1, 1) := by decide +kernel
theorem dX12_law_1 : decode cX12_law 1 = .ok (.iconst 1, 1) := by decide +kernel
theorem dX12_law_2 : decode cX12_law 2 = .ok (.bipush 9, 2) := by decide +kernel
theorem dX12_law_4 : decode cX12_law 4 = .ok (.invokestatic 346, 3) := by decide +kernel
theorem dX12_law_7 : decode cX12_law 7 = .ok (.ifCond .eq 13, 3) := by decide +kernel
theorem dX12_law_10 : decode cX12_law 10 = .ok (.iload_n 2, 1) := by decide +kernel
theorem dX12_law_11 : decode cX12_law 11 = .ok (.iconst 0, 1) := by decide +kernel
theorem dX12_law_12 : decode cX12_law 12 = .ok (.bipush 30, 2) := by decide +kernel
theorem dX12_law_14 : decode cX12_law 14 = .ok (.invokestatic 346, 3) := by decide +kernel
theorem dX12_law_17 : decode cX12_law 17 = .ok (.ifCond .ne 5, 3) := by decide +kernel
theorem dX12_law_20 : decode cX12_law 20 = .ok (.iconst (-1), 1) := by decide +kernel
theorem dX12_law_21 : decode cX12_law 21 = .ok (.ireturn, 1) := by decide +kernel
theorem dX12_law_22 : decode cX12_law 22 = .ok (.aload_n 0, 1) := by decide +kernel
theorem dX12_law_23 : decode cX12_law 23 = .ok (.invokevirtual 430, 3) := by decide +kernel
theorem dX12_law_26 : decode cX12_law 26 = .ok (.aload_n 0, 1) := by decide +kernel
theorem dX12_law_27 : decode cX12_law 27 = .ok (.iload_n 1, 1) := by decide +kernel
theorem dX12_law_28 : decode cX12_law 28 = .ok (.putfield 91, 3) := by decide +kernel
theorem dX12_law_31 : decode cX12_law 31 = .ok (.aload_n 0, 1) := by decide +kernel
theorem dX12_law_32 : decode cX12_law 32 = .ok (.iload_n 2, 1) := by decide +kernel
theorem dX12_law_33 : decode cX12_law 33 = .ok (.invokevirtual 433, 3) := by decide +kernel
theorem dX12_law_36 : decode cX12_law 36 = .ok (.istore_n 3, 1) := by decide +kernel
theorem dX12_law_37 : decode cX12_law 37 = .ok (.aload_n 0, 1) := by decide +kernel
theorem dX12_law_38 : decode cX12_law 38 = .ok (.iconst (-1), 1) := by decide +kernel
theorem dX12_law_39 : decode cX12_law 39 = .ok (.putfield 91, 3) := by decide +kernel
theorem dX12_law_42 : decode cX12_law 42 = .ok (.aload_n 0, 1) := by decide +kernel
theorem dX12_law_43 : decode cX12_law 43 = .ok (.invokevirtual 331, 3) := by decide +kernel
theorem dX12_law_46 : decode cX12_law 46 = .ok (.invokestatic 334, 3) := by decide +kernel
theorem dX12_law_49 : decode cX12_law 49 = .ok (.istore 4, 2) := by decide +kernel
theorem dX12_law_51 : decode cX12_law 51 = .ok (.aload_n 0, 1) := by decide +kernel
theorem dX12_law_52 : decode cX12_law 52 = .ok (.invokevirtual 436, 3) := by decide +kernel
theorem dX12_law_55 : decode cX12_law 55 = .ok (.iload 4, 2) := by decide +kernel
theorem dX12_law_57 : decode cX12_law 57 = .ok (.ireturn, 1) := by decide +kernel
theorem dX12_gone_0 : decode cX12_gone 0 = .ok (.aload_n 0, 1) := by decide +kernel
theorem dX12_gone_1 : decode cX12_gone 1 = .ok (.iload_n 1, 1) := by decide +kernel
theorem dX12_gone_2 : decode cX12_gone 2 = .ok (.invokevirtual 411, 3) := by decide +kernel
theorem dX12_gone_5 : decode cX12_gone 5 = .ok (.ifCond .ne 5, 3) := by decide +kernel
theorem dX12_gone_8 : decode cX12_gone 8 = .ok (.iconst (-1), 1) := by decide +kernel
theorem dX12_gone_9 : decode cX12_gone 9 = .ok (.ireturn, 1) := by decide +kernel
theorem dX12_gone_10 : decode cX12_gone 10 = .ok (.aload_n 0, 1) := by decide +kernel
theorem dX12_gone_11 : decode cX12_gone 11 = .ok (.invokevirtual 430, 3) := by decide +kernel
theorem dX12_gone_14 : decode cX12_gone 14 = .ok (.iconst (-1), 1) := by decide +kernel
theorem dX12_gone_15 : decode cX12_gone 15 = .ok (.istore_n 2, 1) := by decide +kernel
theorem dX12_gone_16 : decode cX12_gone 16 = .ok (.iconst 1, 1) := by decide +kernel
theorem dX12_gone_17 : decode cX12_gone 17 = .ok (.istore_n 3, 1) := by decide +kernel
theorem dX12_gone_18 : decode cX12_gone 18 = .ok (.iload_n 3, 1) := by decide +kernel
theorem dX12_gone_19 : decode cX12_gone 19 = .ok (.bipush 30, 2) := by decide +kernel
theorem dX12_gone_21 : decode cX12_gone 21 = .ok (.if_icmp .gt 38, 3) := by decide +kernel
theorem dX12_gone_24 : decode cX12_gone 24 = .ok (.iload_n 2, 1) := by decide +kernel
theorem dX12_gone_25 : decode cX12_gone 25 = .ok (.ifCond .ge 34, 3) := by decide +kernel
theorem dX12_gone_28 : decode cX12_gone 28 = .ok (.aload_n 0, 1) := by decide +kernel
theorem dX12_gone_29 : decode cX12_gone 29 = .ok (.invokevirtual 405, 3) := by decide +kernel
theorem dX12_gone_32 : decode cX12_gone 32 = .ok (.istore 4, 2) := by decide +kernel
theorem dX12_gone_34 : decode cX12_gone 34 = .ok (.aload_n 0, 1) := by decide +kernel
theorem dX12_gone_35 : decode cX12_gone 35 = .ok (.iload_n 1, 1) := by decide +kernel
theorem dX12_gone_36 : decode cX12_gone 36 = .ok (.invokevirtual 411, 3) := by decide +kernel
theorem dX12_gone_39 : decode cX12_gone 39 = .ok (.ifCond .eq 12, 3) := by decide +kernel
theorem dX12_gone_42 : decode cX12_gone 42 = .ok (.iload 4, 2) := by decide +kernel
theorem dX12_gone_44 : decode cX12_gone 44 = .ok (.iload_n 1, 1) := by decide +kernel
theorem dX12_gone_45 : decode cX12_gone 45 = .ok (.invokestatic 250, 3) := by decide +kernel
theorem dX12_gone_48 : decode cX12_gone 48 = .ok (.ifCond .eq 5, 3) := by decide +kernel
theorem dX12_gone_51 : decode cX12_gone 51 = .ok (.iload_n 3, 1) := by decide +kernel
theorem dX12_gone_52 : decode cX12_gone 52 = .ok (.istore_n 2, 1) := by decide +kernel
theorem dX12_gone_53 : decode cX12_gone 53 = .ok (.iinc 3 1, 3) := by decide +kernel
theorem dX12_gone_56 : decode cX12_gone 56 = .ok (.goto (-38), 3) := by decide +kernel
theorem dX12_gone_59 : decode cX12_gone 59 = .ok (.aload_n 0, 1) := by decide +kernel
theorem dX12_gone_60 : decode cX12_gone 60 = .ok (.invokevirtual 436, 3) := by decide +kernel
theorem dX12_gone_63 : decode cX12_gone 63 = .ok (.iload_n 2, 1) := by decide +kernel
theorem dX12_gone_64 : decode cX12_gone 64 = .ok (.ireturn, 1) := by decide +kernel
theorem dX12_need_0 : decode cX12_need 0 = .ok (.iload_n 1, 1) := by decide +kernel
theorem dX12_need_1 : decode cX12_need 1 = .ok (.iconst 0, 1) := by decide +kernel
theorem dX12_need_2 : decode cX12_need 2 = .ok (.bipush 30, 2) := by decide +kernel
theorem dX12_need_4 : decode cX12_need 4 = .ok (.invokestatic 346, 3) := by decide +kernel
theorem dX12_need_7 : decode cX12_need 7 = .ok (.ifCond .ne 5, 3) := by decide +kernel
theorem dX12_need_10 : decode cX12_need 10 = .ok (.iconst (-1), 1) := by decide +kernel
theorem dX12_need_11 : decode cX12_need 11 = .ok (.ireturn, 1) := by decide +kernel
theorem dX12_need_12 : decode cX12_need 12 = .ok (.iconst 0, 1) := by decide +kernel
theorem dX12_need_13 : decode cX12_need 13 = .ok (.istore_n 2, 1) := by decide +kernel
theorem dX12_need_14 : decode cX12_need 14 = .ok (.iconst 0, 1) := by decide +kernel
theorem dX12_need_15 : decode cX12_need 15 = .ok (.istore_n 3, 1) := by decide +kernel
theorem dX12_need_16 : decode cX12_need 16 = .ok (.iload_n 3, 1) := by decide +kernel
theorem dX12_need_17 : decode cX12_need 17 = .ok (.bipush 8, 2) := by decide +kernel
theorem dX12_need_19 : decode cX12_need 19 = .ok (.if_icmp .ge 48, 3) := by decide +kernel
theorem dX12_need_22 : decode cX12_need 22 = .ok (.iload_n 2, 1) := by decide +kernel
theorem dX12_need_23 : decode cX12_need 23 = .ok (.aload_n 0, 1) := by decide +kernel
theorem dX12_need_24 : decode cX12_need 24 = .ok (.iload_n 3, 1) := by decide +kernel
theorem dX12_need_25 : decode cX12_need 25 = .ok (.invokevirtual 411, 3) := by decide +kernel
theorem dX12_need_28 : decode cX12_need 28 = .ok (.ifCond .eq 30, 3) := by decide +kernel
theorem dX12_need_31 : decode cX12_need 31 = .ok (.iload_n 1, 1) := by decide +kernel
theorem dX12_need_32 : decode cX12_need 32 = .ok (.aload_n 0, 1) := by decide +kernel
theorem dX12_need_33 : decode cX12_need 33 = .ok (.getfield 85, 3) := by decide +kernel
theorem dX12_need_36 : decode cX12_need 36 = .ok (.bipush 24, 2) := by decide +kernel
theorem dX12_need_38 : decode cX12_need 38 = .ok (.iload_n 3, 1) := by decide +kernel
theorem dX12_need_39 : decode cX12_need 39 = .ok (.iadd, 1) := by decide +kernel
theorem dX12_need_40 : decode cX12_need 40 = .ok (.iaload, 1) := by decide +kernel
theorem dX12_need_41 : decode cX12_need 41 = .ok (.if_icmp .le 17, 3) := by decide +kernel
theorem dX12_need_44 : decode cX12_need 44 = .ok (.iload_n 1, 1) := by decide +kernel
theorem dX12_need_45 : decode cX12_need 45 = .ok (.aload_n 0, 1) := by decide +kernel
theorem dX12_need_46 : decode cX12_need 46 = .ok (.getfield 85, 3) := by decide +kernel
theorem dX12_need_49 : decode cX12_need 49 = .ok (.bipush 24, 2) := by decide +kernel
theorem dX12_need_51 : decode cX12_need 51 = .ok (.iload_n 3, 1) := by decide +kernel
theorem dX12_need_52 : decode cX12_need 52 = .ok (.iadd, 1) := by decide +kernel
theorem dX12_need_53 : decode cX12_need 53 = .ok (.iaload, 1) := by decide +kernel
theorem dX12_need_54 : decode cX12_need 54 = .ok (.isub, 1) := by decide +kernel
theorem dX12_need_55 : decode cX12_need 55 = .ok (.goto 4, 3) := by decide +kernel
theorem dX12_need_58 : decode cX12_need 58 = .ok (.iconst 0, 1) := by decide +kernel
theorem dX12_need_59 : decode cX12_need 59 = .ok (.iadd, 1) := by decide +kernel
theorem dX12_need_60 : decode cX12_need 60 = .ok (.istore_n 2, 1) := by decide +kernel
theorem dX12_need_61 : decode cX12_need 61 = .ok (.iinc 3 1, 3) := by decide +kernel
theorem dX12_need_64 : decode cX12_need 64 = .ok (.goto (-48), 3) := by decide +kernel
theorem dX12_need_67 : decode cX12_need 67 = .ok (.iload_n 2, 1) := by decide +kernel
theorem dX12_need_68 : decode cX12_need 68 = .ok (.ireturn, 1) := by decide +kernel
theorem dX12_best_0 : decode cX12_best 0 = .ok (.aload_n 0, 1) := by decide +kernel
theorem dX12_best_1 : decode cX12_best 1 = .ok (.iload_n 1, 1) := by decide +kernel
theorem dX12_best_2 : decode cX12_best 2 = .ok (.invokevirtual 411, 3) := by decide +kernel
theorem dX12_best_5 : decode cX12_best 5 = .ok (.ifCond .eq 12, 3) := by decide +kernel
theorem dX12_best_8 : decode cX12_best 8 = .ok (.iload_n 2, 1) := by decide +kernel
theorem dX12_best_9 : decode cX12_best 9 = .ok (.iconst 0, 1) := by decide +kernel
theorem dX12_best_10 : decode cX12_best 10 = .ok (.iconst 1, 1) := by decide +kernel
theorem dX12_best_11 : decode cX12_best 11 = .ok (.invokestatic 346, 3) := by decide +kernel
theorem dX12_best_14 : decode cX12_best 14 = .ok (.ifCond .ne 5, 3) := by decide +kernel
theorem dX12_best_17 : decode cX12_best 17 = .ok (.iconst (-1), 1) := by decide +kernel
theorem dX12_best_18 : decode cX12_best 18 = .ok (.ireturn, 1) := by decide +kernel
theorem dX12_best_19 : decode cX12_best 19 = .ok (.iconst (-1), 1) := by decide +kernel
theorem dX12_best_20 : decode cX12_best 20 = .ok (.istore_n 3, 1) := by decide +kernel
theorem dX12_best_21 : decode cX12_best 21 = .ok (.iconst (-1), 1) := by decide +kernel
theorem dX12_best_22 : decode cX12_best 22 = .ok (.istore 4, 2) := by decide +kernel
theorem dX12_best_24 : decode cX12_best 24 = .ok (.iconst 0, 1) := by decide +kernel
theorem dX12_best_25 : decode cX12_best 25 = .ok (.istore 5, 2) := by decide +kernel
theorem dX12_best_27 : decode cX12_best 27 = .ok (.iload 5, 2) := by decide +kernel
theorem dX12_best_29 : decode cX12_best 29 = .ok (.aload_n 0, 1) := by decide +kernel
theorem dX12_best_30 : decode cX12_best 30 = .ok (.invokevirtual 343, 3) := by decide +kernel
theorem dX12_best_33 : decode cX12_best 33 = .ok (.if_icmp .ge 88, 3) := by decide +kernel
theorem dX12_best_36 : decode cX12_best 36 = .ok (.aload_n 0, 1) := by decide +kernel
theorem dX12_best_37 : decode cX12_best 37 = .ok (.getfield 85, 3) := by decide +kernel
theorem dX12_best_40 : decode cX12_best 40 = .ok (.bipush 8, 2) := by decide +kernel
theorem dX12_best_42 : decode cX12_best 42 = .ok (.iload_n 1, 1) := by decide +kernel
theorem dX12_best_43 : decode cX12_best 43 = .ok (.iadd, 1) := by decide +kernel
theorem dX12_best_44 : decode cX12_best 44 = .ok (.iaload, 1) := by decide +kernel
theorem dX12_best_45 : decode cX12_best 45 = .ok (.iload 5, 2) := by decide +kernel
theorem dX12_best_47 : decode cX12_best 47 = .ok (.if_icmp .eq 16, 3) := by decide +kernel
theorem dX12_best_50 : decode cX12_best 50 = .ok (.aload_n 0, 1) := by decide +kernel
theorem dX12_best_51 : decode cX12_best 51 = .ok (.iload_n 1, 1) := by decide +kernel
theorem dX12_best_52 : decode cX12_best 52 = .ok (.iload 5, 2) := by decide +kernel
theorem dX12_best_54 : decode cX12_best 54 = .ok (.invokevirtual 424, 3) := by decide +kernel
theorem dX12_best_57 : decode cX12_best 57 = .ok (.ifCond .ne 6, 3) := by decide +kernel
theorem dX12_best_60 : decode cX12_best 60 = .ok (.goto 55, 3) := by decide +kernel
theorem dX12_best_63 : decode cX12_best 63 = .ok (.aload_n 0, 1) := by decide +kernel
theorem dX12_best_64 : decode cX12_best 64 = .ok (.invokevirtual 430, 3) := by decide +kernel
theorem dX12_best_67 : decode cX12_best 67 = .ok (.aload_n 0, 1) := by decide +kernel
theorem dX12_best_68 : decode cX12_best 68 = .ok (.getfield 85, 3) := by decide +kernel
theorem dX12_best_71 : decode cX12_best 71 = .ok (.bipush 8, 2) := by decide +kernel
theorem dX12_best_73 : decode cX12_best 73 = .ok (.iload_n 1, 1) := by decide +kernel
theorem dX12_best_74 : decode cX12_best 74 = .ok (.iadd, 1) := by decide +kernel
theorem dX12_best_75 : decode cX12_best 75 = .ok (.iload 5, 2) := by decide +kernel
theorem dX12_best_77 : decode cX12_best 77 = .ok (.iastore, 1) := by decide +kernel
theorem dX12_best_78 : decode cX12_best 78 = .ok (.aload_n 0, 1) := by decide +kernel
theorem dX12_best_79 : decode cX12_best 79 = .ok (.iconst 5, 1) := by decide +kernel
theorem dX12_best_80 : decode cX12_best 80 = .ok (.invokevirtual 433, 3) := by decide +kernel
theorem dX12_best_83 : decode cX12_best 83 = .ok (.istore 6, 2) := by decide +kernel
theorem dX12_best_85 : decode cX12_best 85 = .ok (.aload_n 0, 1) := by decide +kernel
theorem dX12_best_86 : decode cX12_best 86 = .ok (.invokevirtual 331, 3) := by decide +kernel
theorem dX12_best_89 : decode cX12_best 89 = .ok (.invokestatic 334, 3) := by decide +kernel
theorem dX12_best_92 : decode cX12_best 92 = .ok (.istore 7, 2) := by decide +kernel
theorem dX12_best_94 : decode cX12_best 94 = .ok (.aload_n 0, 1) := by decide +kernel
theorem dX12_best_95 : decode cX12_best 95 = .ok (.invokevirtual 436, 3) := by decide +kernel
theorem dX12_best_98 : decode cX12_best 98 = .ok (.iload 7, 2) := by decide +kernel
theorem dX12_best_100 : decode cX12_best 100 = .ok (.iload 4, 2) := by decide +kernel
theorem dX12_best_102 : decode cX12_best 102 = .ok (.if_icmp .gt 6, 3) := by decide +kernel
theorem dX12_best_105 : decode cX12_best 105 = .ok (.goto 10, 3) := by decide +kernel
theorem dX12_best_108 : decode cX12_best 108 = .ok (.iload 5, 2) := by decide +kernel
theorem dX12_best_110 : decode cX12_best 110 = .ok (.istore_n 3, 1) := by decide +kernel
theorem dX12_best_111 : decode cX12_best 111 = .ok (.iload 7, 2) := by decide +kernel
theorem dX12_best_113 : decode cX12_best 113 = .ok (.istore 4, 2) := by decide +kernel
theorem dX12_best_115 : decode cX12_best 115 = .ok (.iinc 5 1, 3) := by decide +kernel
theorem dX12_best_118 : decode cX12_best 118 = .ok (.goto (-91), 3) := by decide +kernel
theorem dX12_best_121 : decode cX12_best 121 = .ok (.iload_n 2, 1) := by decide +kernel
theorem dX12_best_122 : decode cX12_best 122 = .ok (.ifCond .ne 7, 3) := by decide +kernel
theorem dX12_best_125 : decode cX12_best 125 = .ok (.iload_n 3, 1) := by decide +kernel
theorem dX12_best_126 : decode cX12_best 126 = .ok (.goto 5, 3) := by decide +kernel
theorem dX12_best_129 : decode cX12_best 129 = .ok (.iload 4, 2) := by decide +kernel
theorem dX12_best_131 : decode cX12_best 131 = .ok (.ireturn, 1) := by decide +kernel
theorem dX12_lies_0 : decode cX12_lies 0 = .ok (.iload_n 1, 1) := by decide +kernel
theorem dX12_lies_1 : decode cX12_lies 1 = .ok (.iconst 0, 1) := by decide +kernel
theorem dX12_lies_2 : decode cX12_lies 2 = .ok (.aload_n 0, 1) := by decide +kernel
theorem dX12_lies_3 : decode cX12_lies 3 = .ok (.getfield 372, 3) := by decide +kernel
theorem dX12_lies_6 : decode cX12_lies 6 = .ok (.iconst 1, 1) := by decide +kernel
theorem dX12_lies_7 : decode cX12_lies 7 = .ok (.isub, 1) := by decide +kernel
theorem dX12_lies_8 : decode cX12_lies 8 = .ok (.invokestatic 346, 3) := by decide +kernel
theorem dX12_lies_11 : decode cX12_lies 11 = .ok (.ifCond .eq 12, 3) := by decide +kernel
theorem dX12_lies_14 : decode cX12_lies 14 = .ok (.aload_n 0, 1) := by decide +kernel
theorem dX12_lies_15 : decode cX12_lies 15 = .ok (.getfield 97, 3) := by decide +kernel
theorem dX12_lies_18 : decode cX12_lies 18 = .ok (.iload_n 1, 1) := by decide +kernel
theorem dX12_lies_19 : decode cX12_lies 19 = .ok (.iaload, 1) := by decide +kernel
theorem dX12_lies_20 : decode cX12_lies 20 = .ok (.goto 5, 3) := by decide +kernel
theorem dX12_lies_23 : decode cX12_lies 23 = .ok (.bipush (-2), 2) := by decide +kernel
theorem dX12_lies_25 : decode cX12_lies 25 = .ok (.ireturn, 1) := by decide +kernel
theorem dX12_twoBits_0 : decode cX12_twoBits 0 = .ok (.iload_n 0, 1) := by decide +kernel
theorem dX12_twoBits_1 : decode cX12_twoBits 1 = .ok (.iconst 2, 1) := by decide +kernel
theorem dX12_twoBits_2 : decode cX12_twoBits 2 = .ok (.bipush 7, 2) := by decide +kernel
theorem dX12_twoBits_4 : decode cX12_twoBits 4 = .ok (.iload_n 1, 1) := by decide +kernel
theorem dX12_twoBits_5 : decode cX12_twoBits 5 = .ok (.isub, 1) := by decide +kernel
theorem dX12_twoBits_6 : decode cX12_twoBits 6 = .ok (.imul, 1) := by decide +kernel
theorem dX12_twoBits_7 : decode cX12_twoBits 7 = .ok (.ishr, 1) := by decide +kernel
theorem dX12_twoBits_8 : decode cX12_twoBits 8 = .ok (.iconst 3, 1) := by decide +kernel
theorem dX12_twoBits_9 : decode cX12_twoBits 9 = .ok (.iand, 1) := by decide +kernel
theorem dX12_twoBits_10 : decode cX12_twoBits 10 = .ok (.ireturn, 1) := by decide +kernel
theorem dX12_roomsIn_0 : decode cX12_roomsIn 0 = .ok (.iconst 0, 1) := by decide +kernel
theorem dX12_roomsIn_1 : decode cX12_roomsIn 1 = .ok (.istore_n 2, 1) := by decide +kernel
theorem dX12_roomsIn_2 : decode cX12_roomsIn 2 = .ok (.iconst 0, 1) := by decide +kernel
theorem dX12_roomsIn_3 : decode cX12_roomsIn 3 = .ok (.istore_n 3, 1) := by decide +kernel
theorem dX12_roomsIn_4 : decode cX12_roomsIn 4 = .ok (.iload_n 3, 1) := by decide +kernel
theorem dX12_roomsIn_5 : decode cX12_roomsIn 5 = .ok (.iconst 4, 1) := by decide +kernel
theorem dX12_roomsIn_6 : decode cX12_roomsIn 6 = .ok (.if_icmp .ge 107, 3) := by decide +kernel
theorem dX12_roomsIn_9 : decode cX12_roomsIn 9 = .ok (.iconst 0, 1) := by decide +kernel
theorem dX12_roomsIn_10 : decode cX12_roomsIn 10 = .ok (.istore 4, 2) := by decide +kernel
theorem dX12_roomsIn_12 : decode cX12_roomsIn 12 = .ok (.iconst 0, 1) := by decide +kernel
theorem dX12_roomsIn_13 : decode cX12_roomsIn 13 = .ok (.istore 5, 2) := by decide +kernel
theorem dX12_roomsIn_15 : decode cX12_roomsIn 15 = .ok (.iconst 0, 1) := by decide +kernel
theorem dX12_roomsIn_16 : decode cX12_roomsIn 16 = .ok (.istore 6, 2) := by decide +kernel
theorem dX12_roomsIn_18 : decode cX12_roomsIn 18 = .ok (.iload 6, 2) := by decide +kernel
theorem dX12_roomsIn_20 : decode cX12_roomsIn 20 = .ok (.bipush 8, 2) := by decide +kernel
theorem dX12_roomsIn_22 : decode cX12_roomsIn 22 = .ok (.if_icmp .ge 51, 3) := by decide +kernel
theorem dX12_roomsIn_25 : decode cX12_roomsIn 25 = .ok (.iload_n 1, 1) := by decide +kernel
theorem dX12_roomsIn_26 : decode cX12_roomsIn 26 = .ok (.iload 6, 2) := by decide +kernel
theorem dX12_roomsIn_28 : decode cX12_roomsIn 28 = .ok (.invokestatic 442, 3) := by decide +kernel
theorem dX12_roomsIn_31 : decode cX12_roomsIn 31 = .ok (.iload_n 3, 1) := by decide +kernel
theorem dX12_roomsIn_32 : decode cX12_roomsIn 32 = .ok (.if_icmp .ne 35, 3) := by decide +kernel
theorem dX12_roomsIn_35 : decode cX12_roomsIn 35 = .ok (.aload_n 0, 1) := by decide +kernel
theorem dX12_roomsIn_36 : decode cX12_roomsIn 36 = .ok (.getfield 85, 3) := by decide +kernel
theorem dX12_roomsIn_39 : decode cX12_roomsIn 39 = .ok (.iconst 0, 1) := by decide +kernel
theorem dX12_roomsIn_40 : decode cX12_roomsIn 40 = .ok (.iload 6, 2) := by decide +kernel
theorem dX12_roomsIn_42 : decode cX12_roomsIn 42 = .ok (.iadd, 1) := by decide +kernel
theorem dX12_roomsIn_43 : decode cX12_roomsIn 43 = .ok (.iaload, 1) := by decide +kernel
theorem dX12_roomsIn_44 : decode cX12_roomsIn 44 = .ok (.ifCond .ne 6, 3) := by decide +kernel
theorem dX12_roomsIn_47 : decode cX12_roomsIn 47 = .ok (.goto 20, 3) := by decide +kernel
theorem dX12_roomsIn_50 : decode cX12_roomsIn 50 = .ok (.iload 4, 2) := by decide +kernel
theorem dX12_roomsIn_52 : decode cX12_roomsIn 52 = .ok (.aload_n 0, 1) := by decide +kernel
theorem dX12_roomsIn_53 : decode cX12_roomsIn 53 = .ok (.getfield 85, 3) := by decide +kernel
theorem dX12_roomsIn_56 : decode cX12_roomsIn 56 = .ok (.iconst 0, 1) := by decide +kernel
theorem dX12_roomsIn_57 : decode cX12_roomsIn 57 = .ok (.iload 6, 2) := by decide +kernel
theorem dX12_roomsIn_59 : decode cX12_roomsIn 59 = .ok (.iadd, 1) := by decide +kernel
theorem dX12_roomsIn_60 : decode cX12_roomsIn 60 = .ok (.iaload, 1) := by decide +kernel
theorem dX12_roomsIn_61 : decode cX12_roomsIn 61 = .ok (.iadd, 1) := by decide +kernel
theorem dX12_roomsIn_62 : decode cX12_roomsIn 62 = .ok (.istore 4, 2) := by decide +kernel
theorem dX12_roomsIn_64 : decode cX12_roomsIn 64 = .ok (.iinc 5 1, 3) := by decide +kernel
theorem dX12_roomsIn_67 : decode cX12_roomsIn 67 = .ok (.iinc 6 1, 3) := by decide +kernel
theorem dX12_roomsIn_70 : decode cX12_roomsIn 70 = .ok (.goto (-52), 3) := by decide +kernel
theorem dX12_roomsIn_73 : decode cX12_roomsIn 73 = .ok (.iload 5, 2) := by decide +kernel
theorem dX12_roomsIn_75 : decode cX12_roomsIn 75 = .ok (.ifCond .ne 6, 3) := by decide +kernel
theorem dX12_roomsIn_78 : decode cX12_roomsIn 78 = .ok (.goto 29, 3) := by decide +kernel
theorem dX12_roomsIn_81 : decode cX12_roomsIn 81 = .ok (.iload_n 3, 1) := by decide +kernel
theorem dX12_roomsIn_82 : decode cX12_roomsIn 82 = .ok (.aload_n 0, 1) := by decide +kernel
theorem dX12_roomsIn_83 : decode cX12_roomsIn 83 = .ok (.invokevirtual 343, 3) := by decide +kernel
theorem dX12_roomsIn_86 : decode cX12_roomsIn 86 = .ok (.if_icmp .ge 13, 3) := by decide +kernel
theorem dX12_roomsIn_89 : decode cX12_roomsIn 89 = .ok (.iload 4, 2) := by decide +kernel
theorem dX12_roomsIn_91 : decode cX12_roomsIn 91 = .ok (.aload_n 0, 1) := by decide +kernel
theorem dX12_roomsIn_92 : decode cX12_roomsIn 92 = .ok (.iload_n 3, 1) := by decide +kernel
theorem dX12_roomsIn_93 : decode cX12_roomsIn 93 = .ok (.invokevirtual 350, 3) := by decide +kernel
theorem dX12_roomsIn_96 : decode cX12_roomsIn 96 = .ok (.if_icmp .le 5, 3) := by decide +kernel
theorem dX12_roomsIn_99 : decode cX12_roomsIn 99 = .ok (.iconst (-1), 1) := by decide +kernel
theorem dX12_roomsIn_100 : decode cX12_roomsIn 100 = .ok (.ireturn, 1) := by decide +kernel
theorem dX12_roomsIn_101 : decode cX12_roomsIn 101 = .ok (.iload_n 2, 1) := by decide +kernel
theorem dX12_roomsIn_102 : decode cX12_roomsIn 102 = .ok (.iconst 1, 1) := by decide +kernel
theorem dX12_roomsIn_103 : decode cX12_roomsIn 103 = .ok (.iload_n 3, 1) := by decide +kernel
theorem dX12_roomsIn_104 : decode cX12_roomsIn 104 = .ok (.ishl, 1) := by decide +kernel
theorem dX12_roomsIn_105 : decode cX12_roomsIn 105 = .ok (.ior, 1) := by decide +kernel
theorem dX12_roomsIn_106 : decode cX12_roomsIn 106 = .ok (.istore_n 2, 1) := by decide +kernel
theorem dX12_roomsIn_107 : decode cX12_roomsIn 107 = .ok (.iinc 3 1, 3) := by decide +kernel
theorem dX12_roomsIn_110 : decode cX12_roomsIn 110 = .ok (.goto (-106), 3) := by decide +kernel
theorem dX12_roomsIn_113 : decode cX12_roomsIn 113 = .ok (.iload_n 2, 1) := by decide +kernel
theorem dX12_roomsIn_114 : decode cX12_roomsIn 114 = .ok (.ireturn, 1) := by decide +kernel
theorem dX12_pack_0 : decode cX12_pack 0 = .ok (.aload_n 0, 1) := by decide +kernel
theorem dX12_pack_1 : decode cX12_pack 1 = .ok (.iconst 0, 1) := by decide +kernel
theorem dX12_pack_2 : decode cX12_pack 2 = .ok (.putfield 372, 3) := by decide +kernel
theorem dX12_pack_5 : decode cX12_pack 5 = .ok (.iconst (-1), 1) := by decide +kernel
theorem dX12_pack_6 : decode cX12_pack 6 = .ok (.istore_n 1, 1) := by decide +kernel
theorem dX12_pack_7 : decode cX12_pack 7 = .ok (.sipush 1000, 3) := by decide +kernel
theorem dX12_pack_10 : decode cX12_pack 10 = .ok (.istore_n 2, 1) := by decide +kernel
theorem dX12_pack_11 : decode cX12_pack 11 = .ok (.iconst 0, 1) := by decide +kernel
theorem dX12_pack_12 : decode cX12_pack 12 = .ok (.istore_n 3, 1) := by decide +kernel
theorem dX12_pack_13 : decode cX12_pack 13 = .ok (.iconst 0, 1) := by decide +kernel
theorem dX12_pack_14 : decode cX12_pack 14 = .ok (.istore 4, 2) := by decide +kernel
theorem dX12_pack_16 : decode cX12_pack 16 = .ok (.iload 4, 2) := by decide +kernel
theorem dX12_pack_18 : decode cX12_pack 18 = .ok (.bipush 8, 2) := by decide +kernel
theorem dX12_pack_20 : decode cX12_pack 20 = .ok (.if_icmp .ge 33, 3) := by decide +kernel
theorem dX12_pack_23 : decode cX12_pack 23 = .ok (.aload_n 0, 1) := by decide +kernel
theorem dX12_pack_24 : decode cX12_pack 24 = .ok (.getfield 85, 3) := by decide +kernel
theorem dX12_pack_27 : decode cX12_pack 27 = .ok (.iconst 0, 1) := by decide +kernel
theorem dX12_pack_28 : decode cX12_pack 28 = .ok (.iload 4, 2) := by decide +kernel
theorem dX12_pack_30 : decode cX12_pack 30 = .ok (.iadd, 1) := by decide +kernel
theorem dX12_pack_31 : decode cX12_pack 31 = .ok (.iaload, 1) := by decide +kernel
theorem dX12_pack_32 : decode cX12_pack 32 = .ok (.ifCond .ne 15, 3) := by decide +kernel
theorem dX12_pack_35 : decode cX12_pack 35 = .ok (.iload_n 3, 1) := by decide +kernel
theorem dX12_pack_36 : decode cX12_pack 36 = .ok (.iconst 3, 1) := by decide +kernel
theorem dX12_pack_37 : decode cX12_pack 37 = .ok (.iconst 2, 1) := by decide +kernel
theorem dX12_pack_38 : decode cX12_pack 38 = .ok (.bipush 7, 2) := by decide +kernel
theorem dX12_pack_40 : decode cX12_pack 40 = .ok (.iload 4, 2) := by decide +kernel
theorem dX12_pack_42 : decode cX12_pack 42 = .ok (.isub, 1) := by decide +kernel
theorem dX12_pack_43 : decode cX12_pack 43 = .ok (.imul, 1) := by decide +kernel
theorem dX12_pack_44 : decode cX12_pack 44 = .ok (.ishl, 1) := by decide +kernel
theorem dX12_pack_45 : decode cX12_pack 45 = .ok (.ior, 1) := by decide +kernel
theorem dX12_pack_46 : decode cX12_pack 46 = .ok (.istore_n 3, 1) := by decide +kernel
theorem dX12_pack_47 : decode cX12_pack 47 = .ok (.iinc 4 1, 3) := by decide +kernel
theorem dX12_pack_50 : decode cX12_pack 50 = .ok (.goto (-34), 3) := by decide +kernel
theorem dX12_pack_53 : decode cX12_pack 53 = .ok (.iconst 0, 1) := by decide +kernel
theorem dX12_pack_54 : decode cX12_pack 54 = .ok (.istore 4, 2) := by decide +kernel
theorem dX12_pack_56 : decode cX12_pack 56 = .ok (.iload 4, 2) := by decide +kernel
theorem dX12_pack_58 : decode cX12_pack 58 = .ok (.ldc_w 445, 3) := by decide +kernel
theorem dX12_pack_61 : decode cX12_pack 61 = .ok (.if_icmp .ge 53, 3) := by decide +kernel
theorem dX12_pack_64 : decode cX12_pack 64 = .ok (.iload 4, 2) := by decide +kernel
theorem dX12_pack_66 : decode cX12_pack 66 = .ok (.iload_n 3, 1) := by decide +kernel
theorem dX12_pack_67 : decode cX12_pack 67 = .ok (.iand, 1) := by decide +kernel
theorem dX12_pack_68 : decode cX12_pack 68 = .ok (.ifCond .eq 6, 3) := by decide +kernel
theorem dX12_pack_71 : decode cX12_pack 71 = .ok (.goto 37, 3) := by decide +kernel
theorem dX12_pack_74 : decode cX12_pack 74 = .ok (.aload_n 0, 1) := by decide +kernel
theorem dX12_pack_75 : decode cX12_pack 75 = .ok (.iload 4, 2) := by decide +kernel
theorem dX12_pack_77 : decode cX12_pack 77 = .ok (.invokevirtual 446, 3) := by decide +kernel
theorem dX12_pack_80 : decode cX12_pack 80 = .ok (.istore 5, 2) := by decide +kernel
theorem dX12_pack_82 : decode cX12_pack 82 = .ok (.iload 5, 2) := by decide +kernel
theorem dX12_pack_84 : decode cX12_pack 84 = .ok (.ifCond .lt 24, 3) := by decide +kernel
theorem dX12_pack_87 : decode cX12_pack 87 = .ok (.iload 5, 2) := by decide +kernel
theorem dX12_pack_89 : decode cX12_pack 89 = .ok (.invokestatic 334, 3) := by decide +kernel
theorem dX12_pack_92 : decode cX12_pack 92 = .ok (.iload_n 2, 1) := by decide +kernel
theorem dX12_pack_93 : decode cX12_pack 93 = .ok (.if_icmp .lt 6, 3) := by decide +kernel
theorem dX12_pack_96 : decode cX12_pack 96 = .ok (.goto 12, 3) := by decide +kernel
theorem dX12_pack_99 : decode cX12_pack 99 = .ok (.iload 4, 2) := by decide +kernel
theorem dX12_pack_101 : decode cX12_pack 101 = .ok (.istore_n 1, 1) := by decide +kernel
theorem dX12_pack_102 : decode cX12_pack 102 = .ok (.iload 5, 2) := by decide +kernel
theorem dX12_pack_104 : decode cX12_pack 104 = .ok (.invokestatic 334, 3) := by decide +kernel
theorem dX12_pack_107 : decode cX12_pack 107 = .ok (.istore_n 2, 1) := by decide +kernel
theorem dX12_pack_108 : decode cX12_pack 108 = .ok (.iinc 4 1, 3) := by decide +kernel
theorem dX12_pack_111 : decode cX12_pack 111 = .ok (.goto (-55), 3) := by decide +kernel
theorem dX12_pack_114 : decode cX12_pack 114 = .ok (.iload_n 1, 1) := by decide +kernel
theorem dX12_pack_115 : decode cX12_pack 115 = .ok (.ifCond .ge 5, 3) := by decide +kernel
theorem dX12_pack_118 : decode cX12_pack 118 = .ok (.iconst (-1), 1) := by decide +kernel
theorem dX12_pack_119 : decode cX12_pack 119 = .ok (.ireturn, 1) := by decide +kernel
theorem dX12_pack_120 : decode cX12_pack 120 = .ok (.iconst 0, 1) := by decide +kernel
theorem dX12_pack_121 : decode cX12_pack 121 = .ok (.istore 4, 2) := by decide +kernel
theorem dX12_pack_123 : decode cX12_pack 123 = .ok (.iload 4, 2) := by decide +kernel
theorem dX12_pack_125 : decode cX12_pack 125 = .ok (.bipush 8, 2) := by decide +kernel
theorem dX12_pack_127 : decode cX12_pack 127 = .ok (.if_icmp .ge 38, 3) := by decide +kernel
theorem dX12_pack_130 : decode cX12_pack 130 = .ok (.aload_n 0, 1) := by decide +kernel
theorem dX12_pack_131 : decode cX12_pack 131 = .ok (.getfield 97, 3) := by decide +kernel
theorem dX12_pack_134 : decode cX12_pack 134 = .ok (.iload 4, 2) := by decide +kernel
theorem dX12_pack_136 : decode cX12_pack 136 = .ok (.aload_n 0, 1) := by decide +kernel
theorem dX12_pack_137 : decode cX12_pack 137 = .ok (.getfield 85, 3) := by decide +kernel
theorem dX12_pack_140 : decode cX12_pack 140 = .ok (.iconst 0, 1) := by decide +kernel
theorem dX12_pack_141 : decode cX12_pack 141 = .ok (.iload 4, 2) := by decide +kernel
theorem dX12_pack_143 : decode cX12_pack 143 = .ok (.iadd, 1) := by decide +kernel
theorem dX12_pack_144 : decode cX12_pack 144 = .ok (.iaload, 1) := by decide +kernel
theorem dX12_pack_145 : decode cX12_pack 145 = .ok (.ifCond .ne 7, 3) := by decide +kernel
theorem dX12_pack_148 : decode cX12_pack 148 = .ok (.iconst (-1), 1) := by decide +kernel
theorem dX12_pack_149 : decode cX12_pack 149 = .ok (.goto 9, 3) := by decide +kernel
theorem dX12_pack_152 : decode cX12_pack 152 = .ok (.iload_n 1, 1) := by decide +kernel
theorem dX12_pack_153 : decode cX12_pack 153 = .ok (.iload 4, 2) := by decide +kernel
theorem dX12_pack_155 : decode cX12_pack 155 = .ok (.invokestatic 442, 3) := by decide +kernel
theorem dX12_pack_158 : decode cX12_pack 158 = .ok (.iastore, 1) := by decide +kernel
theorem dX12_pack_159 : decode cX12_pack 159 = .ok (.iinc 4 1, 3) := by decide +kernel
theorem dX12_pack_162 : decode cX12_pack 162 = .ok (.goto (-39), 3) := by decide +kernel
theorem dX12_pack_165 : decode cX12_pack 165 = .ok (.aload_n 0, 1) := by decide +kernel
theorem dX12_pack_166 : decode cX12_pack 166 = .ok (.bipush 8, 2) := by decide +kernel
theorem dX12_pack_168 : decode cX12_pack 168 = .ok (.putfield 372, 3) := by decide +kernel
theorem dX12_pack_171 : decode cX12_pack 171 = .ok (.iload_n 2, 1) := by decide +kernel
theorem dX12_pack_172 : decode cX12_pack 172 = .ok (.ireturn, 1) := by decide +kernel
theorem dX12_fill_0 : decode cX12_fill 0 = .ok (.aload_n 0, 1) := by decide +kernel
theorem dX12_fill_1 : decode cX12_fill 1 = .ok (.iload_n 1, 1) := by decide +kernel
theorem dX12_fill_2 : decode cX12_fill 2 = .ok (.invokevirtual 408, 3) := by decide +kernel
theorem dX12_fill_5 : decode cX12_fill 5 = .ok (.ifCond .eq 12, 3) := by decide +kernel
theorem dX12_fill_8 : decode cX12_fill 8 = .ok (.iload_n 2, 1) := by decide +kernel
theorem dX12_fill_9 : decode cX12_fill 9 = .ok (.iconst 0, 1) := by decide +kernel
theorem dX12_fill_10 : decode cX12_fill 10 = .ok (.iconst 1, 1) := by decide +kernel
theorem dX12_fill_11 : decode cX12_fill 11 = .ok (.invokestatic 346, 3) := by decide +kernel
theorem dX12_fill_14 : decode cX12_fill 14 = .ok (.ifCond .ne 5, 3) := by decide +kernel
theorem dX12_fill_17 : decode cX12_fill 17 = .ok (.iconst (-1), 1) := by decide +kernel
theorem dX12_fill_18 : decode cX12_fill 18 = .ok (.ireturn, 1) := by decide +kernel
theorem dX12_fill_19 : decode cX12_fill 19 = .ok (.iconst 0, 1) := by decide +kernel
theorem dX12_fill_20 : decode cX12_fill 20 = .ok (.istore_n 3, 1) := by decide +kernel
theorem dX12_fill_21 : decode cX12_fill 21 = .ok (.iconst 1, 1) := by decide +kernel
theorem dX12_fill_22 : decode cX12_fill 22 = .ok (.istore 4, 2) := by decide +kernel
theorem dX12_fill_24 : decode cX12_fill 24 = .ok (.iload 4, 2) := by decide +kernel
theorem dX12_fill_26 : decode cX12_fill 26 = .ok (.sipush 256, 3) := by decide +kernel
theorem dX12_fill_29 : decode cX12_fill 29 = .ok (.if_icmp .ge 77, 3) := by decide +kernel
theorem dX12_fill_32 : decode cX12_fill 32 = .ok (.iload 4, 2) := by decide +kernel
theorem dX12_fill_34 : decode cX12_fill 34 = .ok (.aload_n 0, 1) := by decide +kernel
theorem dX12_fill_35 : decode cX12_fill 35 = .ok (.invokevirtual 331, 3) := by decide +kernel
theorem dX12_fill_38 : decode cX12_fill 38 = .ok (.iconst (-1), 1) := by decide +kernel
theorem dX12_fill_39 : decode cX12_fill 39 = .ok (.ixor, 1) := by decide +kernel
theorem dX12_fill_40 : decode cX12_fill 40 = .ok (.iand, 1) := by decide +kernel
theorem dX12_fill_41 : decode cX12_fill 41 = .ok (.ifCond .ne 59, 3) := by decide +kernel
theorem dX12_fill_44 : decode cX12_fill 44 = .ok (.aload_n 0, 1) := by decide +kernel
theorem dX12_fill_45 : decode cX12_fill 45 = .ok (.iload 4, 2) := by decide +kernel
theorem dX12_fill_47 : decode cX12_fill 47 = .ok (.invokevirtual 356, 3) := by decide +kernel
theorem dX12_fill_50 : decode cX12_fill 50 = .ok (.aload_n 0, 1) := by decide +kernel
theorem dX12_fill_51 : decode cX12_fill 51 = .ok (.iload_n 1, 1) := by decide +kernel
theorem dX12_fill_52 : decode cX12_fill 52 = .ok (.invokevirtual 350, 3) := by decide +kernel
theorem dX12_fill_55 : decode cX12_fill 55 = .ok (.if_icmp .le 6, 3) := by decide +kernel
theorem dX12_fill_58 : decode cX12_fill 58 = .ok (.goto 42, 3) := by decide +kernel
theorem dX12_fill_61 : decode cX12_fill 61 = .ok (.aload_n 0, 1) := by decide +kernel
theorem dX12_fill_62 : decode cX12_fill 62 = .ok (.iload 4, 2) := by decide +kernel
theorem dX12_fill_64 : decode cX12_fill 64 = .ok (.invokevirtual 356, 3) := by decide +kernel
theorem dX12_fill_67 : decode cX12_fill 67 = .ok (.aload_n 0, 1) := by decide +kernel
theorem dX12_fill_68 : decode cX12_fill 68 = .ok (.iload_n 3, 1) := by decide +kernel
theorem dX12_fill_69 : decode cX12_fill 69 = .ok (.invokevirtual 356, 3) := by decide +kernel
theorem dX12_fill_72 : decode cX12_fill 72 = .ok (.isub, 1) := by decide +kernel
theorem dX12_fill_73 : decode cX12_fill 73 = .ok (.istore 5, 2) := by decide +kernel
theorem dX12_fill_75 : decode cX12_fill 75 = .ok (.iload 5, 2) := by decide +kernel
theorem dX12_fill_77 : decode cX12_fill 77 = .ok (.ifCond .gt 20, 3) := by decide +kernel
theorem dX12_fill_80 : decode cX12_fill 80 = .ok (.iload 5, 2) := by decide +kernel
theorem dX12_fill_82 : decode cX12_fill 82 = .ok (.ifCond .ne 18, 3) := by decide +kernel
theorem dX12_fill_85 : decode cX12_fill 85 = .ok (.iload 4, 2) := by decide +kernel
theorem dX12_fill_87 : decode cX12_fill 87 = .ok (.invokestatic 334, 3) := by decide +kernel
theorem dX12_fill_90 : decode cX12_fill 90 = .ok (.iload_n 3, 1) := by decide +kernel
theorem dX12_fill_91 : decode cX12_fill 91 = .ok (.invokestatic 334, 3) := by decide +kernel
theorem dX12_fill_94 : decode cX12_fill 94 = .ok (.if_icmp .ge 6, 3) := by decide +kernel
theorem dX12_fill_97 : decode cX12_fill 97 = .ok (.iload 4, 2) := by decide +kernel
theorem dX12_fill_99 : decode cX12_fill 99 = .ok (.istore_n 3, 1) := by decide +kernel
theorem dX12_fill_100 : decode cX12_fill 100 = .ok (.iinc 4 1, 3) := by decide +kernel
theorem dX12_fill_103 : decode cX12_fill 103 = .ok (.goto (-79), 3) := by decide +kernel
theorem dX12_fill_106 : decode cX12_fill 106 = .ok (.iload_n 2, 1) := by decide +kernel
theorem dX12_fill_107 : decode cX12_fill 107 = .ok (.ifCond .ne 11, 3) := by decide +kernel
theorem dX12_fill_110 : decode cX12_fill 110 = .ok (.aload_n 0, 1) := by decide +kernel
theorem dX12_fill_111 : decode cX12_fill 111 = .ok (.iload_n 3, 1) := by decide +kernel
theorem dX12_fill_112 : decode cX12_fill 112 = .ok (.invokevirtual 356, 3) := by decide +kernel
theorem dX12_fill_115 : decode cX12_fill 115 = .ok (.goto 4, 3) := by decide +kernel
theorem dX12_fill_118 : decode cX12_fill 118 = .ok (.iload_n 3, 1) := by decide +kernel
theorem dX12_fill_119 : decode cX12_fill 119 = .ok (.ireturn, 1) := by decide +kernel
theorem dX12_leftBut_0 : decode cX12_leftBut 0 = .ok (.aload_n 0, 1) := by decide +kernel
theorem dX12_leftBut_1 : decode cX12_leftBut 1 = .ok (.iload_n 1, 1) := by decide +kernel
theorem dX12_leftBut_2 : decode cX12_leftBut 2 = .ok (.invokevirtual 350, 3) := by decide +kernel
theorem dX12_leftBut_5 : decode cX12_leftBut 5 = .ok (.aload_n 0, 1) := by decide +kernel
theorem dX12_leftBut_6 : decode cX12_leftBut 6 = .ok (.aload_n 0, 1) := by decide +kernel
theorem dX12_leftBut_7 : decode cX12_leftBut 7 = .ok (.iload_n 1, 1) := by decide +kernel
theorem dX12_leftBut_8 : decode cX12_leftBut 8 = .ok (.invokevirtual 353, 3) := by decide +kernel
theorem dX12_leftBut_11 : decode cX12_leftBut 11 = .ok (.iconst 1, 1) := by decide +kernel
theorem dX12_leftBut_12 : decode cX12_leftBut 12 = .ok (.iload_n 2, 1) := by decide +kernel
theorem dX12_leftBut_13 : decode cX12_leftBut 13 = .ok (.ishl, 1) := by decide +kernel
theorem dX12_leftBut_14 : decode cX12_leftBut 14 = .ok (.iconst (-1), 1) := by decide +kernel
theorem dX12_leftBut_15 : decode cX12_leftBut 15 = .ok (.ixor, 1) := by decide +kernel
theorem dX12_leftBut_16 : decode cX12_leftBut 16 = .ok (.iand, 1) := by decide +kernel
theorem dX12_leftBut_17 : decode cX12_leftBut 17 = .ok (.iconst 1, 1) := by decide +kernel
theorem dX12_leftBut_18 : decode cX12_leftBut 18 = .ok (.iload_n 3, 1) := by decide +kernel
theorem dX12_leftBut_19 : decode cX12_leftBut 19 = .ok (.ishl, 1) := by decide +kernel
theorem dX12_leftBut_20 : decode cX12_leftBut 20 = .ok (.iconst (-1), 1) := by decide +kernel
theorem dX12_leftBut_21 : decode cX12_leftBut 21 = .ok (.ixor, 1) := by decide +kernel
theorem dX12_leftBut_22 : decode cX12_leftBut 22 = .ok (.iand, 1) := by decide +kernel
theorem dX12_leftBut_23 : decode cX12_leftBut 23 = .ok (.invokevirtual 356, 3) := by decide +kernel
theorem dX12_leftBut_26 : decode cX12_leftBut 26 = .ok (.isub, 1) := by decide +kernel
theorem dX12_leftBut_27 : decode cX12_leftBut 27 = .ok (.ireturn, 1) := by decide +kernel
theorem dX12_gainOf_0 : decode cX12_gainOf 0 = .ok (.aload_n 0, 1) := by decide +kernel
theorem dX12_gainOf_1 : decode cX12_gainOf 1 = .ok (.iload_n 3, 1) := by decide +kernel
theorem dX12_gainOf_2 : decode cX12_gainOf 2 = .ok (.iload_n 1, 1) := by decide +kernel
theorem dX12_gainOf_3 : decode cX12_gainOf 3 = .ok (.iload_n 2, 1) := by decide +kernel
theorem dX12_gainOf_4 : decode cX12_gainOf 4 = .ok (.invokevirtual 449, 3) := by decide +kernel
theorem dX12_gainOf_7 : decode cX12_gainOf 7 = .ok (.aload_n 0, 1) := by decide +kernel
theorem dX12_gainOf_8 : decode cX12_gainOf 8 = .ok (.getfield 85, 3) := by decide +kernel
theorem dX12_gainOf_11 : decode cX12_gainOf 11 = .ok (.iconst 0, 1) := by decide +kernel
theorem dX12_gainOf_12 : decode cX12_gainOf 12 = .ok (.iload_n 1, 1) := by decide +kernel
theorem dX12_gainOf_13 : decode cX12_gainOf 13 = .ok (.iadd, 1) := by decide +kernel
theorem dX12_gainOf_14 : decode cX12_gainOf 14 = .ok (.iaload, 1) := by decide +kernel
theorem dX12_gainOf_15 : decode cX12_gainOf 15 = .ok (.isub, 1) := by decide +kernel
theorem dX12_gainOf_16 : decode cX12_gainOf 16 = .ok (.iload_n 3, 1) := by decide +kernel
theorem dX12_gainOf_17 : decode cX12_gainOf 17 = .ok (.iload 4, 2) := by decide +kernel
theorem dX12_gainOf_19 : decode cX12_gainOf 19 = .ok (.if_icmp .ne 14, 3) := by decide +kernel
theorem dX12_gainOf_22 : decode cX12_gainOf 22 = .ok (.aload_n 0, 1) := by decide +kernel
theorem dX12_gainOf_23 : decode cX12_gainOf 23 = .ok (.getfield 85, 3) := by decide +kernel
theorem dX12_gainOf_26 : decode cX12_gainOf 26 = .ok (.iconst 0, 1) := by decide +kernel
theorem dX12_gainOf_27 : decode cX12_gainOf 27 = .ok (.iload_n 2, 1) := by decide +kernel
theorem dX12_gainOf_28 : decode cX12_gainOf 28 = .ok (.iadd, 1) := by decide +kernel
theorem dX12_gainOf_29 : decode cX12_gainOf 29 = .ok (.iaload, 1) := by decide +kernel
theorem dX12_gainOf_30 : decode cX12_gainOf 30 = .ok (.goto 4, 3) := by decide +kernel
theorem dX12_gainOf_33 : decode cX12_gainOf 33 = .ok (.iconst 0, 1) := by decide +kernel
theorem dX12_gainOf_34 : decode cX12_gainOf 34 = .ok (.isub, 1) := by decide +kernel
theorem dX12_gainOf_35 : decode cX12_gainOf 35 = .ok (.istore 5, 2) := by decide +kernel
theorem dX12_gainOf_37 : decode cX12_gainOf 37 = .ok (.iload 5, 2) := by decide +kernel
theorem dX12_gainOf_39 : decode cX12_gainOf 39 = .ok (.ifCond .ge 7, 3) := by decide +kernel
theorem dX12_gainOf_42 : decode cX12_gainOf 42 = .ok (.iconst (-1), 1) := by decide +kernel
theorem dX12_gainOf_43 : decode cX12_gainOf 43 = .ok (.goto 5, 3) := by decide +kernel
theorem dX12_gainOf_46 : decode cX12_gainOf 46 = .ok (.iload 5, 2) := by decide +kernel
theorem dX12_gainOf_48 : decode cX12_gainOf 48 = .ok (.ireturn, 1) := by decide +kernel
theorem dX12_canChoose_0 : decode cX12_canChoose 0 = .ok (.aload_n 0, 1) := by decide +kernel
theorem dX12_canChoose_1 : decode cX12_canChoose 1 = .ok (.iload_n 3, 1) := by decide +kernel
theorem dX12_canChoose_2 : decode cX12_canChoose 2 = .ok (.invokevirtual 408, 3) := by decide +kernel
theorem dX12_canChoose_5 : decode cX12_canChoose 5 = .ok (.ifCond .eq 25, 3) := by decide +kernel
theorem dX12_canChoose_8 : decode cX12_canChoose 8 = .ok (.aload_n 0, 1) := by decide +kernel
theorem dX12_canChoose_9 : decode cX12_canChoose 9 = .ok (.iload_n 3, 1) := by decide +kernel
theorem dX12_canChoose_10 : decode cX12_canChoose 10 = .ok (.iload_n 1, 1) := by decide +kernel
theorem dX12_canChoose_11 : decode cX12_canChoose 11 = .ok (.iload_n 2, 1) := by decide +kernel
theorem dX12_canChoose_12 : decode cX12_canChoose 12 = .ok (.invokevirtual 449, 3) := by decide +kernel
theorem dX12_canChoose_15 : decode cX12_canChoose 15 = .ok (.aload_n 0, 1) := by decide +kernel
theorem dX12_canChoose_16 : decode cX12_canChoose 16 = .ok (.getfield 85, 3) := by decide +kernel
theorem dX12_canChoose_19 : decode cX12_canChoose 19 = .ok (.iconst 0, 1) := by decide +kernel
theorem dX12_canChoose_20 : decode cX12_canChoose 20 = .ok (.iload_n 1, 1) := by decide +kernel
theorem dX12_canChoose_21 : decode cX12_canChoose 21 = .ok (.iadd, 1) := by decide +kernel
theorem dX12_canChoose_22 : decode cX12_canChoose 22 = .ok (.iaload, 1) := by decide +kernel
theorem dX12_canChoose_23 : decode cX12_canChoose 23 = .ok (.if_icmp .lt 7, 3) := by decide +kernel
theorem dX12_canChoose_26 : decode cX12_canChoose 26 = .ok (.iconst 1, 1) := by decide +kernel
theorem dX12_canChoose_27 : decode cX12_canChoose 27 = .ok (.goto 4, 3) := by decide +kernel
theorem dX12_canChoose_30 : decode cX12_canChoose 30 = .ok (.iconst 0, 1) := by decide +kernel
theorem dX12_canChoose_31 : decode cX12_canChoose 31 = .ok (.ireturn, 1) := by decide +kernel
theorem dX12_isRest_0 : decode cX12_isRest 0 = .ok (.iconst 0, 1) := by decide +kernel
theorem dX12_isRest_1 : decode cX12_isRest 1 = .ok (.istore 5, 2) := by decide +kernel
theorem dX12_isRest_3 : decode cX12_isRest 3 = .ok (.iload 5, 2) := by decide +kernel
theorem dX12_isRest_5 : decode cX12_isRest 5 = .ok (.aload_n 0, 1) := by decide +kernel
theorem dX12_isRest_6 : decode cX12_isRest 6 = .ok (.invokevirtual 343, 3) := by decide +kernel
theorem dX12_isRest_9 : decode cX12_isRest 9 = .ok (.if_icmp .ge 78, 3) := by decide +kernel
theorem dX12_isRest_12 : decode cX12_isRest 12 = .ok (.aload_n 0, 1) := by decide +kernel
theorem dX12_isRest_13 : decode cX12_isRest 13 = .ok (.iload_n 1, 1) := by decide +kernel
theorem dX12_isRest_14 : decode cX12_isRest 14 = .ok (.iload_n 2, 1) := by decide +kernel
theorem dX12_isRest_15 : decode cX12_isRest 15 = .ok (.iload 5, 2) := by decide +kernel
theorem dX12_isRest_17 : decode cX12_isRest 17 = .ok (.invokevirtual 452, 3) := by decide +kernel
theorem dX12_isRest_20 : decode cX12_isRest 20 = .ok (.ifCond .eq 27, 3) := by decide +kernel
theorem dX12_isRest_23 : decode cX12_isRest 23 = .ok (.aload_n 0, 1) := by decide +kernel
theorem dX12_isRest_24 : decode cX12_isRest 24 = .ok (.iload_n 1, 1) := by decide +kernel
theorem dX12_isRest_25 : decode cX12_isRest 25 = .ok (.iload_n 2, 1) := by decide +kernel
theorem dX12_isRest_26 : decode cX12_isRest 26 = .ok (.iload 5, 2) := by decide +kernel
theorem dX12_isRest_28 : decode cX12_isRest 28 = .ok (.iload 4, 2) := by decide +kernel
theorem dX12_isRest_30 : decode cX12_isRest 30 = .ok (.invokevirtual 455, 3) := by decide +kernel
theorem dX12_isRest_33 : decode cX12_isRest 33 = .ok (.aload_n 0, 1) := by decide +kernel
theorem dX12_isRest_34 : decode cX12_isRest 34 = .ok (.iload_n 1, 1) := by decide +kernel
theorem dX12_isRest_35 : decode cX12_isRest 35 = .ok (.iload_n 2, 1) := by decide +kernel
theorem dX12_isRest_36 : decode cX12_isRest 36 = .ok (.iload_n 3, 1) := by decide +kernel
theorem dX12_isRest_37 : decode cX12_isRest 37 = .ok (.iload 4, 2) := by decide +kernel
theorem dX12_isRest_39 : decode cX12_isRest 39 = .ok (.invokevirtual 455, 3) := by decide +kernel
theorem dX12_isRest_42 : decode cX12_isRest 42 = .ok (.if_icmp .le 5, 3) := by decide +kernel
theorem dX12_isRest_45 : decode cX12_isRest 45 = .ok (.iconst 0, 1) := by decide +kernel
theorem dX12_isRest_46 : decode cX12_isRest 46 = .ok (.ireturn, 1) := by decide +kernel
theorem dX12_isRest_47 : decode cX12_isRest 47 = .ok (.aload_n 0, 1) := by decide +kernel
theorem dX12_isRest_48 : decode cX12_isRest 48 = .ok (.iload_n 2, 1) := by decide +kernel
theorem dX12_isRest_49 : decode cX12_isRest 49 = .ok (.iload_n 1, 1) := by decide +kernel
theorem dX12_isRest_50 : decode cX12_isRest 50 = .ok (.iload 5, 2) := by decide +kernel
theorem dX12_isRest_52 : decode cX12_isRest 52 = .ok (.invokevirtual 452, 3) := by decide +kernel
theorem dX12_isRest_55 : decode cX12_isRest 55 = .ok (.ifCond .eq 26, 3) := by decide +kernel
theorem dX12_isRest_58 : decode cX12_isRest 58 = .ok (.aload_n 0, 1) := by decide +kernel
theorem dX12_isRest_59 : decode cX12_isRest 59 = .ok (.iload_n 2, 1) := by decide +kernel
theorem dX12_isRest_60 : decode cX12_isRest 60 = .ok (.iload_n 1, 1) := by decide +kernel
theorem dX12_isRest_61 : decode cX12_isRest 61 = .ok (.iload 5, 2) := by decide +kernel
theorem dX12_isRest_63 : decode cX12_isRest 63 = .ok (.iload_n 3, 1) := by decide +kernel
theorem dX12_isRest_64 : decode cX12_isRest 64 = .ok (.invokevirtual 455, 3) := by decide +kernel
theorem dX12_isRest_67 : decode cX12_isRest 67 = .ok (.aload_n 0, 1) := by decide +kernel
theorem dX12_isRest_68 : decode cX12_isRest 68 = .ok (.iload_n 2, 1) := by decide +kernel
theorem dX12_isRest_69 : decode cX12_isRest 69 = .ok (.iload_n 1, 1) := by decide +kernel
theorem dX12_isRest_70 : decode cX12_isRest 70 = .ok (.iload 4, 2) := by decide +kernel
theorem dX12_isRest_72 : decode cX12_isRest 72 = .ok (.iload_n 3, 1) := by decide +kernel
theorem dX12_isRest_73 : decode cX12_isRest 73 = .ok (.invokevirtual 455, 3) := by decide +kernel
theorem dX12_isRest_76 : decode cX12_isRest 76 = .ok (.if_icmp .le 5, 3) := by decide +kernel
theorem dX12_isRest_79 : decode cX12_isRest 79 = .ok (.iconst 0, 1) := by decide +kernel
theorem dX12_isRest_80 : decode cX12_isRest 80 = .ok (.ireturn, 1) := by decide +kernel
theorem dX12_isRest_81 : decode cX12_isRest 81 = .ok (.iinc 5 1, 3) := by decide +kernel
theorem dX12_isRest_84 : decode cX12_isRest 84 = .ok (.goto (-81), 3) := by decide +kernel
theorem dX12_isRest_87 : decode cX12_isRest 87 = .ok (.iconst 1, 1) := by decide +kernel
theorem dX12_isRest_88 : decode cX12_isRest 88 = .ok (.ireturn, 1) := by decide +kernel
theorem dX12_rivals_0 : decode cX12_rivals 0 = .ok (.aload_n 0, 1) := by decide +kernel
theorem dX12_rivals_1 : decode cX12_rivals 1 = .ok (.iconst 0, 1) := by decide +kernel
theorem dX12_rivals_2 : decode cX12_rivals 2 = .ok (.putfield 372, 3) := by decide +kernel
theorem dX12_rivals_5 : decode cX12_rivals 5 = .ok (.aload_n 0, 1) := by decide +kernel
theorem dX12_rivals_6 : decode cX12_rivals 6 = .ok (.iload_n 1, 1) := by decide +kernel
theorem dX12_rivals_7 : decode cX12_rivals 7 = .ok (.invokevirtual 411, 3) := by decide +kernel
theorem dX12_rivals_10 : decode cX12_rivals 10 = .ok (.ifCond .eq 16, 3) := by decide +kernel
theorem dX12_rivals_13 : decode cX12_rivals 13 = .ok (.aload_n 0, 1) := by decide +kernel
theorem dX12_rivals_14 : decode cX12_rivals 14 = .ok (.iload_n 2, 1) := by decide +kernel
theorem dX12_rivals_15 : decode cX12_rivals 15 = .ok (.invokevirtual 411, 3) := by decide +kernel
theorem dX12_rivals_18 : decode cX12_rivals 18 = .ok (.ifCond .eq 8, 3) := by decide +kernel
theorem dX12_rivals_21 : decode cX12_rivals 21 = .ok (.iload_n 1, 1) := by decide +kernel
theorem dX12_rivals_22 : decode cX12_rivals 22 = .ok (.iload_n 2, 1) := by decide +kernel
theorem dX12_rivals_23 : decode cX12_rivals 23 = .ok (.if_icmp .ne 5, 3) := by decide +kernel
theorem dX12_rivals_26 : decode cX12_rivals 26 = .ok (.iconst (-1), 1) := by decide +kernel
theorem dX12_rivals_27 : decode cX12_rivals 27 = .ok (.ireturn, 1) := by decide +kernel
theorem dX12_rivals_28 : decode cX12_rivals 28 = .ok (.iconst 0, 1) := by decide +kernel
theorem dX12_rivals_29 : decode cX12_rivals 29 = .ok (.istore_n 3, 1) := by decide +kernel
theorem dX12_rivals_30 : decode cX12_rivals 30 = .ok (.iconst 0, 1) := by decide +kernel
theorem dX12_rivals_31 : decode cX12_rivals 31 = .ok (.istore 4, 2) := by decide +kernel
theorem dX12_rivals_33 : decode cX12_rivals 33 = .ok (.iload 4, 2) := by decide +kernel
theorem dX12_rivals_35 : decode cX12_rivals 35 = .ok (.bipush 16, 2) := by decide +kernel
theorem dX12_rivals_37 : decode cX12_rivals 37 = .ok (.if_icmp .ge 87, 3) := by decide +kernel
theorem dX12_rivals_40 : decode cX12_rivals 40 = .ok (.iload 4, 2) := by decide +kernel
theorem dX12_rivals_42 : decode cX12_rivals 42 = .ok (.iconst 4, 1) := by decide +kernel
theorem dX12_rivals_43 : decode cX12_rivals 43 = .ok (.idiv, 1) := by decide +kernel
theorem dX12_rivals_44 : decode cX12_rivals 44 = .ok (.istore 5, 2) := by decide +kernel
theorem dX12_rivals_46 : decode cX12_rivals 46 = .ok (.iload 4, 2) := by decide +kernel
theorem dX12_rivals_48 : decode cX12_rivals 48 = .ok (.iconst 4, 1) := by decide +kernel
theorem dX12_rivals_49 : decode cX12_rivals 49 = .ok (.irem, 1) := by decide +kernel
theorem dX12_rivals_50 : decode cX12_rivals 50 = .ok (.istore 6, 2) := by decide +kernel
theorem dX12_rivals_52 : decode cX12_rivals 52 = .ok (.aload_n 0, 1) := by decide +kernel
theorem dX12_rivals_53 : decode cX12_rivals 53 = .ok (.iload_n 1, 1) := by decide +kernel
theorem dX12_rivals_54 : decode cX12_rivals 54 = .ok (.iload_n 2, 1) := by decide +kernel
theorem dX12_rivals_55 : decode cX12_rivals 55 = .ok (.iload 5, 2) := by decide +kernel
theorem dX12_rivals_57 : decode cX12_rivals 57 = .ok (.invokevirtual 452, 3) := by decide +kernel
theorem dX12_rivals_60 : decode cX12_rivals 60 = .ok (.ifCond .eq 58, 3) := by decide +kernel
theorem dX12_rivals_63 : decode cX12_rivals 63 = .ok (.aload_n 0, 1) := by decide +kernel
theorem dX12_rivals_64 : decode cX12_rivals 64 = .ok (.iload_n 2, 1) := by decide +kernel
theorem dX12_rivals_65 : decode cX12_rivals 65 = .ok (.iload_n 1, 1) := by decide +kernel
theorem dX12_rivals_66 : decode cX12_rivals 66 = .ok (.iload 6, 2) := by decide +kernel
theorem dX12_rivals_68 : decode cX12_rivals 68 = .ok (.invokevirtual 452, 3) := by decide +kernel
theorem dX12_rivals_71 : decode cX12_rivals 71 = .ok (.ifCond .eq 47, 3) := by decide +kernel
theorem dX12_rivals_74 : decode cX12_rivals 74 = .ok (.aload_n 0, 1) := by decide +kernel
theorem dX12_rivals_75 : decode cX12_rivals 75 = .ok (.iload_n 1, 1) := by decide +kernel
theorem dX12_rivals_76 : decode cX12_rivals 76 = .ok (.iload_n 2, 1) := by decide +kernel
theorem dX12_rivals_77 : decode cX12_rivals 77 = .ok (.iload 5, 2) := by decide +kernel
theorem dX12_rivals_79 : decode cX12_rivals 79 = .ok (.iload 6, 2) := by decide +kernel
theorem dX12_rivals_81 : decode cX12_rivals 81 = .ok (.invokevirtual 459, 3) := by decide +kernel
theorem dX12_rivals_84 : decode cX12_rivals 84 = .ok (.ifCond .ne 6, 3) := by decide +kernel
theorem dX12_rivals_87 : decode cX12_rivals 87 = .ok (.goto 31, 3) := by decide +kernel
theorem dX12_rivals_90 : decode cX12_rivals 90 = .ok (.iload_n 3, 1) := by decide +kernel
theorem dX12_rivals_91 : decode cX12_rivals 91 = .ok (.ifCond .ne 24, 3) := by decide +kernel
theorem dX12_rivals_94 : decode cX12_rivals 94 = .ok (.aload_n 0, 1) := by decide +kernel
theorem dX12_rivals_95 : decode cX12_rivals 95 = .ok (.getfield 97, 3) := by decide +kernel
theorem dX12_rivals_98 : decode cX12_rivals 98 = .ok (.iconst 0, 1) := by decide +kernel
theorem dX12_rivals_99 : decode cX12_rivals 99 = .ok (.iload 5, 2) := by decide +kernel
theorem dX12_rivals_101 : decode cX12_rivals 101 = .ok (.iastore, 1) := by decide +kernel
theorem dX12_rivals_102 : decode cX12_rivals 102 = .ok (.aload_n 0, 1) := by decide +kernel
theorem dX12_rivals_103 : decode cX12_rivals 103 = .ok (.getfield 97, 3) := by decide +kernel
theorem dX12_rivals_106 : decode cX12_rivals 106 = .ok (.iconst 1, 1) := by decide +kernel
theorem dX12_rivals_107 : decode cX12_rivals 107 = .ok (.iload 6, 2) := by decide +kernel
theorem dX12_rivals_109 : decode cX12_rivals 109 = .ok (.iastore, 1) := by decide +kernel
theorem dX12_rivals_110 : decode cX12_rivals 110 = .ok (.aload_n 0, 1) := by decide +kernel
theorem dX12_rivals_111 : decode cX12_rivals 111 = .ok (.iconst 2, 1) := by decide +kernel
theorem dX12_rivals_112 : decode cX12_rivals 112 = .ok (.putfield 372, 3) := by decide +kernel
theorem dX12_rivals_115 : decode cX12_rivals 115 = .ok (.iinc 3 1, 3) := by decide +kernel
theorem dX12_rivals_118 : decode cX12_rivals 118 = .ok (.iinc 4 1, 3) := by decide +kernel
theorem dX12_rivals_121 : decode cX12_rivals 121 = .ok (.goto (-88), 3) := by decide +kernel
theorem dX12_rivals_124 : decode cX12_rivals 124 = .ok (.iload_n 3, 1) := by decide +kernel
theorem dX12_rivals_125 : decode cX12_rivals 125 = .ok (.ireturn, 1) := by decide +kernel
theorem dX12_sires_0 : decode cX12_sires 0 = .ok (.aload_n 0, 1) := by decide +kernel
theorem dX12_sires_1 : decode cX12_sires 1 = .ok (.iload_n 1, 1) := by decide +kernel
theorem dX12_sires_2 : decode cX12_sires 2 = .ok (.invokevirtual 411, 3) := by decide +kernel
theorem dX12_sires_5 : decode cX12_sires 5 = .ok (.ifCond .eq 12, 3) := by decide +kernel
theorem dX12_sires_8 : decode cX12_sires 8 = .ok (.iload_n 2, 1) := by decide +kernel
theorem dX12_sires_9 : decode cX12_sires 9 = .ok (.iconst 0, 1) := by decide +kernel
theorem dX12_sires_10 : decode cX12_sires 10 = .ok (.iconst 2, 1) := by decide +kernel
theorem dX12_sires_11 : decode cX12_sires 11 = .ok (.invokestatic 346, 3) := by decide +kernel
theorem dX12_sires_14 : decode cX12_sires 14 = .ok (.ifCond .ne 5, 3) := by decide +kernel
theorem dX12_sires_17 : decode cX12_sires 17 = .ok (.iconst (-1), 1) := by decide +kernel
theorem dX12_sires_18 : decode cX12_sires 18 = .ok (.ireturn, 1) := by decide +kernel
theorem dX12_sires_19 : decode cX12_sires 19 = .ok (.iconst (-1), 1) := by decide +kernel
theorem dX12_sires_20 : decode cX12_sires 20 = .ok (.istore_n 3, 1) := by decide +kernel
theorem dX12_sires_21 : decode cX12_sires 21 = .ok (.sipush 1000, 3) := by decide +kernel
theorem dX12_sires_24 : decode cX12_sires 24 = .ok (.istore 4, 2) := by decide +kernel
theorem dX12_sires_26 : decode cX12_sires 26 = .ok (.iconst 0, 1) := by decide +kernel
theorem dX12_sires_27 : decode cX12_sires 27 = .ok (.istore 5, 2) := by decide +kernel
theorem dX12_sires_29 : decode cX12_sires 29 = .ok (.iload 5, 2) := by decide +kernel
theorem dX12_sires_31 : decode cX12_sires 31 = .ok (.bipush 64, 2) := by decide +kernel
theorem dX12_sires_33 : decode cX12_sires 33 = .ok (.if_icmp .ge 126, 3) := by decide +kernel
theorem dX12_sires_36 : decode cX12_sires 36 = .ok (.iload 5, 2) := by decide +kernel
theorem dX12_sires_38 : decode cX12_sires 38 = .ok (.bipush 8, 2) := by decide +kernel
theorem dX12_sires_40 : decode cX12_sires 40 = .ok (.idiv, 1) := by decide +kernel
theorem dX12_sires_41 : decode cX12_sires 41 = .ok (.istore 6, 2) := by decide +kernel
theorem dX12_sires_43 : decode cX12_sires 43 = .ok (.iload 5, 2) := by decide +kernel
theorem dX12_sires_45 : decode cX12_sires 45 = .ok (.bipush 8, 2) := by decide +kernel
theorem dX12_sires_47 : decode cX12_sires 47 = .ok (.irem, 1) := by decide +kernel
theorem dX12_sires_48 : decode cX12_sires 48 = .ok (.istore 7, 2) := by decide +kernel
theorem dX12_sires_50 : decode cX12_sires 50 = .ok (.iload 6, 2) := by decide +kernel
theorem dX12_sires_52 : decode cX12_sires 52 = .ok (.iload 7, 2) := by decide +kernel
theorem dX12_sires_54 : decode cX12_sires 54 = .ok (.if_icmp .ge 99, 3) := by decide +kernel
theorem dX12_sires_57 : decode cX12_sires 57 = .ok (.iload 6, 2) := by decide +kernel
theorem dX12_sires_59 : decode cX12_sires 59 = .ok (.iload_n 1, 1) := by decide +kernel
theorem dX12_sires_60 : decode cX12_sires 60 = .ok (.if_icmp .eq 93, 3) := by decide +kernel
theorem dX12_sires_63 : decode cX12_sires 63 = .ok (.iload 7, 2) := by decide +kernel
theorem dX12_sires_65 : decode cX12_sires 65 = .ok (.iload_n 1, 1) := by decide +kernel
theorem dX12_sires_66 : decode cX12_sires 66 = .ok (.if_icmp .eq 87, 3) := by decide +kernel
theorem dX12_sires_69 : decode cX12_sires 69 = .ok (.aload_n 0, 1) := by decide +kernel
theorem dX12_sires_70 : decode cX12_sires 70 = .ok (.iload 6, 2) := by decide +kernel
theorem dX12_sires_72 : decode cX12_sires 72 = .ok (.invokevirtual 411, 3) := by decide +kernel
theorem dX12_sires_75 : decode cX12_sires 75 = .ok (.ifCond .eq 78, 3) := by decide +kernel
theorem dX12_sires_78 : decode cX12_sires 78 = .ok (.aload_n 0, 1) := by decide +kernel
theorem dX12_sires_79 : decode cX12_sires 79 = .ok (.iload 7, 2) := by decide +kernel
theorem dX12_sires_81 : decode cX12_sires 81 = .ok (.invokevirtual 411, 3) := by decide +kernel
theorem dX12_sires_84 : decode cX12_sires 84 = .ok (.ifCond .ne 6, 3) := by decide +kernel
theorem dX12_sires_87 : decode cX12_sires 87 = .ok (.goto 66, 3) := by decide +kernel
theorem dX12_sires_90 : decode cX12_sires 90 = .ok (.aload_n 0, 1) := by decide +kernel
theorem dX12_sires_91 : decode cX12_sires 91 = .ok (.getfield 85, 3) := by decide +kernel
theorem dX12_sires_94 : decode cX12_sires 94 = .ok (.bipush 16, 2) := by decide +kernel
theorem dX12_sires_96 : decode cX12_sires 96 = .ok (.iload_n 1, 1) := by decide +kernel
theorem dX12_sires_97 : decode cX12_sires 97 = .ok (.iadd, 1) := by decide +kernel
theorem dX12_sires_98 : decode cX12_sires 98 = .ok (.iaload, 1) := by decide +kernel
theorem dX12_sires_99 : decode cX12_sires 99 = .ok (.aload_n 0, 1) := by decide +kernel
theorem dX12_sires_100 : decode cX12_sires 100 = .ok (.getfield 85, 3) := by decide +kernel
theorem dX12_sires_103 : decode cX12_sires 103 = .ok (.bipush 16, 2) := by decide +kernel
theorem dX12_sires_105 : decode cX12_sires 105 = .ok (.iload 6, 2) := by decide +kernel
theorem dX12_sires_107 : decode cX12_sires 107 = .ok (.iadd, 1) := by decide +kernel
theorem dX12_sires_108 : decode cX12_sires 108 = .ok (.iaload, 1) := by decide +kernel
theorem dX12_sires_109 : decode cX12_sires 109 = .ok (.ixor, 1) := by decide +kernel
theorem dX12_sires_110 : decode cX12_sires 110 = .ok (.aload_n 0, 1) := by decide +kernel
theorem dX12_sires_111 : decode cX12_sires 111 = .ok (.getfield 85, 3) := by decide +kernel
theorem dX12_sires_114 : decode cX12_sires 114 = .ok (.bipush 16, 2) := by decide +kernel
theorem dX12_sires_116 : decode cX12_sires 116 = .ok (.iload_n 1, 1) := by decide +kernel
theorem dX12_sires_117 : decode cX12_sires 117 = .ok (.iadd, 1) := by decide +kernel
theorem dX12_sires_118 : decode cX12_sires 118 = .ok (.iaload, 1) := by decide +kernel
theorem dX12_sires_119 : decode cX12_sires 119 = .ok (.aload_n 0, 1) := by decide +kernel
theorem dX12_sires_120 : decode cX12_sires 120 = .ok (.getfield 85, 3) := by decide +kernel
theorem dX12_sires_123 : decode cX12_sires 123 = .ok (.bipush 16, 2) := by decide +kernel
theorem dX12_sires_125 : decode cX12_sires 125 = .ok (.iload 7, 2) := by decide +kernel
theorem dX12_sires_127 : decode cX12_sires 127 = .ok (.iadd, 1) := by decide +kernel
theorem dX12_sires_128 : decode cX12_sires 128 = .ok (.iaload, 1) := by decide +kernel
theorem dX12_sires_129 : decode cX12_sires 129 = .ok (.ixor, 1) := by decide +kernel
theorem dX12_sires_130 : decode cX12_sires 130 = .ok (.iand, 1) := by decide +kernel
theorem dX12_sires_131 : decode cX12_sires 131 = .ok (.invokestatic 334, 3) := by decide +kernel
theorem dX12_sires_134 : decode cX12_sires 134 = .ok (.istore 8, 2) := by decide +kernel
theorem dX12_sires_136 : decode cX12_sires 136 = .ok (.iload 8, 2) := by decide +kernel
theorem dX12_sires_138 : decode cX12_sires 138 = .ok (.iload 4, 2) := by decide +kernel
theorem dX12_sires_140 : decode cX12_sires 140 = .ok (.if_icmp .lt 6, 3) := by decide +kernel
theorem dX12_sires_143 : decode cX12_sires 143 = .ok (.goto 10, 3) := by decide +kernel
theorem dX12_sires_146 : decode cX12_sires 146 = .ok (.iload 5, 2) := by decide +kernel
theorem dX12_sires_148 : decode cX12_sires 148 = .ok (.istore_n 3, 1) := by decide +kernel
theorem dX12_sires_149 : decode cX12_sires 149 = .ok (.iload 8, 2) := by decide +kernel
theorem dX12_sires_151 : decode cX12_sires 151 = .ok (.istore 4, 2) := by decide +kernel
theorem dX12_sires_153 : decode cX12_sires 153 = .ok (.iinc 5 1, 3) := by decide +kernel
theorem dX12_sires_156 : decode cX12_sires 156 = .ok (.goto (-127), 3) := by decide +kernel
theorem dX12_sires_159 : decode cX12_sires 159 = .ok (.iload_n 3, 1) := by decide +kernel
theorem dX12_sires_160 : decode cX12_sires 160 = .ok (.ifCond .ge 7, 3) := by decide +kernel
theorem dX12_sires_163 : decode cX12_sires 163 = .ok (.iconst (-1), 1) := by decide +kernel
theorem dX12_sires_164 : decode cX12_sires 164 = .ok (.goto 28, 3) := by decide +kernel
theorem dX12_sires_167 : decode cX12_sires 167 = .ok (.iload_n 2, 1) := by decide +kernel
theorem dX12_sires_168 : decode cX12_sires 168 = .ok (.ifCond .ne 10, 3) := by decide +kernel
theorem dX12_sires_171 : decode cX12_sires 171 = .ok (.iload_n 3, 1) := by decide +kernel
theorem dX12_sires_172 : decode cX12_sires 172 = .ok (.bipush 8, 2) := by decide +kernel
theorem dX12_sires_174 : decode cX12_sires 174 = .ok (.idiv, 1) := by decide +kernel
theorem dX12_sires_175 : decode cX12_sires 175 = .ok (.goto 17, 3) := by decide +kernel
theorem dX12_sires_178 : decode cX12_sires 178 = .ok (.iload_n 2, 1) := by decide +kernel
theorem dX12_sires_179 : decode cX12_sires 179 = .ok (.iconst 1, 1) := by decide +kernel
theorem dX12_sires_180 : decode cX12_sires 180 = .ok (.if_icmp .ne 10, 3) := by decide +kernel
theorem dX12_sires_183 : decode cX12_sires 183 = .ok (.iload_n 3, 1) := by decide +kernel
theorem dX12_sires_184 : decode cX12_sires 184 = .ok (.bipush 8, 2) := by decide +kernel
theorem dX12_sires_186 : decode cX12_sires 186 = .ok (.irem, 1) := by decide +kernel
theorem dX12_sires_187 : decode cX12_sires 187 = .ok (.goto 5, 3) := by decide +kernel
theorem dX12_sires_190 : decode cX12_sires 190 = .ok (.iload 4, 2) := by decide +kernel
theorem dX12_sires_192 : decode cX12_sires 192 = .ok (.ireturn, 1) := by decide +kernel
theorem dX12_changesOf_0 : decode cX12_changesOf 0 = .ok (.iconst 0, 1) := by decide +kernel
theorem dX12_changesOf_1 : decode cX12_changesOf 1 = .ok (.istore 5, 2) := by decide +kernel
theorem dX12_changesOf_3 : decode cX12_changesOf 3 = .ok (.iconst 0, 1) := by decide +kernel
theorem dX12_changesOf_4 : decode cX12_changesOf 4 = .ok (.istore 6, 2) := by decide +kernel
theorem dX12_changesOf_6 : decode cX12_changesOf 6 = .ok (.iload 6, 2) := by decide +kernel
theorem dX12_changesOf_8 : decode cX12_changesOf 8 = .ok (.bipush 6, 2) := by decide +kernel
theorem dX12_changesOf_10 : decode cX12_changesOf 10 = .ok (.if_icmp .ge 125, 3) := by decide +kernel
theorem dX12_changesOf_13 : decode cX12_changesOf 13 = .ok (.aload_n 0, 1) := by decide +kernel
theorem dX12_changesOf_14 : decode cX12_changesOf 14 = .ok (.getfield 85, 3) := by decide +kernel
theorem dX12_changesOf_17 : decode cX12_changesOf 17 = .ok (.bipush 16, 2) := by decide +kernel
theorem dX12_changesOf_19 : decode cX12_changesOf 19 = .ok (.iload_n 1, 1) := by decide +kernel
theorem dX12_changesOf_20 : decode cX12_changesOf 20 = .ok (.iadd, 1) := by decide +kernel
theorem dX12_changesOf_21 : decode cX12_changesOf 21 = .ok (.iaload, 1) := by decide +kernel
theorem dX12_changesOf_22 : decode cX12_changesOf 22 = .ok (.iload 6, 2) := by decide +kernel
theorem dX12_changesOf_24 : decode cX12_changesOf 24 = .ok (.ishr, 1) := by decide +kernel
theorem dX12_changesOf_25 : decode cX12_changesOf 25 = .ok (.iconst 1, 1) := by decide +kernel
theorem dX12_changesOf_26 : decode cX12_changesOf 26 = .ok (.iand, 1) := by decide +kernel
theorem dX12_changesOf_27 : decode cX12_changesOf 27 = .ok (.istore 7, 2) := by decide +kernel
theorem dX12_changesOf_29 : decode cX12_changesOf 29 = .ok (.aload_n 0, 1) := by decide +kernel
theorem dX12_changesOf_30 : decode cX12_changesOf 30 = .ok (.getfield 85, 3) := by decide +kernel
theorem dX12_changesOf_33 : decode cX12_changesOf 33 = .ok (.bipush 16, 2) := by decide +kernel
theorem dX12_changesOf_35 : decode cX12_changesOf 35 = .ok (.iload_n 2, 1) := by decide +kernel
theorem dX12_changesOf_36 : decode cX12_changesOf 36 = .ok (.iadd, 1) := by decide +kernel
theorem dX12_changesOf_37 : decode cX12_changesOf 37 = .ok (.iaload, 1) := by decide +kernel
theorem dX12_changesOf_38 : decode cX12_changesOf 38 = .ok (.iload 6, 2) := by decide +kernel
theorem dX12_changesOf_40 : decode cX12_changesOf 40 = .ok (.ishr, 1) := by decide +kernel
theorem dX12_changesOf_41 : decode cX12_changesOf 41 = .ok (.iconst 1, 1) := by decide +kernel
theorem dX12_changesOf_42 : decode cX12_changesOf 42 = .ok (.iand, 1) := by decide +kernel
theorem dX12_changesOf_43 : decode cX12_changesOf 43 = .ok (.istore 8, 2) := by decide +kernel
theorem dX12_changesOf_45 : decode cX12_changesOf 45 = .ok (.aload_n 0, 1) := by decide +kernel
theorem dX12_changesOf_46 : decode cX12_changesOf 46 = .ok (.getfield 85, 3) := by decide +kernel
theorem dX12_changesOf_49 : decode cX12_changesOf 49 = .ok (.bipush 16, 2) := by decide +kernel
theorem dX12_changesOf_51 : decode cX12_changesOf 51 = .ok (.iload_n 3, 1) := by decide +kernel
theorem dX12_changesOf_52 : decode cX12_changesOf 52 = .ok (.iadd, 1) := by decide +kernel
theorem dX12_changesOf_53 : decode cX12_changesOf 53 = .ok (.iaload, 1) := by decide +kernel
theorem dX12_changesOf_54 : decode cX12_changesOf 54 = .ok (.iload 6, 2) := by decide +kernel
theorem dX12_changesOf_56 : decode cX12_changesOf 56 = .ok (.ishr, 1) := by decide +kernel
theorem dX12_changesOf_57 : decode cX12_changesOf 57 = .ok (.iconst 1, 1) := by decide +kernel
theorem dX12_changesOf_58 : decode cX12_changesOf 58 = .ok (.iand, 1) := by decide +kernel
theorem dX12_changesOf_59 : decode cX12_changesOf 59 = .ok (.istore 9, 2) := by decide +kernel
theorem dX12_changesOf_61 : decode cX12_changesOf 61 = .ok (.aload_n 0, 1) := by decide +kernel
theorem dX12_changesOf_62 : decode cX12_changesOf 62 = .ok (.getfield 85, 3) := by decide +kernel
theorem dX12_changesOf_65 : decode cX12_changesOf 65 = .ok (.bipush 16, 2) := by decide +kernel
theorem dX12_changesOf_67 : decode cX12_changesOf 67 = .ok (.iload 4, 2) := by decide +kernel
theorem dX12_changesOf_69 : decode cX12_changesOf 69 = .ok (.iadd, 1) := by decide +kernel
theorem dX12_changesOf_70 : decode cX12_changesOf 70 = .ok (.iaload, 1) := by decide +kernel
theorem dX12_changesOf_71 : decode cX12_changesOf 71 = .ok (.iload 6, 2) := by decide +kernel
theorem dX12_changesOf_73 : decode cX12_changesOf 73 = .ok (.ishr, 1) := by decide +kernel
theorem dX12_changesOf_74 : decode cX12_changesOf 74 = .ok (.iconst 1, 1) := by decide +kernel
theorem dX12_changesOf_75 : decode cX12_changesOf 75 = .ok (.iand, 1) := by decide +kernel
theorem dX12_changesOf_76 : decode cX12_changesOf 76 = .ok (.istore 10, 2) := by decide +kernel
theorem dX12_changesOf_78 : decode cX12_changesOf 78 = .ok (.iload 7, 2) := by decide +kernel
theorem dX12_changesOf_80 : decode cX12_changesOf 80 = .ok (.iload 8, 2) := by decide +kernel
theorem dX12_changesOf_82 : decode cX12_changesOf 82 = .ok (.iadd, 1) := by decide +kernel
theorem dX12_changesOf_83 : decode cX12_changesOf 83 = .ok (.iload 9, 2) := by decide +kernel
theorem dX12_changesOf_85 : decode cX12_changesOf 85 = .ok (.iadd, 1) := by decide +kernel
theorem dX12_changesOf_86 : decode cX12_changesOf 86 = .ok (.iload 10, 2) := by decide +kernel
theorem dX12_changesOf_88 : decode cX12_changesOf 88 = .ok (.iadd, 1) := by decide +kernel
theorem dX12_changesOf_89 : decode cX12_changesOf 89 = .ok (.istore 11, 2) := by decide +kernel
theorem dX12_changesOf_91 : decode cX12_changesOf 91 = .ok (.iload 5, 2) := by decide +kernel
theorem dX12_changesOf_93 : decode cX12_changesOf 93 = .ok (.iload 11, 2) := by decide +kernel
theorem dX12_changesOf_95 : decode cX12_changesOf 95 = .ok (.ifCond .eq 9, 3) := by decide +kernel
theorem dX12_changesOf_98 : decode cX12_changesOf 98 = .ok (.iload 11, 2) := by decide +kernel
theorem dX12_changesOf_100 : decode cX12_changesOf 100 = .ok (.iconst 4, 1) := by decide +kernel
theorem dX12_changesOf_101 : decode cX12_changesOf 101 = .ok (.if_icmp .ne 7, 3) := by decide +kernel
theorem dX12_changesOf_104 : decode cX12_changesOf 104 = .ok (.iconst 0, 1) := by decide +kernel
theorem dX12_changesOf_105 : decode cX12_changesOf 105 = .ok (.goto 21, 3) := by decide +kernel
theorem dX12_changesOf_108 : decode cX12_changesOf 108 = .ok (.iload 11, 2) := by decide +kernel
theorem dX12_changesOf_110 : decode cX12_changesOf 110 = .ok (.iconst 2, 1) := by decide +kernel
theorem dX12_changesOf_111 : decode cX12_changesOf 111 = .ok (.if_icmp .ne 14, 3) := by decide +kernel
theorem dX12_changesOf_114 : decode cX12_changesOf 114 = .ok (.iload 7, 2) := by decide +kernel
theorem dX12_changesOf_116 : decode cX12_changesOf 116 = .ok (.iload 8, 2) := by decide +kernel
theorem dX12_changesOf_118 : decode cX12_changesOf 118 = .ok (.if_icmp .eq 7, 3) := by decide +kernel
theorem dX12_changesOf_121 : decode cX12_changesOf 121 = .ok (.iconst 2, 1) := by decide +kernel
theorem dX12_changesOf_122 : decode cX12_changesOf 122 = .ok (.goto 4, 3) := by decide +kernel
theorem dX12_changesOf_125 : decode cX12_changesOf 125 = .ok (.iconst 1, 1) := by decide +kernel
theorem dX12_changesOf_126 : decode cX12_changesOf 126 = .ok (.iadd, 1) := by decide +kernel
theorem dX12_changesOf_127 : decode cX12_changesOf 127 = .ok (.istore 5, 2) := by decide +kernel
theorem dX12_changesOf_129 : decode cX12_changesOf 129 = .ok (.iinc 6 1, 3) := by decide +kernel
theorem dX12_changesOf_132 : decode cX12_changesOf 132 = .ok (.goto (-126), 3) := by decide +kernel
theorem dX12_changesOf_135 : decode cX12_changesOf 135 = .ok (.iload 5, 2) := by decide +kernel
theorem dX12_changesOf_137 : decode cX12_changesOf 137 = .ok (.ireturn, 1) := by decide +kernel
theorem dX12_quartet_0 : decode cX12_quartet 0 = .ok (.aload_n 0, 1) := by decide +kernel
theorem dX12_quartet_1 : decode cX12_quartet 1 = .ok (.iload_n 1, 1) := by decide +kernel
theorem dX12_quartet_2 : decode cX12_quartet 2 = .ok (.invokevirtual 411, 3) := by decide +kernel
theorem dX12_quartet_5 : decode cX12_quartet 5 = .ok (.ifCond .eq 38, 3) := by decide +kernel
theorem dX12_quartet_8 : decode cX12_quartet 8 = .ok (.aload_n 0, 1) := by decide +kernel
theorem dX12_quartet_9 : decode cX12_quartet 9 = .ok (.iload_n 2, 1) := by decide +kernel
theorem dX12_quartet_10 : decode cX12_quartet 10 = .ok (.invokevirtual 411, 3) := by decide +kernel
theorem dX12_quartet_13 : decode cX12_quartet 13 = .ok (.ifCond .eq 30, 3) := by decide +kernel
theorem dX12_quartet_16 : decode cX12_quartet 16 = .ok (.aload_n 0, 1) := by decide +kernel
theorem dX12_quartet_17 : decode cX12_quartet 17 = .ok (.iload_n 3, 1) := by decide +kernel
theorem dX12_quartet_18 : decode cX12_quartet 18 = .ok (.invokevirtual 411, 3) := by decide +kernel
theorem dX12_quartet_21 : decode cX12_quartet 21 = .ok (.ifCond .eq 22, 3) := by decide +kernel
theorem dX12_quartet_24 : decode cX12_quartet 24 = .ok (.aload_n 0, 1) := by decide +kernel
theorem dX12_quartet_25 : decode cX12_quartet 25 = .ok (.iload 4, 2) := by decide +kernel
theorem dX12_quartet_27 : decode cX12_quartet 27 = .ok (.invokevirtual 411, 3) := by decide +kernel
theorem dX12_quartet_30 : decode cX12_quartet 30 = .ok (.ifCond .eq 13, 3) := by decide +kernel
theorem dX12_quartet_33 : decode cX12_quartet 33 = .ok (.iload 5, 2) := by decide +kernel
theorem dX12_quartet_35 : decode cX12_quartet 35 = .ok (.iconst 0, 1) := by decide +kernel
theorem dX12_quartet_36 : decode cX12_quartet 36 = .ok (.iconst 1, 1) := by decide +kernel
theorem dX12_quartet_37 : decode cX12_quartet 37 = .ok (.invokestatic 346, 3) := by decide +kernel
theorem dX12_quartet_40 : decode cX12_quartet 40 = .ok (.ifCond .ne 5, 3) := by decide +kernel
theorem dX12_quartet_43 : decode cX12_quartet 43 = .ok (.iconst (-1), 1) := by decide +kernel
theorem dX12_quartet_44 : decode cX12_quartet 44 = .ok (.ireturn, 1) := by decide +kernel
theorem dX12_quartet_45 : decode cX12_quartet 45 = .ok (.iconst 1, 1) := by decide +kernel
theorem dX12_quartet_46 : decode cX12_quartet 46 = .ok (.iload_n 1, 1) := by decide +kernel
theorem dX12_quartet_47 : decode cX12_quartet 47 = .ok (.ishl, 1) := by decide +kernel
theorem dX12_quartet_48 : decode cX12_quartet 48 = .ok (.iconst 1, 1) := by decide +kernel
theorem dX12_quartet_49 : decode cX12_quartet 49 = .ok (.iload_n 2, 1) := by decide +kernel
theorem dX12_quartet_50 : decode cX12_quartet 50 = .ok (.ishl, 1) := by decide +kernel
theorem dX12_quartet_51 : decode cX12_quartet 51 = .ok (.ior, 1) := by decide +kernel
theorem dX12_quartet_52 : decode cX12_quartet 52 = .ok (.iconst 1, 1) := by decide +kernel
theorem dX12_quartet_53 : decode cX12_quartet 53 = .ok (.iload_n 3, 1) := by decide +kernel
theorem dX12_quartet_54 : decode cX12_quartet 54 = .ok (.ishl, 1) := by decide +kernel
theorem dX12_quartet_55 : decode cX12_quartet 55 = .ok (.ior, 1) := by decide +kernel
theorem dX12_quartet_56 : decode cX12_quartet 56 = .ok (.iconst 1, 1) := by decide +kernel
theorem dX12_quartet_57 : decode cX12_quartet 57 = .ok (.iload 4, 2) := by decide +kernel
theorem dX12_quartet_59 : decode cX12_quartet 59 = .ok (.ishl, 1) := by decide +kernel
theorem dX12_quartet_60 : decode cX12_quartet 60 = .ok (.ior, 1) := by decide +kernel
theorem dX12_quartet_61 : decode cX12_quartet 61 = .ok (.invokestatic 334, 3) := by decide +kernel
theorem dX12_quartet_64 : decode cX12_quartet 64 = .ok (.iconst 4, 1) := by decide +kernel
theorem dX12_quartet_65 : decode cX12_quartet 65 = .ok (.if_icmp .ge 5, 3) := by decide +kernel
theorem dX12_quartet_68 : decode cX12_quartet 68 = .ok (.iconst (-1), 1) := by decide +kernel
theorem dX12_quartet_69 : decode cX12_quartet 69 = .ok (.ireturn, 1) := by decide +kernel
theorem dX12_quartet_70 : decode cX12_quartet 70 = .ok (.iconst 0, 1) := by decide +kernel
theorem dX12_quartet_71 : decode cX12_quartet 71 = .ok (.istore 6, 2) := by decide +kernel
theorem dX12_quartet_73 : decode cX12_quartet 73 = .ok (.aload_n 0, 1) := by decide +kernel
theorem dX12_quartet_74 : decode cX12_quartet 74 = .ok (.iload_n 1, 1) := by decide +kernel
theorem dX12_quartet_75 : decode cX12_quartet 75 = .ok (.iload_n 2, 1) := by decide +kernel
theorem dX12_quartet_76 : decode cX12_quartet 76 = .ok (.iload_n 3, 1) := by decide +kernel
theorem dX12_quartet_77 : decode cX12_quartet 77 = .ok (.iload 4, 2) := by decide +kernel
theorem dX12_quartet_79 : decode cX12_quartet 79 = .ok (.invokevirtual 463, 3) := by decide +kernel
theorem dX12_quartet_82 : decode cX12_quartet 82 = .ok (.istore 7, 2) := by decide +kernel
theorem dX12_quartet_84 : decode cX12_quartet 84 = .ok (.aload_n 0, 1) := by decide +kernel
theorem dX12_quartet_85 : decode cX12_quartet 85 = .ok (.iload_n 1, 1) := by decide +kernel
theorem dX12_quartet_86 : decode cX12_quartet 86 = .ok (.iload_n 3, 1) := by decide +kernel
theorem dX12_quartet_87 : decode cX12_quartet 87 = .ok (.iload_n 2, 1) := by decide +kernel
theorem dX12_quartet_88 : decode cX12_quartet 88 = .ok (.iload 4, 2) := by decide +kernel
theorem dX12_quartet_90 : decode cX12_quartet 90 = .ok (.invokevirtual 463, 3) := by decide +kernel
theorem dX12_quartet_93 : decode cX12_quartet 93 = .ok (.istore 8, 2) := by decide +kernel
theorem dX12_quartet_95 : decode cX12_quartet 95 = .ok (.aload_n 0, 1) := by decide +kernel
theorem dX12_quartet_96 : decode cX12_quartet 96 = .ok (.iload_n 1, 1) := by decide +kernel
theorem dX12_quartet_97 : decode cX12_quartet 97 = .ok (.iload 4, 2) := by decide +kernel
theorem dX12_quartet_99 : decode cX12_quartet 99 = .ok (.iload_n 2, 1) := by decide +kernel
theorem dX12_quartet_100 : decode cX12_quartet 100 = .ok (.iload_n 3, 1) := by decide +kernel
theorem dX12_quartet_101 : decode cX12_quartet 101 = .ok (.invokevirtual 463, 3) := by decide +kernel
theorem dX12_quartet_104 : decode cX12_quartet 104 = .ok (.istore 9, 2) := by decide +kernel
theorem dX12_quartet_106 : decode cX12_quartet 106 = .ok (.iload 8, 2) := by decide +kernel
theorem dX12_quartet_108 : decode cX12_quartet 108 = .ok (.iload 7, 2) := by decide +kernel
theorem dX12_quartet_110 : decode cX12_quartet 110 = .ok (.if_icmp .ge 10, 3) := by decide +kernel
theorem dX12_quartet_113 : decode cX12_quartet 113 = .ok (.iconst 1, 1) := by decide +kernel
theorem dX12_quartet_114 : decode cX12_quartet 114 = .ok (.istore 6, 2) := by decide +kernel
theorem dX12_quartet_116 : decode cX12_quartet 116 = .ok (.iload 8, 2) := by decide +kernel
theorem dX12_quartet_118 : decode cX12_quartet 118 = .ok (.istore 7, 2) := by decide +kernel
theorem dX12_quartet_120 : decode cX12_quartet 120 = .ok (.iload 9, 2) := by decide +kernel
theorem dX12_quartet_122 : decode cX12_quartet 122 = .ok (.iload 7, 2) := by decide +kernel
theorem dX12_quartet_124 : decode cX12_quartet 124 = .ok (.if_icmp .ge 10, 3) := by decide +kernel
theorem dX12_quartet_127 : decode cX12_quartet 127 = .ok (.iconst 2, 1) := by decide +kernel
theorem dX12_quartet_128 : decode cX12_quartet 128 = .ok (.istore 6, 2) := by decide +kernel
theorem dX12_quartet_130 : decode cX12_quartet 130 = .ok (.iload 9, 2) := by decide +kernel
theorem dX12_quartet_132 : decode cX12_quartet 132 = .ok (.istore 7, 2) := by decide +kernel
theorem dX12_quartet_134 : decode cX12_quartet 134 = .ok (.iload 5, 2) := by decide +kernel
theorem dX12_quartet_136 : decode cX12_quartet 136 = .ok (.ifCond .ne 8, 3) := by decide +kernel
theorem dX12_quartet_139 : decode cX12_quartet 139 = .ok (.iload 6, 2) := by decide +kernel
theorem dX12_quartet_141 : decode cX12_quartet 141 = .ok (.goto 5, 3) := by decide +kernel
theorem dX12_quartet_144 : decode cX12_quartet 144 = .ok (.iload 7, 2) := by decide +kernel
theorem dX12_quartet_146 : decode cX12_quartet 146 = .ok (.ireturn, 1) := by decide +kernel
theorem dX12_span_0 : decode cX12_span 0 = .ok (.aload_n 0, 1) := by decide +kernel
theorem dX12_span_1 : decode cX12_span 1 = .ok (.invokevirtual 331, 3) := by decide +kernel
theorem dX12_span_4 : decode cX12_span 4 = .ok (.istore_n 1, 1) := by decide +kernel
theorem dX12_span_5 : decode cX12_span 5 = .ok (.iload_n 1, 1) := by decide +kernel
theorem dX12_span_6 : decode cX12_span 6 = .ok (.ifCond .ne 5, 3) := by decide +kernel
theorem dX12_span_9 : decode cX12_span 9 = .ok (.iconst 0, 1) := by decide +kernel
theorem dX12_span_10 : decode cX12_span 10 = .ok (.ireturn, 1) := by decide +kernel
theorem dX12_span_11 : decode cX12_span 11 = .ok (.iload_n 1, 1) := by decide +kernel
theorem dX12_span_12 : decode cX12_span 12 = .ok (.iload_n 1, 1) := by decide +kernel
theorem dX12_span_13 : decode cX12_span 13 = .ok (.ineg, 1) := by decide +kernel
theorem dX12_span_14 : decode cX12_span 14 = .ok (.iand, 1) := by decide +kernel
theorem dX12_span_15 : decode cX12_span 15 = .ok (.istore_n 2, 1) := by decide +kernel
theorem dX12_span_16 : decode cX12_span 16 = .ok (.iload_n 1, 1) := by decide +kernel
theorem dX12_span_17 : decode cX12_span 17 = .ok (.iload_n 2, 1) := by decide +kernel
theorem dX12_span_18 : decode cX12_span 18 = .ok (.iconst (-1), 1) := by decide +kernel
theorem dX12_span_19 : decode cX12_span 19 = .ok (.ixor, 1) := by decide +kernel
theorem dX12_span_20 : decode cX12_span 20 = .ok (.iand, 1) := by decide +kernel
theorem dX12_span_21 : decode cX12_span 21 = .ok (.istore_n 1, 1) := by decide +kernel
theorem dX12_span_22 : decode cX12_span 22 = .ok (.iconst 0, 1) := by decide +kernel
theorem dX12_span_23 : decode cX12_span 23 = .ok (.istore_n 3, 1) := by decide +kernel
theorem dX12_span_24 : decode cX12_span 24 = .ok (.iload_n 1, 1) := by decide +kernel
theorem dX12_span_25 : decode cX12_span 25 = .ok (.ifCond .eq 119, 3) := by decide +kernel
theorem dX12_span_28 : decode cX12_span 28 = .ok (.iconst (-1), 1) := by decide +kernel
theorem dX12_span_29 : decode cX12_span 29 = .ok (.istore 4, 2) := by decide +kernel
theorem dX12_span_31 : decode cX12_span 31 = .ok (.sipush 1000, 3) := by decide +kernel
theorem dX12_span_34 : decode cX12_span 34 = .ok (.istore 5, 2) := by decide +kernel
theorem dX12_span_36 : decode cX12_span 36 = .ok (.iconst 0, 1) := by decide +kernel
theorem dX12_span_37 : decode cX12_span 37 = .ok (.istore 6, 2) := by decide +kernel
theorem dX12_span_39 : decode cX12_span 39 = .ok (.iload 6, 2) := by decide +kernel
theorem dX12_span_41 : decode cX12_span 41 = .ok (.bipush 64, 2) := by decide +kernel
theorem dX12_span_43 : decode cX12_span 43 = .ok (.if_icmp .ge 77, 3) := by decide +kernel
theorem dX12_span_46 : decode cX12_span 46 = .ok (.iload 6, 2) := by decide +kernel
theorem dX12_span_48 : decode cX12_span 48 = .ok (.bipush 8, 2) := by decide +kernel
theorem dX12_span_50 : decode cX12_span 50 = .ok (.idiv, 1) := by decide +kernel
theorem dX12_span_51 : decode cX12_span 51 = .ok (.istore 7, 2) := by decide +kernel
theorem dX12_span_53 : decode cX12_span 53 = .ok (.iload 6, 2) := by decide +kernel
theorem dX12_span_55 : decode cX12_span 55 = .ok (.bipush 8, 2) := by decide +kernel
theorem dX12_span_57 : decode cX12_span 57 = .ok (.irem, 1) := by decide +kernel
theorem dX12_span_58 : decode cX12_span 58 = .ok (.istore 8, 2) := by decide +kernel
theorem dX12_span_60 : decode cX12_span 60 = .ok (.iload_n 2, 1) := by decide +kernel
theorem dX12_span_61 : decode cX12_span 61 = .ok (.iload 7, 2) := by decide +kernel
theorem dX12_span_63 : decode cX12_span 63 = .ok (.invokestatic 250, 3) := by decide +kernel
theorem dX12_span_66 : decode cX12_span 66 = .ok (.ifCond .eq 48, 3) := by decide +kernel
theorem dX12_span_69 : decode cX12_span 69 = .ok (.iload_n 1, 1) := by decide +kernel
theorem dX12_span_70 : decode cX12_span 70 = .ok (.iload 8, 2) := by decide +kernel
theorem dX12_span_72 : decode cX12_span 72 = .ok (.invokestatic 250, 3) := by decide +kernel
theorem dX12_span_75 : decode cX12_span 75 = .ok (.ifCond .eq 39, 3) := by decide +kernel
theorem dX12_span_78 : decode cX12_span 78 = .ok (.bipush 6, 2) := by decide +kernel
theorem dX12_span_80 : decode cX12_span 80 = .ok (.aload_n 0, 1) := by decide +kernel
theorem dX12_span_81 : decode cX12_span 81 = .ok (.iload 7, 2) := by decide +kernel
theorem dX12_span_83 : decode cX12_span 83 = .ok (.iload 8, 2) := by decide +kernel
theorem dX12_span_85 : decode cX12_span 85 = .ok (.invokevirtual 415, 3) := by decide +kernel
theorem dX12_span_88 : decode cX12_span 88 = .ok (.isub, 1) := by decide +kernel
theorem dX12_span_89 : decode cX12_span 89 = .ok (.iload 5, 2) := by decide +kernel
theorem dX12_span_91 : decode cX12_span 91 = .ok (.if_icmp .lt 6, 3) := by decide +kernel
theorem dX12_span_94 : decode cX12_span 94 = .ok (.goto 20, 3) := by decide +kernel
theorem dX12_span_97 : decode cX12_span 97 = .ok (.iload 8, 2) := by decide +kernel
theorem dX12_span_99 : decode cX12_span 99 = .ok (.istore 4, 2) := by decide +kernel
theorem dX12_span_101 : decode cX12_span 101 = .ok (.bipush 6, 2) := by decide +kernel
theorem dX12_span_103 : decode cX12_span 103 = .ok (.aload_n 0, 1) := by decide +kernel
theorem dX12_span_104 : decode cX12_span 104 = .ok (.iload 7, 2) := by decide +kernel
theorem dX12_span_106 : decode cX12_span 106 = .ok (.iload 8, 2) := by decide +kernel
theorem dX12_span_108 : decode cX12_span 108 = .ok (.invokevirtual 415, 3) := by decide +kernel
theorem dX12_span_111 : decode cX12_span 111 = .ok (.isub, 1) := by decide +kernel
theorem dX12_span_112 : decode cX12_span 112 = .ok (.istore 5, 2) := by decide +kernel
theorem dX12_span_114 : decode cX12_span 114 = .ok (.iinc 6 1, 3) := by decide +kernel
theorem dX12_span_117 : decode cX12_span 117 = .ok (.goto (-78), 3) := by decide +kernel
theorem dX12_span_120 : decode cX12_span 120 = .ok (.iload_n 2, 1) := by decide +kernel
theorem dX12_span_121 : decode cX12_span 121 = .ok (.iconst 1, 1) := by decide +kernel
theorem dX12_span_122 : decode cX12_span 122 = .ok (.iload 4, 2) := by decide +kernel
theorem dX12_span_124 : decode cX12_span 124 = .ok (.ishl, 1) := by decide +kernel
theorem dX12_span_125 : decode cX12_span 125 = .ok (.ior, 1) := by decide +kernel
theorem dX12_span_126 : decode cX12_span 126 = .ok (.istore_n 2, 1) := by decide +kernel
theorem dX12_span_127 : decode cX12_span 127 = .ok (.iload_n 1, 1) := by decide +kernel
theorem dX12_span_128 : decode cX12_span 128 = .ok (.iconst 1, 1) := by decide +kernel
theorem dX12_span_129 : decode cX12_span 129 = .ok (.iload 4, 2) := by decide +kernel
theorem dX12_span_131 : decode cX12_span 131 = .ok (.ishl, 1) := by decide +kernel
theorem dX12_span_132 : decode cX12_span 132 = .ok (.iconst (-1), 1) := by decide +kernel
theorem dX12_span_133 : decode cX12_span 133 = .ok (.ixor, 1) := by decide +kernel
theorem dX12_span_134 : decode cX12_span 134 = .ok (.iand, 1) := by decide +kernel
theorem dX12_span_135 : decode cX12_span 135 = .ok (.istore_n 1, 1) := by decide +kernel
theorem dX12_span_136 : decode cX12_span 136 = .ok (.iload_n 3, 1) := by decide +kernel
theorem dX12_span_137 : decode cX12_span 137 = .ok (.iload 5, 2) := by decide +kernel
theorem dX12_span_139 : decode cX12_span 139 = .ok (.iadd, 1) := by decide +kernel
theorem dX12_span_140 : decode cX12_span 140 = .ok (.istore_n 3, 1) := by decide +kernel
theorem dX12_span_141 : decode cX12_span 141 = .ok (.goto (-117), 3) := by decide +kernel
theorem dX12_span_144 : decode cX12_span 144 = .ok (.iload_n 3, 1) := by decide +kernel
theorem dX12_span_145 : decode cX12_span 145 = .ok (.ireturn, 1) := by decide +kernel
theorem dX12_parentsOf_0 : decode cX12_parentsOf 0 = .ok (.iconst 0, 1) := by decide +kernel
theorem dX12_parentsOf_1 : decode cX12_parentsOf 1 = .ok (.istore_n 2, 1) := by decide +kernel
theorem dX12_parentsOf_2 : decode cX12_parentsOf 2 = .ok (.iconst 0, 1) := by decide +kernel
theorem dX12_parentsOf_3 : decode cX12_parentsOf 3 = .ok (.istore_n 3, 1) := by decide +kernel
theorem dX12_parentsOf_4 : decode cX12_parentsOf 4 = .ok (.iload_n 3, 1) := by decide +kernel
theorem dX12_parentsOf_5 : decode cX12_parentsOf 5 = .ok (.bipush 8, 2) := by decide +kernel
theorem dX12_parentsOf_7 : decode cX12_parentsOf 7 = .ok (.if_icmp .ge 72, 3) := by decide +kernel
theorem dX12_parentsOf_10 : decode cX12_parentsOf 10 = .ok (.iload_n 1, 1) := by decide +kernel
theorem dX12_parentsOf_11 : decode cX12_parentsOf 11 = .ok (.iload_n 3, 1) := by decide +kernel
theorem dX12_parentsOf_12 : decode cX12_parentsOf 12 = .ok (.invokestatic 250, 3) := by decide +kernel
theorem dX12_parentsOf_15 : decode cX12_parentsOf 15 = .ok (.ifCond .ne 6, 3) := by decide +kernel
theorem dX12_parentsOf_18 : decode cX12_parentsOf 18 = .ok (.goto 55, 3) := by decide +kernel
theorem dX12_parentsOf_21 : decode cX12_parentsOf 21 = .ok (.aload_n 0, 1) := by decide +kernel
theorem dX12_parentsOf_22 : decode cX12_parentsOf 22 = .ok (.getfield 85, 3) := by decide +kernel
theorem dX12_parentsOf_25 : decode cX12_parentsOf 25 = .ok (.bipush 40, 2) := by decide +kernel
theorem dX12_parentsOf_27 : decode cX12_parentsOf 27 = .ok (.iload_n 3, 1) := by decide +kernel
theorem dX12_parentsOf_28 : decode cX12_parentsOf 28 = .ok (.iadd, 1) := by decide +kernel
theorem dX12_parentsOf_29 : decode cX12_parentsOf 29 = .ok (.iaload, 1) := by decide +kernel
theorem dX12_parentsOf_30 : decode cX12_parentsOf 30 = .ok (.ifCond .lt 17, 3) := by decide +kernel
theorem dX12_parentsOf_33 : decode cX12_parentsOf 33 = .ok (.iload_n 2, 1) := by decide +kernel
theorem dX12_parentsOf_34 : decode cX12_parentsOf 34 = .ok (.iconst 1, 1) := by decide +kernel
theorem dX12_parentsOf_35 : decode cX12_parentsOf 35 = .ok (.aload_n 0, 1) := by decide +kernel
theorem dX12_parentsOf_36 : decode cX12_parentsOf 36 = .ok (.getfield 85, 3) := by decide +kernel
theorem dX12_parentsOf_39 : decode cX12_parentsOf 39 = .ok (.bipush 40, 2) := by decide +kernel
theorem dX12_parentsOf_41 : decode cX12_parentsOf 41 = .ok (.iload_n 3, 1) := by decide +kernel
theorem dX12_parentsOf_42 : decode cX12_parentsOf 42 = .ok (.iadd, 1) := by decide +kernel
theorem dX12_parentsOf_43 : decode cX12_parentsOf 43 = .ok (.iaload, 1) := by decide +kernel
theorem dX12_parentsOf_44 : decode cX12_parentsOf 44 = .ok (.ishl, 1) := by decide +kernel
theorem dX12_parentsOf_45 : decode cX12_parentsOf 45 = .ok (.ior, 1) := by decide +kernel
theorem dX12_parentsOf_46 : decode cX12_parentsOf 46 = .ok (.istore_n 2, 1) := by decide +kernel
theorem dX12_parentsOf_47 : decode cX12_parentsOf 47 = .ok (.aload_n 0, 1) := by decide +kernel
theorem dX12_parentsOf_48 : decode cX12_parentsOf 48 = .ok (.getfield 85, 3) := by decide +kernel
theorem dX12_parentsOf_51 : decode cX12_parentsOf 51 = .ok (.bipush 48, 2) := by decide +kernel
theorem dX12_parentsOf_53 : decode cX12_parentsOf 53 = .ok (.iload_n 3, 1) := by decide +kernel
theorem dX12_parentsOf_54 : decode cX12_parentsOf 54 = .ok (.iadd, 1) := by decide +kernel
theorem dX12_parentsOf_55 : decode cX12_parentsOf 55 = .ok (.iaload, 1) := by decide +kernel
theorem dX12_parentsOf_56 : decode cX12_parentsOf 56 = .ok (.ifCond .lt 17, 3) := by decide +kernel
theorem dX12_parentsOf_59 : decode cX12_parentsOf 59 = .ok (.iload_n 2, 1) := by decide +kernel
theorem dX12_parentsOf_60 : decode cX12_parentsOf 60 = .ok (.iconst 1, 1) := by decide +kernel
theorem dX12_parentsOf_61 : decode cX12_parentsOf 61 = .ok (.aload_n 0, 1) := by decide +kernel
theorem dX12_parentsOf_62 : decode cX12_parentsOf 62 = .ok (.getfield 85, 3) := by decide +kernel
theorem dX12_parentsOf_65 : decode cX12_parentsOf 65 = .ok (.bipush 48, 2) := by decide +kernel
theorem dX12_parentsOf_67 : decode cX12_parentsOf 67 = .ok (.iload_n 3, 1) := by decide +kernel
theorem dX12_parentsOf_68 : decode cX12_parentsOf 68 = .ok (.iadd, 1) := by decide +kernel
theorem dX12_parentsOf_69 : decode cX12_parentsOf 69 = .ok (.iaload, 1) := by decide +kernel
theorem dX12_parentsOf_70 : decode cX12_parentsOf 70 = .ok (.ishl, 1) := by decide +kernel
theorem dX12_parentsOf_71 : decode cX12_parentsOf 71 = .ok (.ior, 1) := by decide +kernel
theorem dX12_parentsOf_72 : decode cX12_parentsOf 72 = .ok (.istore_n 2, 1) := by decide +kernel
theorem dX12_parentsOf_73 : decode cX12_parentsOf 73 = .ok (.iinc 3 1, 3) := by decide +kernel
theorem dX12_parentsOf_76 : decode cX12_parentsOf 76 = .ok (.goto (-72), 3) := by decide +kernel
theorem dX12_parentsOf_79 : decode cX12_parentsOf 79 = .ok (.iload_n 2, 1) := by decide +kernel
theorem dX12_parentsOf_80 : decode cX12_parentsOf 80 = .ok (.ireturn, 1) := by decide +kernel
theorem dX12_line_0 : decode cX12_line 0 = .ok (.aload_n 0, 1) := by decide +kernel
theorem dX12_line_1 : decode cX12_line 1 = .ok (.iload_n 1, 1) := by decide +kernel
theorem dX12_line_2 : decode cX12_line 2 = .ok (.invokevirtual 411, 3) := by decide +kernel
theorem dX12_line_5 : decode cX12_line 5 = .ok (.ifCond .ne 5, 3) := by decide +kernel
theorem dX12_line_8 : decode cX12_line 8 = .ok (.iconst (-1), 1) := by decide +kernel
theorem dX12_line_9 : decode cX12_line 9 = .ok (.ireturn, 1) := by decide +kernel
theorem dX12_line_10 : decode cX12_line 10 = .ok (.aload_n 0, 1) := by decide +kernel
theorem dX12_line_11 : decode cX12_line 11 = .ok (.iconst 1, 1) := by decide +kernel
theorem dX12_line_12 : decode cX12_line 12 = .ok (.iload_n 1, 1) := by decide +kernel
theorem dX12_line_13 : decode cX12_line 13 = .ok (.ishl, 1) := by decide +kernel
theorem dX12_line_14 : decode cX12_line 14 = .ok (.invokevirtual 466, 3) := by decide +kernel
theorem dX12_line_17 : decode cX12_line 17 = .ok (.istore_n 2, 1) := by decide +kernel
theorem dX12_line_18 : decode cX12_line 18 = .ok (.iconst 0, 1) := by decide +kernel
theorem dX12_line_19 : decode cX12_line 19 = .ok (.istore_n 3, 1) := by decide +kernel
theorem dX12_line_20 : decode cX12_line 20 = .ok (.iload_n 3, 1) := by decide +kernel
theorem dX12_line_21 : decode cX12_line 21 = .ok (.bipush 8, 2) := by decide +kernel
theorem dX12_line_23 : decode cX12_line 23 = .ok (.if_icmp .ge 17, 3) := by decide +kernel
theorem dX12_line_26 : decode cX12_line 26 = .ok (.iload_n 2, 1) := by decide +kernel
theorem dX12_line_27 : decode cX12_line 27 = .ok (.aload_n 0, 1) := by decide +kernel
theorem dX12_line_28 : decode cX12_line 28 = .ok (.iload_n 2, 1) := by decide +kernel
theorem dX12_line_29 : decode cX12_line 29 = .ok (.invokevirtual 466, 3) := by decide +kernel
theorem dX12_line_32 : decode cX12_line 32 = .ok (.ior, 1) := by decide +kernel
theorem dX12_line_33 : decode cX12_line 33 = .ok (.istore_n 2, 1) := by decide +kernel
theorem dX12_line_34 : decode cX12_line 34 = .ok (.iinc 3 1, 3) := by decide +kernel
theorem dX12_line_37 : decode cX12_line 37 = .ok (.goto (-17), 3) := by decide +kernel
theorem dX12_line_40 : decode cX12_line 40 = .ok (.iload_n 2, 1) := by decide +kernel
theorem dX12_line_41 : decode cX12_line 41 = .ok (.ireturn, 1) := by decide +kernel
theorem dX12_litter_0 : decode cX12_litter 0 = .ok (.aload_n 0, 1) := by decide +kernel
theorem dX12_litter_1 : decode cX12_litter 1 = .ok (.iload_n 1, 1) := by decide +kernel
theorem dX12_litter_2 : decode cX12_litter 2 = .ok (.invokevirtual 411, 3) := by decide +kernel
theorem dX12_litter_5 : decode cX12_litter 5 = .ok (.ifCond .ne 5, 3) := by decide +kernel
theorem dX12_litter_8 : decode cX12_litter 8 = .ok (.iconst (-1), 1) := by decide +kernel
theorem dX12_litter_9 : decode cX12_litter 9 = .ok (.ireturn, 1) := by decide +kernel
theorem dX12_litter_10 : decode cX12_litter 10 = .ok (.iconst 0, 1) := by decide +kernel
theorem dX12_litter_11 : decode cX12_litter 11 = .ok (.istore_n 2, 1) := by decide +kernel
theorem dX12_litter_12 : decode cX12_litter 12 = .ok (.iconst 0, 1) := by decide +kernel
theorem dX12_litter_13 : decode cX12_litter 13 = .ok (.istore_n 3, 1) := by decide +kernel
theorem dX12_litter_14 : decode cX12_litter 14 = .ok (.iload_n 3, 1) := by decide +kernel
theorem dX12_litter_15 : decode cX12_litter 15 = .ok (.bipush 8, 2) := by decide +kernel
theorem dX12_litter_17 : decode cX12_litter 17 = .ok (.if_icmp .ge 41, 3) := by decide +kernel
theorem dX12_litter_20 : decode cX12_litter 20 = .ok (.aload_n 0, 1) := by decide +kernel
theorem dX12_litter_21 : decode cX12_litter 21 = .ok (.getfield 85, 3) := by decide +kernel
theorem dX12_litter_24 : decode cX12_litter 24 = .ok (.bipush 40, 2) := by decide +kernel
theorem dX12_litter_26 : decode cX12_litter 26 = .ok (.iload_n 3, 1) := by decide +kernel
theorem dX12_litter_27 : decode cX12_litter 27 = .ok (.iadd, 1) := by decide +kernel
theorem dX12_litter_28 : decode cX12_litter 28 = .ok (.iaload, 1) := by decide +kernel
theorem dX12_litter_29 : decode cX12_litter 29 = .ok (.iload_n 1, 1) := by decide +kernel
theorem dX12_litter_30 : decode cX12_litter 30 = .ok (.if_icmp .eq 16, 3) := by decide +kernel
theorem dX12_litter_33 : decode cX12_litter 33 = .ok (.aload_n 0, 1) := by decide +kernel
theorem dX12_litter_34 : decode cX12_litter 34 = .ok (.getfield 85, 3) := by decide +kernel
theorem dX12_litter_37 : decode cX12_litter 37 = .ok (.bipush 48, 2) := by decide +kernel
theorem dX12_litter_39 : decode cX12_litter 39 = .ok (.iload_n 3, 1) := by decide +kernel
theorem dX12_litter_40 : decode cX12_litter 40 = .ok (.iadd, 1) := by decide +kernel
theorem dX12_litter_41 : decode cX12_litter 41 = .ok (.iaload, 1) := by decide +kernel
theorem dX12_litter_42 : decode cX12_litter 42 = .ok (.iload_n 1, 1) := by decide +kernel
theorem dX12_litter_43 : decode cX12_litter 43 = .ok (.if_icmp .ne 9, 3) := by decide +kernel
theorem dX12_litter_46 : decode cX12_litter 46 = .ok (.iload_n 2, 1) := by decide +kernel
theorem dX12_litter_47 : decode cX12_litter 47 = .ok (.iconst 1, 1) := by decide +kernel
theorem dX12_litter_48 : decode cX12_litter 48 = .ok (.iload_n 3, 1) := by decide +kernel
theorem dX12_litter_49 : decode cX12_litter 49 = .ok (.ishl, 1) := by decide +kernel
theorem dX12_litter_50 : decode cX12_litter 50 = .ok (.ior, 1) := by decide +kernel
theorem dX12_litter_51 : decode cX12_litter 51 = .ok (.istore_n 2, 1) := by decide +kernel
theorem dX12_litter_52 : decode cX12_litter 52 = .ok (.iinc 3 1, 3) := by decide +kernel
theorem dX12_litter_55 : decode cX12_litter 55 = .ok (.goto (-41), 3) := by decide +kernel
theorem dX12_litter_58 : decode cX12_litter 58 = .ok (.iload_n 2, 1) := by decide +kernel
theorem dX12_litter_59 : decode cX12_litter 59 = .ok (.ireturn, 1) := by decide +kernel
theorem dX12_stepsUp_0 : decode cX12_stepsUp 0 = .ok (.iconst 1, 1) := by decide +kernel
theorem dX12_stepsUp_1 : decode cX12_stepsUp 1 = .ok (.iload_n 1, 1) := by decide +kernel
theorem dX12_stepsUp_2 : decode cX12_stepsUp 2 = .ok (.ishl, 1) := by decide +kernel
theorem dX12_stepsUp_3 : decode cX12_stepsUp 3 = .ok (.istore_n 3, 1) := by decide +kernel
theorem dX12_stepsUp_4 : decode cX12_stepsUp 4 = .ok (.iconst 0, 1) := by decide +kernel
theorem dX12_stepsUp_5 : decode cX12_stepsUp 5 = .ok (.istore 4, 2) := by decide +kernel
theorem dX12_stepsUp_7 : decode cX12_stepsUp 7 = .ok (.iload 4, 2) := by decide +kernel
theorem dX12_stepsUp_9 : decode cX12_stepsUp 9 = .ok (.bipush 8, 2) := by decide +kernel
theorem dX12_stepsUp_11 : decode cX12_stepsUp 11 = .ok (.if_icmp .gt 26, 3) := by decide +kernel
theorem dX12_stepsUp_14 : decode cX12_stepsUp 14 = .ok (.iload_n 3, 1) := by decide +kernel
theorem dX12_stepsUp_15 : decode cX12_stepsUp 15 = .ok (.iload_n 2, 1) := by decide +kernel
theorem dX12_stepsUp_16 : decode cX12_stepsUp 16 = .ok (.invokestatic 250, 3) := by decide +kernel
theorem dX12_stepsUp_19 : decode cX12_stepsUp 19 = .ok (.ifCond .eq 6, 3) := by decide +kernel
theorem dX12_stepsUp_22 : decode cX12_stepsUp 22 = .ok (.iload 4, 2) := by decide +kernel
theorem dX12_stepsUp_24 : decode cX12_stepsUp 24 = .ok (.ireturn, 1) := by decide +kernel
theorem dX12_stepsUp_25 : decode cX12_stepsUp 25 = .ok (.aload_n 0, 1) := by decide +kernel
theorem dX12_stepsUp_26 : decode cX12_stepsUp 26 = .ok (.iload_n 3, 1) := by decide +kernel
theorem dX12_stepsUp_27 : decode cX12_stepsUp 27 = .ok (.invokevirtual 466, 3) := by decide +kernel
theorem dX12_stepsUp_30 : decode cX12_stepsUp 30 = .ok (.istore_n 3, 1) := by decide +kernel
theorem dX12_stepsUp_31 : decode cX12_stepsUp 31 = .ok (.iinc 4 1, 3) := by decide +kernel
theorem dX12_stepsUp_34 : decode cX12_stepsUp 34 = .ok (.goto (-27), 3) := by decide +kernel
theorem dX12_stepsUp_37 : decode cX12_stepsUp 37 = .ok (.sipush 1000, 3) := by decide +kernel
theorem dX12_stepsUp_40 : decode cX12_stepsUp 40 = .ok (.ireturn, 1) := by decide +kernel
theorem dX12_kin_0 : decode cX12_kin 0 = .ok (.aload_n 0, 1) := by decide +kernel
theorem dX12_kin_1 : decode cX12_kin 1 = .ok (.iload_n 1, 1) := by decide +kernel
theorem dX12_kin_2 : decode cX12_kin 2 = .ok (.invokevirtual 411, 3) := by decide +kernel
theorem dX12_kin_5 : decode cX12_kin 5 = .ok (.ifCond .eq 11, 3) := by decide +kernel
theorem dX12_kin_8 : decode cX12_kin 8 = .ok (.aload_n 0, 1) := by decide +kernel
theorem dX12_kin_9 : decode cX12_kin 9 = .ok (.iload_n 2, 1) := by decide +kernel
theorem dX12_kin_10 : decode cX12_kin 10 = .ok (.invokevirtual 411, 3) := by decide +kernel
theorem dX12_kin_13 : decode cX12_kin 13 = .ok (.ifCond .ne 5, 3) := by decide +kernel
theorem dX12_kin_16 : decode cX12_kin 16 = .ok (.iconst (-1), 1) := by decide +kernel
theorem dX12_kin_17 : decode cX12_kin 17 = .ok (.ireturn, 1) := by decide +kernel
theorem dX12_kin_18 : decode cX12_kin 18 = .ok (.sipush 1000, 3) := by decide +kernel
theorem dX12_kin_21 : decode cX12_kin 21 = .ok (.istore_n 3, 1) := by decide +kernel
theorem dX12_kin_22 : decode cX12_kin 22 = .ok (.iconst 0, 1) := by decide +kernel
theorem dX12_kin_23 : decode cX12_kin 23 = .ok (.istore 4, 2) := by decide +kernel
theorem dX12_kin_25 : decode cX12_kin 25 = .ok (.iload 4, 2) := by decide +kernel
theorem dX12_kin_27 : decode cX12_kin 27 = .ok (.bipush 8, 2) := by decide +kernel
theorem dX12_kin_29 : decode cX12_kin 29 = .ok (.if_icmp .ge 35, 3) := by decide +kernel
theorem dX12_kin_32 : decode cX12_kin 32 = .ok (.aload_n 0, 1) := by decide +kernel
theorem dX12_kin_33 : decode cX12_kin 33 = .ok (.iload_n 1, 1) := by decide +kernel
theorem dX12_kin_34 : decode cX12_kin 34 = .ok (.iload 4, 2) := by decide +kernel
theorem dX12_kin_36 : decode cX12_kin 36 = .ok (.invokevirtual 469, 3) := by decide +kernel
theorem dX12_kin_39 : decode cX12_kin 39 = .ok (.aload_n 0, 1) := by decide +kernel
theorem dX12_kin_40 : decode cX12_kin 40 = .ok (.iload_n 2, 1) := by decide +kernel
theorem dX12_kin_41 : decode cX12_kin 41 = .ok (.iload 4, 2) := by decide +kernel
theorem dX12_kin_43 : decode cX12_kin 43 = .ok (.invokevirtual 469, 3) := by decide +kernel
theorem dX12_kin_46 : decode cX12_kin 46 = .ok (.iadd, 1) := by decide +kernel
theorem dX12_kin_47 : decode cX12_kin 47 = .ok (.istore 5, 2) := by decide +kernel
theorem dX12_kin_49 : decode cX12_kin 49 = .ok (.iload 5, 2) := by decide +kernel
theorem dX12_kin_51 : decode cX12_kin 51 = .ok (.iload_n 3, 1) := by decide +kernel
theorem dX12_kin_52 : decode cX12_kin 52 = .ok (.if_icmp .ge 6, 3) := by decide +kernel
theorem dX12_kin_55 : decode cX12_kin 55 = .ok (.iload 5, 2) := by decide +kernel
theorem dX12_kin_57 : decode cX12_kin 57 = .ok (.istore_n 3, 1) := by decide +kernel
theorem dX12_kin_58 : decode cX12_kin 58 = .ok (.iinc 4 1, 3) := by decide +kernel
theorem dX12_kin_61 : decode cX12_kin 61 = .ok (.goto (-36), 3) := by decide +kernel
theorem dX12_kin_64 : decode cX12_kin 64 = .ok (.iload_n 3, 1) := by decide +kernel
theorem dX12_kin_65 : decode cX12_kin 65 = .ok (.sipush 1000, 3) := by decide +kernel
theorem dX12_kin_68 : decode cX12_kin 68 = .ok (.if_icmp .ge 7, 3) := by decide +kernel
theorem dX12_kin_71 : decode cX12_kin 71 = .ok (.iload_n 3, 1) := by decide +kernel
theorem dX12_kin_72 : decode cX12_kin 72 = .ok (.goto 4, 3) := by decide +kernel
theorem dX12_kin_75 : decode cX12_kin 75 = .ok (.iconst (-1), 1) := by decide +kernel
theorem dX12_kin_76 : decode cX12_kin 76 = .ok (.ireturn, 1) := by decide +kernel
theorem dX12_isOther_0 : decode cX12_isOther 0 = .ok (.iload_n 1, 1) := by decide +kernel
theorem dX12_isOther_1 : decode cX12_isOther 1 = .ok (.iconst 0, 1) := by decide +kernel
theorem dX12_isOther_2 : decode cX12_isOther 2 = .ok (.aload_n 0, 1) := by decide +kernel
theorem dX12_isOther_3 : decode cX12_isOther 3 = .ok (.getfield 24, 3) := by decide +kernel
theorem dX12_isOther_6 : decode cX12_isOther 6 = .ok (.aload_n 0, 1) := by decide +kernel
theorem dX12_isOther_7 : decode cX12_isOther 7 = .ok (.getfield 244, 3) := by decide +kernel
theorem dX12_isOther_10 : decode cX12_isOther 10 = .ok (.iaload, 1) := by decide +kernel
theorem dX12_isOther_11 : decode cX12_isOther 11 = .ok (.iconst 2, 1) := by decide +kernel
theorem dX12_isOther_12 : decode cX12_isOther 12 = .ok (.isub, 1) := by decide +kernel
theorem dX12_isOther_13 : decode cX12_isOther 13 = .ok (.invokestatic 346, 3) := by decide +kernel
theorem dX12_isOther_16 : decode cX12_isOther 16 = .ok (.ireturn, 1) := by decide +kernel
theorem dX12_sharedIf_0 : decode cX12_sharedIf 0 = .ok (.iload_n 1, 1) := by decide +kernel
theorem dX12_sharedIf_1 : decode cX12_sharedIf 1 = .ok (.aload_n 0, 1) := by decide +kernel
theorem dX12_sharedIf_2 : decode cX12_sharedIf 2 = .ok (.getfield 51, 3) := by decide +kernel
theorem dX12_sharedIf_5 : decode cX12_sharedIf 5 = .ok (.bipush 6, 2) := by decide +kernel
theorem dX12_sharedIf_7 : decode cX12_sharedIf 7 = .ok (.aload_n 0, 1) := by decide +kernel
theorem dX12_sharedIf_8 : decode cX12_sharedIf 8 = .ok (.getfield 244, 3) := by decide +kernel
theorem dX12_sharedIf_11 : decode cX12_sharedIf 11 = .ok (.imul, 1) := by decide +kernel
theorem dX12_sharedIf_12 : decode cX12_sharedIf 12 = .ok (.iload_n 2, 1) := by decide +kernel
theorem dX12_sharedIf_13 : decode cX12_sharedIf 13 = .ok (.iadd, 1) := by decide +kernel
theorem dX12_sharedIf_14 : decode cX12_sharedIf 14 = .ok (.iaload, 1) := by decide +kernel
theorem dX12_sharedIf_15 : decode cX12_sharedIf 15 = .ok (.invokestatic 325, 3) := by decide +kernel
theorem dX12_sharedIf_18 : decode cX12_sharedIf 18 = .ok (.ireturn, 1) := by decide +kernel
theorem dX12_held_0 : decode cX12_held 0 = .ok (.aload_n 0, 1) := by decide +kernel
theorem dX12_held_1 : decode cX12_held 1 = .ok (.iload_n 1, 1) := by decide +kernel
theorem dX12_held_2 : decode cX12_held 2 = .ok (.invokevirtual 472, 3) := by decide +kernel
theorem dX12_held_5 : decode cX12_held 5 = .ok (.ifCond .eq 22, 3) := by decide +kernel
theorem dX12_held_8 : decode cX12_held 8 = .ok (.iload_n 2, 1) := by decide +kernel
theorem dX12_held_9 : decode cX12_held 9 = .ok (.iconst 0, 1) := by decide +kernel
theorem dX12_held_10 : decode cX12_held 10 = .ok (.bipush 6, 2) := by decide +kernel
theorem dX12_held_12 : decode cX12_held 12 = .ok (.invokestatic 346, 3) := by decide +kernel
theorem dX12_held_15 : decode cX12_held 15 = .ok (.ifCond .eq 12, 3) := by decide +kernel
theorem dX12_held_18 : decode cX12_held 18 = .ok (.aload_n 0, 1) := by decide +kernel
theorem dX12_held_19 : decode cX12_held 19 = .ok (.getfield 369, 3) := by decide +kernel
theorem dX12_held_22 : decode cX12_held 22 = .ok (.bipush 30, 2) := by decide +kernel
theorem dX12_held_24 : decode cX12_held 24 = .ok (.if_icmp .ne 5, 3) := by decide +kernel
theorem dX12_held_27 : decode cX12_held 27 = .ok (.iconst (-1), 1) := by decide +kernel
theorem dX12_held_28 : decode cX12_held 28 = .ok (.ireturn, 1) := by decide +kernel
theorem dX12_held_29 : decode cX12_held 29 = .ok (.aload_n 0, 1) := by decide +kernel
theorem dX12_held_30 : decode cX12_held 30 = .ok (.getfield 100, 3) := by decide +kernel
theorem dX12_held_33 : decode cX12_held 33 = .ok (.aload_n 0, 1) := by decide +kernel
theorem dX12_held_34 : decode cX12_held 34 = .ok (.getfield 369, 3) := by decide +kernel
theorem dX12_held_37 : decode cX12_held 37 = .ok (.iload_n 1, 1) := by decide +kernel
theorem dX12_held_38 : decode cX12_held 38 = .ok (.iastore, 1) := by decide +kernel
theorem dX12_held_39 : decode cX12_held 39 = .ok (.aload_n 0, 1) := by decide +kernel
theorem dX12_held_40 : decode cX12_held 40 = .ok (.getfield 103, 3) := by decide +kernel
theorem dX12_held_43 : decode cX12_held 43 = .ok (.aload_n 0, 1) := by decide +kernel
theorem dX12_held_44 : decode cX12_held 44 = .ok (.getfield 369, 3) := by decide +kernel
theorem dX12_held_47 : decode cX12_held 47 = .ok (.iload_n 2, 1) := by decide +kernel
theorem dX12_held_48 : decode cX12_held 48 = .ok (.iastore, 1) := by decide +kernel
theorem dX12_held_49 : decode cX12_held 49 = .ok (.aload_n 0, 1) := by decide +kernel
theorem dX12_held_50 : decode cX12_held 50 = .ok (.getfield 106, 3) := by decide +kernel
theorem dX12_held_53 : decode cX12_held 53 = .ok (.aload_n 0, 1) := by decide +kernel
theorem dX12_held_54 : decode cX12_held 54 = .ok (.getfield 369, 3) := by decide +kernel
theorem dX12_held_57 : decode cX12_held 57 = .ok (.iload_n 3, 1) := by decide +kernel
theorem dX12_held_58 : decode cX12_held 58 = .ok (.ifCond .eq 7, 3) := by decide +kernel
theorem dX12_held_61 : decode cX12_held 61 = .ok (.iconst 1, 1) := by decide +kernel
theorem dX12_held_62 : decode cX12_held 62 = .ok (.goto 4, 3) := by decide +kernel
theorem dX12_held_65 : decode cX12_held 65 = .ok (.iconst 0, 1) := by decide +kernel
theorem dX12_held_66 : decode cX12_held 66 = .ok (.iastore, 1) := by decide +kernel
theorem dX12_held_67 : decode cX12_held 67 = .ok (.aload_n 0, 1) := by decide +kernel
theorem dX12_held_68 : decode cX12_held 68 = .ok (.getfield 109, 3) := by decide +kernel
theorem dX12_held_71 : decode cX12_held 71 = .ok (.aload_n 0, 1) := by decide +kernel
theorem dX12_held_72 : decode cX12_held 72 = .ok (.getfield 369, 3) := by decide +kernel
theorem dX12_held_75 : decode cX12_held 75 = .ok (.aload_n 0, 1) := by decide +kernel
theorem dX12_held_76 : decode cX12_held 76 = .ok (.getfield 475, 3) := by decide +kernel
theorem dX12_held_79 : decode cX12_held 79 = .ok (.iastore, 1) := by decide +kernel
theorem dX12_held_80 : decode cX12_held 80 = .ok (.aload_n 0, 1) := by decide +kernel
theorem dX12_held_81 : decode cX12_held 81 = .ok (.getfield 112, 3) := by decide +kernel
theorem dX12_held_84 : decode cX12_held 84 = .ok (.aload_n 0, 1) := by decide +kernel
theorem dX12_held_85 : decode cX12_held 85 = .ok (.getfield 369, 3) := by decide +kernel
theorem dX12_held_88 : decode cX12_held 88 = .ok (.iconst (-1), 1) := by decide +kernel
theorem dX12_held_89 : decode cX12_held 89 = .ok (.iastore, 1) := by decide +kernel
theorem dX12_held_90 : decode cX12_held 90 = .ok (.aload_n 0, 1) := by decide +kernel
theorem dX12_held_91 : decode cX12_held 91 = .ok (.dup, 1) := by decide +kernel
theorem dX12_held_92 : decode cX12_held 92 = .ok (.getfield 369, 3) := by decide +kernel
theorem dX12_held_95 : decode cX12_held 95 = .ok (.iconst 1, 1) := by decide +kernel
theorem dX12_held_96 : decode cX12_held 96 = .ok (.iadd, 1) := by decide +kernel
theorem dX12_held_97 : decode cX12_held 97 = .ok (.putfield 369, 3) := by decide +kernel
theorem dX12_held_100 : decode cX12_held 100 = .ok (.aload_n 0, 1) := by decide +kernel
theorem dX12_held_101 : decode cX12_held 101 = .ok (.getfield 369, 3) := by decide +kernel
theorem dX12_held_104 : decode cX12_held 104 = .ok (.iconst 1, 1) := by decide +kernel
theorem dX12_held_105 : decode cX12_held 105 = .ok (.isub, 1) := by decide +kernel
theorem dX12_held_106 : decode cX12_held 106 = .ok (.ireturn, 1) := by decide +kernel
theorem dX12_untell_0 : decode cX12_untell 0 = .ok (.iload_n 1, 1) := by decide +kernel
theorem dX12_untell_1 : decode cX12_untell 1 = .ok (.iconst 0, 1) := by decide +kernel
theorem dX12_untell_2 : decode cX12_untell 2 = .ok (.aload_n 0, 1) := by decide +kernel
theorem dX12_untell_3 : decode cX12_untell 3 = .ok (.getfield 369, 3) := by decide +kernel
theorem dX12_untell_6 : decode cX12_untell 6 = .ok (.iconst 1, 1) := by decide +kernel
theorem dX12_untell_7 : decode cX12_untell 7 = .ok (.isub, 1) := by decide +kernel
theorem dX12_untell_8 : decode cX12_untell 8 = .ok (.invokestatic 346, 3) := by decide +kernel
theorem dX12_untell_11 : decode cX12_untell 11 = .ok (.ifCond .eq 12, 3) := by decide +kernel
theorem dX12_untell_14 : decode cX12_untell 14 = .ok (.aload_n 0, 1) := by decide +kernel
theorem dX12_untell_15 : decode cX12_untell 15 = .ok (.getfield 112, 3) := by decide +kernel
theorem dX12_untell_18 : decode cX12_untell 18 = .ok (.iload_n 1, 1) := by decide +kernel
theorem dX12_untell_19 : decode cX12_untell 19 = .ok (.iaload, 1) := by decide +kernel
theorem dX12_untell_20 : decode cX12_untell 20 = .ok (.ifCond .lt 5, 3) := by decide +kernel
theorem dX12_untell_23 : decode cX12_untell 23 = .ok (.iconst 0, 1) := by decide +kernel
theorem dX12_untell_24 : decode cX12_untell 24 = .ok (.ireturn, 1) := by decide +kernel
theorem dX12_untell_25 : decode cX12_untell 25 = .ok (.aload_n 0, 1) := by decide +kernel
theorem dX12_untell_26 : decode cX12_untell 26 = .ok (.getfield 112, 3) := by decide +kernel
theorem dX12_untell_29 : decode cX12_untell 29 = .ok (.iload_n 1, 1) := by decide +kernel
theorem dX12_untell_30 : decode cX12_untell 30 = .ok (.aload_n 0, 1) := by decide +kernel
theorem dX12_untell_31 : decode cX12_untell 31 = .ok (.getfield 475, 3) := by decide +kernel
theorem dX12_untell_34 : decode cX12_untell 34 = .ok (.iastore, 1) := by decide +kernel
theorem dX12_untell_35 : decode cX12_untell 35 = .ok (.iconst 1, 1) := by decide +kernel
theorem dX12_untell_36 : decode cX12_untell 36 = .ok (.ireturn, 1) := by decide +kernel
theorem dX12_later_0 : decode cX12_later 0 = .ok (.iload_n 1, 1) := by decide +kernel
theorem dX12_later_1 : decode cX12_later 1 = .ok (.iconst 0, 1) := by decide +kernel
theorem dX12_later_2 : decode cX12_later 2 = .ok (.sipush 1000, 3) := by decide +kernel
theorem dX12_later_5 : decode cX12_later 5 = .ok (.invokestatic 346, 3) := by decide +kernel
theorem dX12_later_8 : decode cX12_later 8 = .ok (.ifCond .eq 15, 3) := by decide +kernel
theorem dX12_later_11 : decode cX12_later 11 = .ok (.aload_n 0, 1) := by decide +kernel
theorem dX12_later_12 : decode cX12_later 12 = .ok (.getfield 475, 3) := by decide +kernel
theorem dX12_later_15 : decode cX12_later 15 = .ok (.iload_n 1, 1) := by decide +kernel
theorem dX12_later_16 : decode cX12_later 16 = .ok (.iadd, 1) := by decide +kernel
theorem dX12_later_17 : decode cX12_later 17 = .ok (.ldc_w 478, 3) := by decide +kernel
theorem dX12_later_20 : decode cX12_later 20 = .ok (.if_icmp .le 5, 3) := by decide +kernel
theorem dX12_later_23 : decode cX12_later 23 = .ok (.iconst (-1), 1) := by decide +kernel
theorem dX12_later_24 : decode cX12_later 24 = .ok (.ireturn, 1) := by decide +kernel
theorem dX12_later_25 : decode cX12_later 25 = .ok (.aload_n 0, 1) := by decide +kernel
theorem dX12_later_26 : decode cX12_later 26 = .ok (.dup, 1) := by decide +kernel
theorem dX12_later_27 : decode cX12_later 27 = .ok (.getfield 475, 3) := by decide +kernel
theorem dX12_later_30 : decode cX12_later 30 = .ok (.iload_n 1, 1) := by decide +kernel
theorem dX12_later_31 : decode cX12_later 31 = .ok (.iadd, 1) := by decide +kernel
theorem dX12_later_32 : decode cX12_later 32 = .ok (.putfield 475, 3) := by decide +kernel
theorem dX12_later_35 : decode cX12_later 35 = .ok (.aload_n 0, 1) := by decide +kernel
theorem dX12_later_36 : decode cX12_later 36 = .ok (.getfield 475, 3) := by decide +kernel
theorem dX12_later_39 : decode cX12_later 39 = .ok (.ireturn, 1) := by decide +kernel
theorem dX12_doesFit_0 : decode cX12_doesFit 0 = .ok (.iconst 0, 1) := by decide +kernel
theorem dX12_doesFit_1 : decode cX12_doesFit 1 = .ok (.istore_n 3, 1) := by decide +kernel
theorem dX12_doesFit_2 : decode cX12_doesFit 2 = .ok (.iload_n 3, 1) := by decide +kernel
theorem dX12_doesFit_3 : decode cX12_doesFit 3 = .ok (.aload_n 0, 1) := by decide +kernel
theorem dX12_doesFit_4 : decode cX12_doesFit 4 = .ok (.getfield 369, 3) := by decide +kernel
theorem dX12_doesFit_7 : decode cX12_doesFit 7 = .ok (.if_icmp .ge 81, 3) := by decide +kernel
theorem dX12_doesFit_10 : decode cX12_doesFit 10 = .ok (.aload_n 0, 1) := by decide +kernel
theorem dX12_doesFit_11 : decode cX12_doesFit 11 = .ok (.getfield 109, 3) := by decide +kernel
theorem dX12_doesFit_14 : decode cX12_doesFit 14 = .ok (.iload_n 3, 1) := by decide +kernel
theorem dX12_doesFit_15 : decode cX12_doesFit 15 = .ok (.iaload, 1) := by decide +kernel
theorem dX12_doesFit_16 : decode cX12_doesFit 16 = .ok (.iload_n 2, 1) := by decide +kernel
theorem dX12_doesFit_17 : decode cX12_doesFit 17 = .ok (.if_icmp .gt 65, 3) := by decide +kernel
theorem dX12_doesFit_20 : decode cX12_doesFit 20 = .ok (.aload_n 0, 1) := by decide +kernel
theorem dX12_doesFit_21 : decode cX12_doesFit 21 = .ok (.getfield 112, 3) := by decide +kernel
theorem dX12_doesFit_24 : decode cX12_doesFit 24 = .ok (.iload_n 3, 1) := by decide +kernel
theorem dX12_doesFit_25 : decode cX12_doesFit 25 = .ok (.iaload, 1) := by decide +kernel
theorem dX12_doesFit_26 : decode cX12_doesFit 26 = .ok (.ifCond .lt 16, 3) := by decide +kernel
theorem dX12_doesFit_29 : decode cX12_doesFit 29 = .ok (.aload_n 0, 1) := by decide +kernel
theorem dX12_doesFit_30 : decode cX12_doesFit 30 = .ok (.getfield 112, 3) := by decide +kernel
theorem dX12_doesFit_33 : decode cX12_doesFit 33 = .ok (.iload_n 3, 1) := by decide +kernel
theorem dX12_doesFit_34 : decode cX12_doesFit 34 = .ok (.iaload, 1) := by decide +kernel
theorem dX12_doesFit_35 : decode cX12_doesFit 35 = .ok (.iload_n 2, 1) := by decide +kernel
theorem dX12_doesFit_36 : decode cX12_doesFit 36 = .ok (.if_icmp .gt 6, 3) := by decide +kernel
theorem dX12_doesFit_39 : decode cX12_doesFit 39 = .ok (.goto 43, 3) := by decide +kernel
theorem dX12_doesFit_42 : decode cX12_doesFit 42 = .ok (.aload_n 0, 1) := by decide +kernel
theorem dX12_doesFit_43 : decode cX12_doesFit 43 = .ok (.iload_n 1, 1) := by decide +kernel
theorem dX12_doesFit_44 : decode cX12_doesFit 44 = .ok (.aload_n 0, 1) := by decide +kernel
theorem dX12_doesFit_45 : decode cX12_doesFit 45 = .ok (.getfield 100, 3) := by decide +kernel
theorem dX12_doesFit_48 : decode cX12_doesFit 48 = .ok (.iload_n 3, 1) := by decide +kernel
theorem dX12_doesFit_49 : decode cX12_doesFit 49 = .ok (.iaload, 1) := by decide +kernel
theorem dX12_doesFit_50 : decode cX12_doesFit 50 = .ok (.invokevirtual 479, 3) := by decide +kernel
theorem dX12_doesFit_53 : decode cX12_doesFit 53 = .ok (.aload_n 0, 1) := by decide +kernel
theorem dX12_doesFit_54 : decode cX12_doesFit 54 = .ok (.getfield 103, 3) := by decide +kernel
theorem dX12_doesFit_57 : decode cX12_doesFit 57 = .ok (.iload_n 3, 1) := by decide +kernel
theorem dX12_doesFit_58 : decode cX12_doesFit 58 = .ok (.iaload, 1) := by decide +kernel
theorem dX12_doesFit_59 : decode cX12_doesFit 59 = .ok (.if_icmp .lt 7, 3) := by decide +kernel
theorem dX12_doesFit_62 : decode cX12_doesFit 62 = .ok (.iconst 1, 1) := by decide +kernel
theorem dX12_doesFit_63 : decode cX12_doesFit 63 = .ok (.goto 4, 3) := by decide +kernel
theorem dX12_doesFit_66 : decode cX12_doesFit 66 = .ok (.iconst 0, 1) := by decide +kernel
theorem dX12_doesFit_67 : decode cX12_doesFit 67 = .ok (.istore 4, 2) := by decide +kernel
theorem dX12_doesFit_69 : decode cX12_doesFit 69 = .ok (.iload 4, 2) := by decide +kernel
theorem dX12_doesFit_71 : decode cX12_doesFit 71 = .ok (.aload_n 0, 1) := by decide +kernel
theorem dX12_doesFit_72 : decode cX12_doesFit 72 = .ok (.getfield 106, 3) := by decide +kernel
theorem dX12_doesFit_75 : decode cX12_doesFit 75 = .ok (.iload_n 3, 1) := by decide +kernel
theorem dX12_doesFit_76 : decode cX12_doesFit 76 = .ok (.iaload, 1) := by decide +kernel
theorem dX12_doesFit_77 : decode cX12_doesFit 77 = .ok (.if_icmp .eq 5, 3) := by decide +kernel
theorem dX12_doesFit_80 : decode cX12_doesFit 80 = .ok (.iconst 0, 1) := by decide +kernel
theorem dX12_doesFit_81 : decode cX12_doesFit 81 = .ok (.ireturn, 1) := by decide +kernel
theorem dX12_doesFit_82 : decode cX12_doesFit 82 = .ok (.iinc 3 1, 3) := by decide +kernel
theorem dX12_doesFit_85 : decode cX12_doesFit 85 = .ok (.goto (-83), 3) := by decide +kernel
theorem dX12_doesFit_88 : decode cX12_doesFit 88 = .ok (.iconst 1, 1) := by decide +kernel
theorem dX12_doesFit_89 : decode cX12_doesFit 89 = .ok (.ireturn, 1) := by decide +kernel
theorem dX12_fits_0 : decode cX12_fits 0 = .ok (.aload_n 0, 1) := by decide +kernel
theorem dX12_fits_1 : decode cX12_fits 1 = .ok (.iconst 0, 1) := by decide +kernel
theorem dX12_fits_2 : decode cX12_fits 2 = .ok (.putfield 482, 3) := by decide +kernel
theorem dX12_fits_5 : decode cX12_fits 5 = .ok (.iconst 0, 1) := by decide +kernel
theorem dX12_fits_6 : decode cX12_fits 6 = .ok (.istore_n 2, 1) := by decide +kernel
theorem dX12_fits_7 : decode cX12_fits 7 = .ok (.iload_n 2, 1) := by decide +kernel
theorem dX12_fits_8 : decode cX12_fits 8 = .ok (.bipush 64, 2) := by decide +kernel
theorem dX12_fits_10 : decode cX12_fits 10 = .ok (.if_icmp .ge 56, 3) := by decide +kernel
theorem dX12_fits_13 : decode cX12_fits 13 = .ok (.aload_n 0, 1) := by decide +kernel
theorem dX12_fits_14 : decode cX12_fits 14 = .ok (.getfield 24, 3) := by decide +kernel
theorem dX12_fits_17 : decode cX12_fits 17 = .ok (.aload_n 0, 1) := by decide +kernel
theorem dX12_fits_18 : decode cX12_fits 18 = .ok (.getfield 244, 3) := by decide +kernel
theorem dX12_fits_21 : decode cX12_fits 21 = .ok (.iaload, 1) := by decide +kernel
theorem dX12_fits_22 : decode cX12_fits 22 = .ok (.ifCond .le 44, 3) := by decide +kernel
theorem dX12_fits_25 : decode cX12_fits 25 = .ok (.aload_n 0, 1) := by decide +kernel
theorem dX12_fits_26 : decode cX12_fits 26 = .ok (.getfield 118, 3) := by decide +kernel
theorem dX12_fits_29 : decode cX12_fits 29 = .ok (.iload_n 2, 1) := by decide +kernel
theorem dX12_fits_30 : decode cX12_fits 30 = .ok (.aload_n 0, 1) := by decide +kernel
theorem dX12_fits_31 : decode cX12_fits 31 = .ok (.iload_n 2, 1) := by decide +kernel
theorem dX12_fits_32 : decode cX12_fits 32 = .ok (.iload_n 1, 1) := by decide +kernel
theorem dX12_fits_33 : decode cX12_fits 33 = .ok (.invokevirtual 485, 3) := by decide +kernel
theorem dX12_fits_36 : decode cX12_fits 36 = .ok (.bastore, 1) := by decide +kernel
theorem dX12_fits_37 : decode cX12_fits 37 = .ok (.aload_n 0, 1) := by decide +kernel
theorem dX12_fits_38 : decode cX12_fits 38 = .ok (.dup, 1) := by decide +kernel
theorem dX12_fits_39 : decode cX12_fits 39 = .ok (.getfield 482, 3) := by decide +kernel
theorem dX12_fits_42 : decode cX12_fits 42 = .ok (.aload_n 0, 1) := by decide +kernel
theorem dX12_fits_43 : decode cX12_fits 43 = .ok (.getfield 118, 3) := by decide +kernel
theorem dX12_fits_46 : decode cX12_fits 46 = .ok (.iload_n 2, 1) := by decide +kernel
theorem dX12_fits_47 : decode cX12_fits 47 = .ok (.baload, 1) := by decide +kernel
theorem dX12_fits_48 : decode cX12_fits 48 = .ok (.ifCond .eq 7, 3) := by decide +kernel
theorem dX12_fits_51 : decode cX12_fits 51 = .ok (.iconst 1, 1) := by decide +kernel
theorem dX12_fits_52 : decode cX12_fits 52 = .ok (.goto 4, 3) := by decide +kernel
theorem dX12_fits_55 : decode cX12_fits 55 = .ok (.iconst 0, 1) := by decide +kernel
theorem dX12_fits_56 : decode cX12_fits 56 = .ok (.iadd, 1) := by decide +kernel
theorem dX12_fits_57 : decode cX12_fits 57 = .ok (.putfield 482, 3) := by decide +kernel
theorem dX12_fits_60 : decode cX12_fits 60 = .ok (.iinc 2 1, 3) := by decide +kernel
theorem dX12_fits_63 : decode cX12_fits 63 = .ok (.goto (-56), 3) := by decide +kernel
theorem dX12_fits_66 : decode cX12_fits 66 = .ok (.aload_n 0, 1) := by decide +kernel
theorem dX12_fits_67 : decode cX12_fits 67 = .ok (.getfield 482, 3) := by decide +kernel
theorem dX12_fits_70 : decode cX12_fits 70 = .ok (.ireturn, 1) := by decide +kernel
theorem dX12_sure_0 : decode cX12_sure 0 = .ok (.aload_n 0, 1) := by decide +kernel
theorem dX12_sure_1 : decode cX12_sure 1 = .ok (.iload_n 2, 1) := by decide +kernel
theorem dX12_sure_2 : decode cX12_sure 2 = .ok (.invokevirtual 488, 3) := by decide +kernel
theorem dX12_sure_5 : decode cX12_sure 5 = .ok (.istore_n 3, 1) := by decide +kernel
theorem dX12_sure_6 : decode cX12_sure 6 = .ok (.iload_n 1, 1) := by decide +kernel
theorem dX12_sure_7 : decode cX12_sure 7 = .ok (.iconst 0, 1) := by decide +kernel
theorem dX12_sure_8 : decode cX12_sure 8 = .ok (.iconst 5, 1) := by decide +kernel
theorem dX12_sure_9 : decode cX12_sure 9 = .ok (.invokestatic 346, 3) := by decide +kernel
theorem dX12_sure_12 : decode cX12_sure 12 = .ok (.ifCond .eq 7, 3) := by decide +kernel
theorem dX12_sure_15 : decode cX12_sure 15 = .ok (.iload_n 3, 1) := by decide +kernel
theorem dX12_sure_16 : decode cX12_sure 16 = .ok (.ifCond .ne 5, 3) := by decide +kernel
theorem dX12_sure_19 : decode cX12_sure 19 = .ok (.iconst (-1), 1) := by decide +kernel
theorem dX12_sure_20 : decode cX12_sure 20 = .ok (.ireturn, 1) := by decide +kernel
theorem dX12_sure_21 : decode cX12_sure 21 = .ok (.iconst 0, 1) := by decide +kernel
theorem dX12_sure_22 : decode cX12_sure 22 = .ok (.istore 4, 2) := by decide +kernel
theorem dX12_sure_24 : decode cX12_sure 24 = .ok (.iconst 0, 1) := by decide +kernel
theorem dX12_sure_25 : decode cX12_sure 25 = .ok (.istore 5, 2) := by decide +kernel
theorem dX12_sure_27 : decode cX12_sure 27 = .ok (.iload 5, 2) := by decide +kernel
theorem dX12_sure_29 : decode cX12_sure 29 = .ok (.bipush 64, 2) := by decide +kernel
theorem dX12_sure_31 : decode cX12_sure 31 = .ok (.if_icmp .ge 34, 3) := by decide +kernel
theorem dX12_sure_34 : decode cX12_sure 34 = .ok (.iload 4, 2) := by decide +kernel
theorem dX12_sure_36 : decode cX12_sure 36 = .ok (.aload_n 0, 1) := by decide +kernel
theorem dX12_sure_37 : decode cX12_sure 37 = .ok (.getfield 118, 3) := by decide +kernel
theorem dX12_sure_40 : decode cX12_sure 40 = .ok (.iload 5, 2) := by decide +kernel
theorem dX12_sure_42 : decode cX12_sure 42 = .ok (.baload, 1) := by decide +kernel
theorem dX12_sure_43 : decode cX12_sure 43 = .ok (.ifCond .eq 12, 3) := by decide +kernel
theorem dX12_sure_46 : decode cX12_sure 46 = .ok (.iload 5, 2) := by decide +kernel
theorem dX12_sure_48 : decode cX12_sure 48 = .ok (.iload_n 1, 1) := by decide +kernel
theorem dX12_sure_49 : decode cX12_sure 49 = .ok (.ishr, 1) := by decide +kernel
theorem dX12_sure_50 : decode cX12_sure 50 = .ok (.iconst 1, 1) := by decide +kernel
theorem dX12_sure_51 : decode cX12_sure 51 = .ok (.iand, 1) := by decide +kernel
theorem dX12_sure_52 : decode cX12_sure 52 = .ok (.goto 4, 3) := by decide +kernel
theorem dX12_sure_55 : decode cX12_sure 55 = .ok (.iconst 0, 1) := by decide +kernel
theorem dX12_sure_56 : decode cX12_sure 56 = .ok (.iadd, 1) := by decide +kernel
theorem dX12_sure_57 : decode cX12_sure 57 = .ok (.istore 4, 2) := by decide +kernel
theorem dX12_sure_59 : decode cX12_sure 59 = .ok (.iinc 5 1, 3) := by decide +kernel
theorem dX12_sure_62 : decode cX12_sure 62 = .ok (.goto (-35), 3) := by decide +kernel
theorem dX12_sure_65 : decode cX12_sure 65 = .ok (.iload 4, 2) := by decide +kernel
theorem dX12_sure_67 : decode cX12_sure 67 = .ok (.iload_n 3, 1) := by decide +kernel
theorem dX12_sure_68 : decode cX12_sure 68 = .ok (.if_icmp .ne 7, 3) := by decide +kernel
theorem dX12_sure_71 : decode cX12_sure 71 = .ok (.iconst 1, 1) := by decide +kernel
theorem dX12_sure_72 : decode cX12_sure 72 = .ok (.goto 14, 3) := by decide +kernel
theorem dX12_sure_75 : decode cX12_sure 75 = .ok (.iload 4, 2) := by decide +kernel
theorem dX12_sure_77 : decode cX12_sure 77 = .ok (.ifCond .ne 7, 3) := by decide +kernel
theorem dX12_sure_80 : decode cX12_sure 80 = .ok (.iconst 0, 1) := by decide +kernel
theorem dX12_sure_81 : decode cX12_sure 81 = .ok (.goto 5, 3) := by decide +kernel
theorem dX12_sure_84 : decode cX12_sure 84 = .ok (.bipush (-2), 2) := by decide +kernel
theorem dX12_sure_86 : decode cX12_sure 86 = .ok (.ireturn, 1) := by decide +kernel
theorem dX12_mostBy_0 : decode cX12_mostBy 0 = .ok (.iconst 0, 1) := by decide +kernel
theorem dX12_mostBy_1 : decode cX12_mostBy 1 = .ok (.istore_n 2, 1) := by decide +kernel
theorem dX12_mostBy_2 : decode cX12_mostBy 2 = .ok (.iload_n 2, 1) := by decide +kernel
theorem dX12_mostBy_3 : decode cX12_mostBy 3 = .ok (.bipush 6, 2) := by decide +kernel
theorem dX12_mostBy_5 : decode cX12_mostBy 5 = .ok (.if_icmp .gt 16, 3) := by decide +kernel
theorem dX12_mostBy_8 : decode cX12_mostBy 8 = .ok (.aload_n 0, 1) := by decide +kernel
theorem dX12_mostBy_9 : decode cX12_mostBy 9 = .ok (.getfield 115, 3) := by decide +kernel
theorem dX12_mostBy_12 : decode cX12_mostBy 12 = .ok (.iload_n 2, 1) := by decide +kernel
theorem dX12_mostBy_13 : decode cX12_mostBy 13 = .ok (.iconst 0, 1) := by decide +kernel
theorem dX12_mostBy_14 : decode cX12_mostBy 14 = .ok (.iastore, 1) := by decide +kernel
theorem dX12_mostBy_15 : decode cX12_mostBy 15 = .ok (.iinc 2 1, 3) := by decide +kernel
theorem dX12_mostBy_18 : decode cX12_mostBy 18 = .ok (.goto (-16), 3) := by decide +kernel
theorem dX12_mostBy_21 : decode cX12_mostBy 21 = .ok (.iconst 0, 1) := by decide +kernel
theorem dX12_mostBy_22 : decode cX12_mostBy 22 = .ok (.istore_n 2, 1) := by decide +kernel
theorem dX12_mostBy_23 : decode cX12_mostBy 23 = .ok (.iconst 0, 1) := by decide +kernel
theorem dX12_mostBy_24 : decode cX12_mostBy 24 = .ok (.istore_n 3, 1) := by decide +kernel
theorem dX12_mostBy_25 : decode cX12_mostBy 25 = .ok (.iload_n 3, 1) := by decide +kernel
theorem dX12_mostBy_26 : decode cX12_mostBy 26 = .ok (.bipush 64, 2) := by decide +kernel
theorem dX12_mostBy_28 : decode cX12_mostBy 28 = .ok (.if_icmp .ge 59, 3) := by decide +kernel
theorem dX12_mostBy_31 : decode cX12_mostBy 31 = .ok (.aload_n 0, 1) := by decide +kernel
theorem dX12_mostBy_32 : decode cX12_mostBy 32 = .ok (.getfield 118, 3) := by decide +kernel
theorem dX12_mostBy_35 : decode cX12_mostBy 35 = .ok (.iload_n 3, 1) := by decide +kernel
theorem dX12_mostBy_36 : decode cX12_mostBy 36 = .ok (.baload, 1) := by decide +kernel
theorem dX12_mostBy_37 : decode cX12_mostBy 37 = .ok (.ifCond .ne 6, 3) := by decide +kernel
theorem dX12_mostBy_40 : decode cX12_mostBy 40 = .ok (.goto 41, 3) := by decide +kernel
theorem dX12_mostBy_43 : decode cX12_mostBy 43 = .ok (.aload_n 0, 1) := by decide +kernel
theorem dX12_mostBy_44 : decode cX12_mostBy 44 = .ok (.iload_n 3, 1) := by decide +kernel
theorem dX12_mostBy_45 : decode cX12_mostBy 45 = .ok (.iload_n 1, 1) := by decide +kernel
theorem dX12_mostBy_46 : decode cX12_mostBy 46 = .ok (.invokevirtual 479, 3) := by decide +kernel
theorem dX12_mostBy_49 : decode cX12_mostBy 49 = .ok (.istore 4, 2) := by decide +kernel
theorem dX12_mostBy_51 : decode cX12_mostBy 51 = .ok (.aload_n 0, 1) := by decide +kernel
theorem dX12_mostBy_52 : decode cX12_mostBy 52 = .ok (.getfield 115, 3) := by decide +kernel
theorem dX12_mostBy_55 : decode cX12_mostBy 55 = .ok (.iload 4, 2) := by decide +kernel
theorem dX12_mostBy_57 : decode cX12_mostBy 57 = .ok (.dup2, 1) := by decide +kernel
theorem dX12_mostBy_58 : decode cX12_mostBy 58 = .ok (.iaload, 1) := by decide +kernel
theorem dX12_mostBy_59 : decode cX12_mostBy 59 = .ok (.iconst 1, 1) := by decide +kernel
theorem dX12_mostBy_60 : decode cX12_mostBy 60 = .ok (.iadd, 1) := by decide +kernel
theorem dX12_mostBy_61 : decode cX12_mostBy 61 = .ok (.iastore, 1) := by decide +kernel
theorem dX12_mostBy_62 : decode cX12_mostBy 62 = .ok (.aload_n 0, 1) := by decide +kernel
theorem dX12_mostBy_63 : decode cX12_mostBy 63 = .ok (.getfield 115, 3) := by decide +kernel
theorem dX12_mostBy_66 : decode cX12_mostBy 66 = .ok (.iload 4, 2) := by decide +kernel
theorem dX12_mostBy_68 : decode cX12_mostBy 68 = .ok (.iaload, 1) := by decide +kernel
theorem dX12_mostBy_69 : decode cX12_mostBy 69 = .ok (.iload_n 2, 1) := by decide +kernel
theorem dX12_mostBy_70 : decode cX12_mostBy 70 = .ok (.if_icmp .le 11, 3) := by decide +kernel
theorem dX12_mostBy_73 : decode cX12_mostBy 73 = .ok (.aload_n 0, 1) := by decide +kernel
theorem dX12_mostBy_74 : decode cX12_mostBy 74 = .ok (.getfield 115, 3) := by decide +kernel
theorem dX12_mostBy_77 : decode cX12_mostBy 77 = .ok (.iload 4, 2) := by decide +kernel
theorem dX12_mostBy_79 : decode cX12_mostBy 79 = .ok (.iaload, 1) := by decide +kernel
theorem dX12_mostBy_80 : decode cX12_mostBy 80 = .ok (.istore_n 2, 1) := by decide +kernel
theorem dX12_mostBy_81 : decode cX12_mostBy 81 = .ok (.iinc 3 1, 3) := by decide +kernel
theorem dX12_mostBy_84 : decode cX12_mostBy 84 = .ok (.goto (-59), 3) := by decide +kernel
theorem dX12_mostBy_87 : decode cX12_mostBy 87 = .ok (.iload_n 2, 1) := by decide +kernel
theorem dX12_mostBy_88 : decode cX12_mostBy 88 = .ok (.ireturn, 1) := by decide +kernel
theorem dX12_ask_0 : decode cX12_ask 0 = .ok (.aload_n 0, 1) := by decide +kernel
theorem dX12_ask_1 : decode cX12_ask 1 = .ok (.iload_n 2, 1) := by decide +kernel
theorem dX12_ask_2 : decode cX12_ask 2 = .ok (.invokevirtual 488, 3) := by decide +kernel
theorem dX12_ask_5 : decode cX12_ask 5 = .ok (.istore_n 3, 1) := by decide +kernel
theorem dX12_ask_6 : decode cX12_ask 6 = .ok (.iload_n 1, 1) := by decide +kernel
theorem dX12_ask_7 : decode cX12_ask 7 = .ok (.iconst 0, 1) := by decide +kernel
theorem dX12_ask_8 : decode cX12_ask 8 = .ok (.iconst 1, 1) := by decide +kernel
theorem dX12_ask_9 : decode cX12_ask 9 = .ok (.invokestatic 346, 3) := by decide +kernel
theorem dX12_ask_12 : decode cX12_ask 12 = .ok (.ifCond .eq 20, 3) := by decide +kernel
theorem dX12_ask_15 : decode cX12_ask 15 = .ok (.iload_n 3, 1) := by decide +kernel
theorem dX12_ask_16 : decode cX12_ask 16 = .ok (.ifCond .eq 16, 3) := by decide +kernel
theorem dX12_ask_19 : decode cX12_ask 19 = .ok (.aload_n 0, 1) := by decide +kernel
theorem dX12_ask_20 : decode cX12_ask 20 = .ok (.getfield 24, 3) := by decide +kernel
theorem dX12_ask_23 : decode cX12_ask 23 = .ok (.aload_n 0, 1) := by decide +kernel
theorem dX12_ask_24 : decode cX12_ask 24 = .ok (.getfield 244, 3) := by decide +kernel
theorem dX12_ask_27 : decode cX12_ask 27 = .ok (.iaload, 1) := by decide +kernel
theorem dX12_ask_28 : decode cX12_ask 28 = .ok (.iconst 2, 1) := by decide +kernel
theorem dX12_ask_29 : decode cX12_ask 29 = .ok (.if_icmp .ge 5, 3) := by decide +kernel
theorem dX12_ask_32 : decode cX12_ask 32 = .ok (.iconst (-1), 1) := by decide +kernel
theorem dX12_ask_33 : decode cX12_ask 33 = .ok (.ireturn, 1) := by decide +kernel
theorem dX12_ask_34 : decode cX12_ask 34 = .ok (.iconst 0, 1) := by decide +kernel
theorem dX12_ask_35 : decode cX12_ask 35 = .ok (.istore 4, 2) := by decide +kernel
theorem dX12_ask_37 : decode cX12_ask 37 = .ok (.iconst 1, 1) := by decide +kernel
theorem dX12_ask_38 : decode cX12_ask 38 = .ok (.istore 5, 2) := by decide +kernel
theorem dX12_ask_40 : decode cX12_ask 40 = .ok (.iload 5, 2) := by decide +kernel
theorem dX12_ask_42 : decode cX12_ask 42 = .ok (.aload_n 0, 1) := by decide +kernel
theorem dX12_ask_43 : decode cX12_ask 43 = .ok (.getfield 24, 3) := by decide +kernel
theorem dX12_ask_46 : decode cX12_ask 46 = .ok (.aload_n 0, 1) := by decide +kernel
theorem dX12_ask_47 : decode cX12_ask 47 = .ok (.getfield 244, 3) := by decide +kernel
theorem dX12_ask_50 : decode cX12_ask 50 = .ok (.iaload, 1) := by decide +kernel
theorem dX12_ask_51 : decode cX12_ask 51 = .ok (.iconst 1, 1) := by decide +kernel
theorem dX12_ask_52 : decode cX12_ask 52 = .ok (.isub, 1) := by decide +kernel
theorem dX12_ask_53 : decode cX12_ask 53 = .ok (.if_icmp .ge 28, 3) := by decide +kernel
theorem dX12_ask_56 : decode cX12_ask 56 = .ok (.aload_n 0, 1) := by decide +kernel
theorem dX12_ask_57 : decode cX12_ask 57 = .ok (.iload 5, 2) := by decide +kernel
theorem dX12_ask_59 : decode cX12_ask 59 = .ok (.invokevirtual 491, 3) := by decide +kernel
theorem dX12_ask_62 : decode cX12_ask 62 = .ok (.aload_n 0, 1) := by decide +kernel
theorem dX12_ask_63 : decode cX12_ask 63 = .ok (.iload 4, 2) := by decide +kernel
theorem dX12_ask_65 : decode cX12_ask 65 = .ok (.invokevirtual 491, 3) := by decide +kernel
theorem dX12_ask_68 : decode cX12_ask 68 = .ok (.if_icmp .ge 7, 3) := by decide +kernel
theorem dX12_ask_71 : decode cX12_ask 71 = .ok (.iload 5, 2) := by decide +kernel
theorem dX12_ask_73 : decode cX12_ask 73 = .ok (.istore 4, 2) := by decide +kernel
theorem dX12_ask_75 : decode cX12_ask 75 = .ok (.iinc 5 1, 3) := by decide +kernel
theorem dX12_ask_78 : decode cX12_ask 78 = .ok (.goto (-38), 3) := by decide +kernel
theorem dX12_ask_81 : decode cX12_ask 81 = .ok (.iload_n 1, 1) := by decide +kernel
theorem dX12_ask_82 : decode cX12_ask 82 = .ok (.ifCond .ne 8, 3) := by decide +kernel
theorem dX12_ask_85 : decode cX12_ask 85 = .ok (.iload 4, 2) := by decide +kernel
theorem dX12_ask_87 : decode cX12_ask 87 = .ok (.goto 9, 3) := by decide +kernel
theorem dX12_ask_90 : decode cX12_ask 90 = .ok (.aload_n 0, 1) := by decide +kernel
theorem dX12_ask_91 : decode cX12_ask 91 = .ok (.iload 4, 2) := by decide +kernel
theorem dX12_ask_93 : decode cX12_ask 93 = .ok (.invokevirtual 491, 3) := by decide +kernel
theorem dX12_ask_96 : decode cX12_ask 96 = .ok (.ireturn, 1) := by decide +kernel
theorem dX12_image_0 : decode cX12_image 0 = .ok (.iload_n 1, 1) := by decide +kernel
theorem dX12_image_1 : decode cX12_image 1 = .ok (.iconst 0, 1) := by decide +kernel
theorem dX12_image_2 : decode cX12_image 2 = .ok (.iconst 2, 1) := by decide +kernel
theorem dX12_image_3 : decode cX12_image 3 = .ok (.invokestatic 346, 3) := by decide +kernel
theorem dX12_image_6 : decode cX12_image 6 = .ok (.ifCond .ne 5, 3) := by decide +kernel
theorem dX12_image_9 : decode cX12_image 9 = .ok (.iconst (-1), 1) := by decide +kernel
theorem dX12_image_10 : decode cX12_image 10 = .ok (.ireturn, 1) := by decide +kernel
theorem dX12_image_11 : decode cX12_image 11 = .ok (.iconst 0, 1) := by decide +kernel
theorem dX12_image_12 : decode cX12_image 12 = .ok (.istore_n 2, 1) := by decide +kernel
theorem dX12_image_13 : decode cX12_image 13 = .ok (.iload_n 2, 1) := by decide +kernel
theorem dX12_image_14 : decode cX12_image 14 = .ok (.bipush 59, 2) := by decide +kernel
theorem dX12_image_16 : decode cX12_image 16 = .ok (.if_icmp .ge 26, 3) := by decide +kernel
theorem dX12_image_19 : decode cX12_image 19 = .ok (.aload_n 0, 1) := by decide +kernel
theorem dX12_image_20 : decode cX12_image 20 = .ok (.getfield 122, 3) := by decide +kernel
theorem dX12_image_23 : decode cX12_image 23 = .ok (.bipush 59, 2) := by decide +kernel
theorem dX12_image_25 : decode cX12_image 25 = .ok (.iload_n 1, 1) := by decide +kernel
theorem dX12_image_26 : decode cX12_image 26 = .ok (.imul, 1) := by decide +kernel
theorem dX12_image_27 : decode cX12_image 27 = .ok (.iload_n 2, 1) := by decide +kernel
theorem dX12_image_28 : decode cX12_image 28 = .ok (.iadd, 1) := by decide +kernel
theorem dX12_image_29 : decode cX12_image 29 = .ok (.aload_n 0, 1) := by decide +kernel
theorem dX12_image_30 : decode cX12_image 30 = .ok (.getfield 85, 3) := by decide +kernel
theorem dX12_image_33 : decode cX12_image 33 = .ok (.iload_n 2, 1) := by decide +kernel
theorem dX12_image_34 : decode cX12_image 34 = .ok (.iaload, 1) := by decide +kernel
theorem dX12_image_35 : decode cX12_image 35 = .ok (.iastore, 1) := by decide +kernel
theorem dX12_image_36 : decode cX12_image 36 = .ok (.iinc 2 1, 3) := by decide +kernel
theorem dX12_image_39 : decode cX12_image 39 = .ok (.goto (-26), 3) := by decide +kernel
theorem dX12_image_42 : decode cX12_image 42 = .ok (.aload_n 0, 1) := by decide +kernel
theorem dX12_image_43 : decode cX12_image 43 = .ok (.getfield 125, 3) := by decide +kernel
theorem dX12_image_46 : decode cX12_image 46 = .ok (.iload_n 1, 1) := by decide +kernel
theorem dX12_image_47 : decode cX12_image 47 = .ok (.iconst 1, 1) := by decide +kernel
theorem dX12_image_48 : decode cX12_image 48 = .ok (.bastore, 1) := by decide +kernel
theorem dX12_image_49 : decode cX12_image 49 = .ok (.aload_n 0, 1) := by decide +kernel
theorem dX12_image_50 : decode cX12_image 50 = .ok (.getfield 85, 3) := by decide +kernel
theorem dX12_image_53 : decode cX12_image 53 = .ok (.bipush 57, 2) := by decide +kernel
theorem dX12_image_55 : decode cX12_image 55 = .ok (.iaload, 1) := by decide +kernel
theorem dX12_image_56 : decode cX12_image 56 = .ok (.ireturn, 1) := by decide +kernel
theorem dX12_back_0 : decode cX12_back 0 = .ok (.iload_n 1, 1) := by decide +kernel
theorem dX12_back_1 : decode cX12_back 1 = .ok (.iconst 0, 1) := by decide +kernel
theorem dX12_back_2 : decode cX12_back 2 = .ok (.iconst 2, 1) := by decide +kernel
theorem dX12_back_3 : decode cX12_back 3 = .ok (.invokestatic 346, 3) := by decide +kernel
theorem dX12_back_6 : decode cX12_back 6 = .ok (.ifCond .eq 12, 3) := by decide +kernel
theorem dX12_back_9 : decode cX12_back 9 = .ok (.aload_n 0, 1) := by decide +kernel
theorem dX12_back_10 : decode cX12_back 10 = .ok (.getfield 125, 3) := by decide +kernel
theorem dX12_back_13 : decode cX12_back 13 = .ok (.iload_n 1, 1) := by decide +kernel
theorem dX12_back_14 : decode cX12_back 14 = .ok (.baload, 1) := by decide +kernel
theorem dX12_back_15 : decode cX12_back 15 = .ok (.ifCond .ne 5, 3) := by decide +kernel
theorem dX12_back_18 : decode cX12_back 18 = .ok (.iconst (-1), 1) := by decide +kernel
theorem dX12_back_19 : decode cX12_back 19 = .ok (.ireturn, 1) := by decide +kernel
theorem dX12_back_20 : decode cX12_back 20 = .ok (.iconst 0, 1) := by decide +kernel
theorem dX12_back_21 : decode cX12_back 21 = .ok (.istore_n 2, 1) := by decide +kernel
theorem dX12_back_22 : decode cX12_back 22 = .ok (.iload_n 2, 1) := by decide +kernel
theorem dX12_back_23 : decode cX12_back 23 = .ok (.bipush 59, 2) := by decide +kernel
theorem dX12_back_25 : decode cX12_back 25 = .ok (.if_icmp .ge 26, 3) := by decide +kernel
theorem dX12_back_28 : decode cX12_back 28 = .ok (.aload_n 0, 1) := by decide +kernel
theorem dX12_back_29 : decode cX12_back 29 = .ok (.getfield 85, 3) := by decide +kernel
theorem dX12_back_32 : decode cX12_back 32 = .ok (.iload_n 2, 1) := by decide +kernel
theorem dX12_back_33 : decode cX12_back 33 = .ok (.aload_n 0, 1) := by decide +kernel
theorem dX12_back_34 : decode cX12_back 34 = .ok (.getfield 122, 3) := by decide +kernel
theorem dX12_back_37 : decode cX12_back 37 = .ok (.bipush 59, 2) := by decide +kernel
theorem dX12_back_39 : decode cX12_back 39 = .ok (.iload_n 1, 1) := by decide +kernel
theorem dX12_back_40 : decode cX12_back 40 = .ok (.imul, 1) := by decide +kernel
theorem dX12_back_41 : decode cX12_back 41 = .ok (.iload_n 2, 1) := by decide +kernel
theorem dX12_back_42 : decode cX12_back 42 = .ok (.iadd, 1) := by decide +kernel
theorem dX12_back_43 : decode cX12_back 43 = .ok (.iaload, 1) := by decide +kernel
theorem dX12_back_44 : decode cX12_back 44 = .ok (.iastore, 1) := by decide +kernel
theorem dX12_back_45 : decode cX12_back 45 = .ok (.iinc 2 1, 3) := by decide +kernel
theorem dX12_back_48 : decode cX12_back 48 = .ok (.goto (-26), 3) := by decide +kernel
theorem dX12_back_51 : decode cX12_back 51 = .ok (.aload_n 0, 1) := by decide +kernel
theorem dX12_back_52 : decode cX12_back 52 = .ok (.iconst 0, 1) := by decide +kernel
theorem dX12_back_53 : decode cX12_back 53 = .ok (.putfield 363, 3) := by decide +kernel
theorem dX12_back_56 : decode cX12_back 56 = .ok (.aload_n 0, 1) := by decide +kernel
theorem dX12_back_57 : decode cX12_back 57 = .ok (.iconst 0, 1) := by decide +kernel
theorem dX12_back_58 : decode cX12_back 58 = .ok (.putfield 366, 3) := by decide +kernel
theorem dX12_back_61 : decode cX12_back 61 = .ok (.aload_n 0, 1) := by decide +kernel
theorem dX12_back_62 : decode cX12_back 62 = .ok (.getfield 85, 3) := by decide +kernel
theorem dX12_back_65 : decode cX12_back 65 = .ok (.bipush 57, 2) := by decide +kernel
theorem dX12_back_67 : decode cX12_back 67 = .ok (.iaload, 1) := by decide +kernel
theorem dX12_back_68 : decode cX12_back 68 = .ok (.ireturn, 1) := by decide +kernel
theorem dX12_about_0 : decode cX12_about 0 = .ok (.iload_n 1, 1) := by decide +kernel
theorem dX12_about_1 : decode cX12_about 1 = .ok (.tableswitch 177 0 14 #[75, 83, 88, 93, 101, 109, 117, 122, 127, 132, 137, 142, 152, 157, 167], 75) := by decide +kernel
theorem dX12_about_76 : decode cX12_about 76 = .ok (.aload_n 0, 1) := by decide +kernel
theorem dX12_about_77 : decode cX12_about 77 = .ok (.invokevirtual 331, 3) := by decide +kernel
theorem dX12_about_80 : decode cX12_about 80 = .ok (.invokestatic 334, 3) := by decide +kernel
theorem dX12_about_83 : decode cX12_about 83 = .ok (.ireturn, 1) := by decide +kernel
theorem dX12_about_84 : decode cX12_about 84 = .ok (.aload_n 0, 1) := by decide +kernel
theorem dX12_about_85 : decode cX12_about 85 = .ok (.invokevirtual 343, 3) := by decide +kernel
theorem dX12_about_88 : decode cX12_about 88 = .ok (.ireturn, 1) := by decide +kernel
theorem dX12_about_89 : decode cX12_about 89 = .ok (.aload_n 0, 1) := by decide +kernel
theorem dX12_about_90 : decode cX12_about 90 = .ok (.invokevirtual 331, 3) := by decide +kernel
theorem dX12_about_93 : decode cX12_about 93 = .ok (.ireturn, 1) := by decide +kernel
theorem dX12_about_94 : decode cX12_about 94 = .ok (.aload_n 0, 1) := by decide +kernel
theorem dX12_about_95 : decode cX12_about 95 = .ok (.getfield 85, 3) := by decide +kernel
theorem dX12_about_98 : decode cX12_about 98 = .ok (.bipush 56, 2) := by decide +kernel
theorem dX12_about_100 : decode cX12_about 100 = .ok (.iaload, 1) := by decide +kernel
theorem dX12_about_101 : decode cX12_about 101 = .ok (.ireturn, 1) := by decide +kernel
theorem dX12_about_102 : decode cX12_about 102 = .ok (.aload_n 0, 1) := by decide +kernel
theorem dX12_about_103 : decode cX12_about 103 = .ok (.getfield 85, 3) := by decide +kernel
theorem dX12_about_106 : decode cX12_about 106 = .ok (.bipush 57, 2) := by decide +kernel
theorem dX12_about_108 : decode cX12_about 108 = .ok (.iaload, 1) := by decide +kernel
theorem dX12_about_109 : decode cX12_about 109 = .ok (.ireturn, 1) := by decide +kernel
theorem dX12_about_110 : decode cX12_about 110 = .ok (.aload_n 0, 1) := by decide +kernel
theorem dX12_about_111 : decode cX12_about 111 = .ok (.getfield 85, 3) := by decide +kernel
theorem dX12_about_114 : decode cX12_about 114 = .ok (.bipush 58, 2) := by decide +kernel
theorem dX12_about_116 : decode cX12_about 116 = .ok (.iaload, 1) := by decide +kernel
theorem dX12_about_117 : decode cX12_about 117 = .ok (.ireturn, 1) := by decide +kernel
theorem dX12_about_118 : decode cX12_about 118 = .ok (.aload_n 0, 1) := by decide +kernel
theorem dX12_about_119 : decode cX12_about 119 = .ok (.getfield 363, 3) := by decide +kernel
theorem dX12_about_122 : decode cX12_about 122 = .ok (.ireturn, 1) := by decide +kernel
theorem dX12_about_123 : decode cX12_about 123 = .ok (.aload_n 0, 1) := by decide +kernel
theorem dX12_about_124 : decode cX12_about 124 = .ok (.getfield 366, 3) := by decide +kernel
theorem dX12_about_127 : decode cX12_about 127 = .ok (.ireturn, 1) := by decide +kernel
theorem dX12_about_128 : decode cX12_about 128 = .ok (.aload_n 0, 1) := by decide +kernel
theorem dX12_about_129 : decode cX12_about 129 = .ok (.getfield 369, 3) := by decide +kernel
theorem dX12_about_132 : decode cX12_about 132 = .ok (.ireturn, 1) := by decide +kernel
theorem dX12_about_133 : decode cX12_about 133 = .ok (.aload_n 0, 1) := by decide +kernel
theorem dX12_about_134 : decode cX12_about 134 = .ok (.getfield 475, 3) := by decide +kernel
theorem dX12_about_137 : decode cX12_about 137 = .ok (.ireturn, 1) := by decide +kernel
theorem dX12_about_138 : decode cX12_about 138 = .ok (.aload_n 0, 1) := by decide +kernel
theorem dX12_about_139 : decode cX12_about 139 = .ok (.getfield 241, 3) := by decide +kernel
theorem dX12_about_142 : decode cX12_about 142 = .ok (.ireturn, 1) := by decide +kernel
theorem dX12_about_143 : decode cX12_about 143 = .ok (.aload_n 0, 1) := by decide +kernel
theorem dX12_about_144 : decode cX12_about 144 = .ok (.getfield 27, 3) := by decide +kernel
theorem dX12_about_147 : decode cX12_about 147 = .ok (.aload_n 0, 1) := by decide +kernel
theorem dX12_about_148 : decode cX12_about 148 = .ok (.getfield 244, 3) := by decide +kernel
theorem dX12_about_151 : decode cX12_about 151 = .ok (.iaload, 1) := by decide +kernel
theorem dX12_about_152 : decode cX12_about 152 = .ok (.ireturn, 1) := by decide +kernel
theorem dX12_about_153 : decode cX12_about 153 = .ok (.aload_n 0, 1) := by decide +kernel
theorem dX12_about_154 : decode cX12_about 154 = .ok (.getfield 372, 3) := by decide +kernel
theorem dX12_about_157 : decode cX12_about 157 = .ok (.ireturn, 1) := by decide +kernel
theorem dX12_about_158 : decode cX12_about 158 = .ok (.aload_n 0, 1) := by decide +kernel
theorem dX12_about_159 : decode cX12_about 159 = .ok (.getfield 30, 3) := by decide +kernel
theorem dX12_about_162 : decode cX12_about 162 = .ok (.aload_n 0, 1) := by decide +kernel
theorem dX12_about_163 : decode cX12_about 163 = .ok (.getfield 244, 3) := by decide +kernel
theorem dX12_about_166 : decode cX12_about 166 = .ok (.iaload, 1) := by decide +kernel
theorem dX12_about_167 : decode cX12_about 167 = .ok (.ireturn, 1) := by decide +kernel
theorem dX12_about_168 : decode cX12_about 168 = .ok (.aload_n 0, 1) := by decide +kernel
theorem dX12_about_169 : decode cX12_about 169 = .ok (.getfield 24, 3) := by decide +kernel
theorem dX12_about_172 : decode cX12_about 172 = .ok (.aload_n 0, 1) := by decide +kernel
theorem dX12_about_173 : decode cX12_about 173 = .ok (.getfield 244, 3) := by decide +kernel
theorem dX12_about_176 : decode cX12_about 176 = .ok (.iaload, 1) := by decide +kernel
theorem dX12_about_177 : decode cX12_about 177 = .ok (.ireturn, 1) := by decide +kernel
theorem dX12_about_178 : decode cX12_about 178 = .ok (.iconst (-1), 1) := by decide +kernel
theorem dX12_about_179 : decode cX12_about 179 = .ok (.ireturn, 1) := by decide +kernel
theorem dX12_feed_0 : decode cX12_feed 0 = .ok (.aload_n 0, 1) := by decide +kernel
theorem dX12_feed_1 : decode cX12_feed 1 = .ok (.getfield 241, 3) := by decide +kernel
theorem dX12_feed_4 : decode cX12_feed 4 = .ok (.bipush 20, 2) := by decide +kernel
theorem dX12_feed_6 : decode cX12_feed 6 = .ok (.iadd, 1) := by decide +kernel
theorem dX12_feed_7 : decode cX12_feed 7 = .ok (.sipush 1600, 3) := by decide +kernel
theorem dX12_feed_10 : decode cX12_feed 10 = .ok (.if_icmp .le 5, 3) := by decide +kernel
theorem dX12_feed_13 : decode cX12_feed 13 = .ok (.iconst (-1), 1) := by decide +kernel
theorem dX12_feed_14 : decode cX12_feed 14 = .ok (.ireturn, 1) := by decide +kernel
theorem dX12_feed_15 : decode cX12_feed 15 = .ok (.iconst 0, 1) := by decide +kernel
theorem dX12_feed_16 : decode cX12_feed 16 = .ok (.istore 6, 2) := by decide +kernel
theorem dX12_feed_18 : decode cX12_feed 18 = .ok (.iload 6, 2) := by decide +kernel
theorem dX12_feed_20 : decode cX12_feed 20 = .ok (.bipush 20, 2) := by decide +kernel
theorem dX12_feed_22 : decode cX12_feed 22 = .ok (.if_icmp .ge 83, 3) := by decide +kernel
theorem dX12_feed_25 : decode cX12_feed 25 = .ok (.iload 6, 2) := by decide +kernel
theorem dX12_feed_27 : decode cX12_feed 27 = .ok (.iconst 4, 1) := by decide +kernel
theorem dX12_feed_28 : decode cX12_feed 28 = .ok (.if_icmp .ge 7, 3) := by decide +kernel
theorem dX12_feed_31 : decode cX12_feed 31 = .ok (.iload_n 1, 1) := by decide +kernel
theorem dX12_feed_32 : decode cX12_feed 32 = .ok (.goto 39, 3) := by decide +kernel
theorem dX12_feed_35 : decode cX12_feed 35 = .ok (.iload 6, 2) := by decide +kernel
theorem dX12_feed_37 : decode cX12_feed 37 = .ok (.bipush 8, 2) := by decide +kernel
theorem dX12_feed_39 : decode cX12_feed 39 = .ok (.if_icmp .ge 7, 3) := by decide +kernel
theorem dX12_feed_42 : decode cX12_feed 42 = .ok (.iload_n 2, 1) := by decide +kernel
theorem dX12_feed_43 : decode cX12_feed 43 = .ok (.goto 28, 3) := by decide +kernel
theorem dX12_feed_46 : decode cX12_feed 46 = .ok (.iload 6, 2) := by decide +kernel
theorem dX12_feed_48 : decode cX12_feed 48 = .ok (.bipush 12, 2) := by decide +kernel
theorem dX12_feed_50 : decode cX12_feed 50 = .ok (.if_icmp .ge 7, 3) := by decide +kernel
theorem dX12_feed_53 : decode cX12_feed 53 = .ok (.iload_n 3, 1) := by decide +kernel
theorem dX12_feed_54 : decode cX12_feed 54 = .ok (.goto 17, 3) := by decide +kernel
theorem dX12_feed_57 : decode cX12_feed 57 = .ok (.iload 6, 2) := by decide +kernel
theorem dX12_feed_59 : decode cX12_feed 59 = .ok (.bipush 16, 2) := by decide +kernel
theorem dX12_feed_61 : decode cX12_feed 61 = .ok (.if_icmp .ge 8, 3) := by decide +kernel
theorem dX12_feed_64 : decode cX12_feed 64 = .ok (.iload 4, 2) := by decide +kernel
theorem dX12_feed_66 : decode cX12_feed 66 = .ok (.goto 5, 3) := by decide +kernel
theorem dX12_feed_69 : decode cX12_feed 69 = .ok (.iload 5, 2) := by decide +kernel
theorem dX12_feed_71 : decode cX12_feed 71 = .ok (.istore 7, 2) := by decide +kernel
theorem dX12_feed_73 : decode cX12_feed 73 = .ok (.aload_n 0, 1) := by decide +kernel
theorem dX12_feed_74 : decode cX12_feed 74 = .ok (.getfield 7, 3) := by decide +kernel
theorem dX12_feed_77 : decode cX12_feed 77 = .ok (.aload_n 0, 1) := by decide +kernel
theorem dX12_feed_78 : decode cX12_feed 78 = .ok (.getfield 241, 3) := by decide +kernel
theorem dX12_feed_81 : decode cX12_feed 81 = .ok (.iload 6, 2) := by decide +kernel
theorem dX12_feed_83 : decode cX12_feed 83 = .ok (.iadd, 1) := by decide +kernel
theorem dX12_feed_84 : decode cX12_feed 84 = .ok (.iload 7, 2) := by decide +kernel
theorem dX12_feed_86 : decode cX12_feed 86 = .ok (.bipush 24, 2) := by decide +kernel
theorem dX12_feed_88 : decode cX12_feed 88 = .ok (.bipush 8, 2) := by decide +kernel
theorem dX12_feed_90 : decode cX12_feed 90 = .ok (.iload 6, 2) := by decide +kernel
theorem dX12_feed_92 : decode cX12_feed 92 = .ok (.iconst 3, 1) := by decide +kernel
theorem dX12_feed_93 : decode cX12_feed 93 = .ok (.iand, 1) := by decide +kernel
theorem dX12_feed_94 : decode cX12_feed 94 = .ok (.imul, 1) := by decide +kernel
theorem dX12_feed_95 : decode cX12_feed 95 = .ok (.isub, 1) := by decide +kernel
theorem dX12_feed_96 : decode cX12_feed 96 = .ok (.ishr, 1) := by decide +kernel
theorem dX12_feed_97 : decode cX12_feed 97 = .ok (.i2b, 1) := by decide +kernel
theorem dX12_feed_98 : decode cX12_feed 98 = .ok (.bastore, 1) := by decide +kernel
theorem dX12_feed_99 : decode cX12_feed 99 = .ok (.iinc 6 1, 3) := by decide +kernel
theorem dX12_feed_102 : decode cX12_feed 102 = .ok (.goto (-84), 3) := by decide +kernel
theorem dX12_feed_105 : decode cX12_feed 105 = .ok (.aload_n 0, 1) := by decide +kernel
theorem dX12_feed_106 : decode cX12_feed 106 = .ok (.dup, 1) := by decide +kernel
theorem dX12_feed_107 : decode cX12_feed 107 = .ok (.getfield 241, 3) := by decide +kernel
theorem dX12_feed_110 : decode cX12_feed 110 = .ok (.bipush 20, 2) := by decide +kernel
theorem dX12_feed_112 : decode cX12_feed 112 = .ok (.iadd, 1) := by decide +kernel
theorem dX12_feed_113 : decode cX12_feed 113 = .ok (.putfield 241, 3) := by decide +kernel
theorem dX12_feed_116 : decode cX12_feed 116 = .ok (.aload_n 0, 1) := by decide +kernel
theorem dX12_feed_117 : decode cX12_feed 117 = .ok (.getfield 241, 3) := by decide +kernel
theorem dX12_feed_120 : decode cX12_feed 120 = .ok (.ireturn, 1) := by decide +kernel
theorem dX12_end_0 : decode cX12_end 0 = .ok (.iload_n 1, 1) := by decide +kernel
theorem dX12_end_1 : decode cX12_end 1 = .ok (.ifCond .lt 11, 3) := by decide +kernel
theorem dX12_end_4 : decode cX12_end 4 = .ok (.iload_n 1, 1) := by decide +kernel
theorem dX12_end_5 : decode cX12_end 5 = .ok (.aload_n 0, 1) := by decide +kernel
theorem dX12_end_6 : decode cX12_end 6 = .ok (.getfield 241, 3) := by decide +kernel
theorem dX12_end_9 : decode cX12_end 9 = .ok (.if_icmp .le 5, 3) := by decide +kernel
theorem dX12_end_12 : decode cX12_end 12 = .ok (.iconst (-1), 1) := by decide +kernel
theorem dX12_end_13 : decode cX12_end 13 = .ok (.ireturn, 1) := by decide +kernel
theorem dX12_end_14 : decode cX12_end 14 = .ok (.aload_n 0, 1) := by decide +kernel
theorem dX12_end_15 : decode cX12_end 15 = .ok (.iload_n 1, 1) := by decide +kernel
theorem dX12_end_16 : decode cX12_end 16 = .ok (.putfield 241, 3) := by decide +kernel
theorem dX12_end_19 : decode cX12_end 19 = .ok (.iload_n 1, 1) := by decide +kernel
theorem dX12_end_20 : decode cX12_end 20 = .ok (.ireturn, 1) := by decide +kernel
