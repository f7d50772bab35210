/-- the law's own body: of its handlers nothing is told -/
def Lw_main : tpM := (x, code, maxLocals, ret, [(0, 0, 0, 0)])
/-! TLaw.law -/
theorem dLw_law_0 : decode (mB Lw_main) 0 = .ok (.new 23, 3) := by decide +kernel
theorem dLw_law_3 : decode (mB Lw_main) 3 = .ok (.dup, 1) := by decide +kernel
theorem dLw_law_4 : decode (mB Lw_main) 4 = .ok (.invokespecial 150, 3) := by decide +kernel
theorem dLw_law_7 : decode (mB Lw_main) 7 = .ok (.astore_n 1, 1) := by decide +kernel
theorem dLw_law_8 : decode (mB Lw_main) 8 = .ok (.bipush 40, 2) := by decide +kernel
theorem dLw_law_10 : decode (mB Lw_main) 10 = .ok (.newarray .int, 2) := by decide +kernel
theorem dLw_law_12 : decode (mB Lw_main) 12 = .ok (.astore_n 2, 1) := by decide +kernel
theorem dLw_law_13 : decode (mB Lw_main) 13 = .ok (.iconst 2, 1) := by decide +kernel
theorem dLw_law_14 : decode (mB Lw_main) 14 = .ok (.newarray .int, 2) := by decide +kernel
theorem dLw_law_16 : decode (mB Lw_main) 16 = .ok (.astore_n 3, 1) := by decide +kernel
theorem dLw_law_17 : decode (mB Lw_main) 17 = .ok (.bipush 6, 2) := by decide +kernel
theorem dLw_law_19 : decode (mB Lw_main) 19 = .ok (.newarray .int, 2) := by decide +kernel
theorem dLw_law_21 : decode (mB Lw_main) 21 = .ok (.astore 4, 2) := by decide +kernel
theorem dLw_law_23 : decode (mB Lw_main) 23 = .ok (.bipush 41, 2) := by decide +kernel
theorem dLw_law_25 : decode (mB Lw_main) 25 = .ok (.newarray .int, 2) := by decide +kernel
theorem dLw_law_27 : decode (mB Lw_main) 27 = .ok (.astore 5, 2) := by decide +kernel
theorem dLw_law_29 : decode (mB Lw_main) 29 = .ok (.bipush 41, 2) := by decide +kernel
theorem dLw_law_31 : decode (mB Lw_main) 31 = .ok (.newarray .int, 2) := by decide +kernel
theorem dLw_law_33 : decode (mB Lw_main) 33 = .ok (.astore 6, 2) := by decide +kernel
theorem dLw_law_35 : decode (mB Lw_main) 35 = .ok (.bipush 41, 2) := by decide +kernel
theorem dLw_law_37 : decode (mB Lw_main) 37 = .ok (.newarray .int, 2) := by decide +kernel
theorem dLw_law_39 : decode (mB Lw_main) 39 = .ok (.astore 7, 2) := by decide +kernel
theorem dLw_law_41 : decode (mB Lw_main) 41 = .ok (.bipush 41, 2) := by decide +kernel
theorem dLw_law_43 : decode (mB Lw_main) 43 = .ok (.newarray .int, 2) := by decide +kernel
theorem dLw_law_45 : decode (mB Lw_main) 45 = .ok (.astore 8, 2) := by decide +kernel
theorem dLw_law_47 : decode (mB Lw_main) 47 = .ok (.aload_n 0, 1) := by decide +kernel
theorem dLw_law_48 : decode (mB Lw_main) 48 = .ok (.arraylength, 1) := by decide +kernel
theorem dLw_law_49 : decode (mB Lw_main) 49 = .ok (.ifCond .le 12, 3) := by decide +kernel
theorem dLw_law_52 : decode (mB Lw_main) 52 = .ok (.aload_n 0, 1) := by decide +kernel
theorem dLw_law_53 : decode (mB Lw_main) 53 = .ok (.iconst 0, 1) := by decide +kernel
theorem dLw_law_54 : decode (mB Lw_main) 54 = .ok (.iaload, 1) := by decide +kernel
theorem dLw_law_55 : decode (mB Lw_main) 55 = .ok (.ldc 151, 2) := by decide +kernel
theorem dLw_law_57 : decode (mB Lw_main) 57 = .ok (.iand, 1) := by decide +kernel
theorem dLw_law_58 : decode (mB Lw_main) 58 = .ok (.goto 4, 3) := by decide +kernel
theorem dLw_law_61 : decode (mB Lw_main) 61 = .ok (.iconst 0, 1) := by decide +kernel
theorem dLw_law_62 : decode (mB Lw_main) 62 = .ok (.istore 9, 2) := by decide +kernel
theorem dLw_law_64 : decode (mB Lw_main) 64 = .ok (.aload_n 2, 1) := by decide +kernel
theorem dLw_law_65 : decode (mB Lw_main) 65 = .ok (.iconst 0, 1) := by decide +kernel
theorem dLw_law_66 : decode (mB Lw_main) 66 = .ok (.iload 9, 2) := by decide +kernel
theorem dLw_law_68 : decode (mB Lw_main) 68 = .ok (.iconst 4, 1) := by decide +kernel
theorem dLw_law_69 : decode (mB Lw_main) 69 = .ok (.irem, 1) := by decide +kernel
theorem dLw_law_70 : decode (mB Lw_main) 70 = .ok (.iastore, 1) := by decide +kernel
theorem dLw_law_71 : decode (mB Lw_main) 71 = .ok (.aload_n 1, 1) := by decide +kernel
theorem dLw_law_72 : decode (mB Lw_main) 72 = .ok (.iconst 0, 1) := by decide +kernel
theorem dLw_law_73 : decode (mB Lw_main) 73 = .ok (.aload_n 2, 1) := by decide +kernel
theorem dLw_law_74 : decode (mB Lw_main) 74 = .ok (.iconst 0, 1) := by decide +kernel
theorem dLw_law_75 : decode (mB Lw_main) 75 = .ok (.iaload, 1) := by decide +kernel
theorem dLw_law_76 : decode (mB Lw_main) 76 = .ok (.iconst 3, 1) := by decide +kernel
theorem dLw_law_77 : decode (mB Lw_main) 77 = .ok (.iconst (-1), 1) := by decide +kernel
theorem dLw_law_78 : decode (mB Lw_main) 78 = .ok (.invokestatic 135, 3) := by decide +kernel
theorem dLw_law_81 : decode (mB Lw_main) 81 = .ok (.ifCond .ne 7, 3) := by decide +kernel
theorem dLw_law_84 : decode (mB Lw_main) 84 = .ok (.iconst 1, 1) := by decide +kernel
theorem dLw_law_85 : decode (mB Lw_main) 85 = .ok (.goto 4, 3) := by decide +kernel
theorem dLw_law_88 : decode (mB Lw_main) 88 = .ok (.iconst 0, 1) := by decide +kernel
theorem dLw_law_89 : decode (mB Lw_main) 89 = .ok (.istore 10, 2) := by decide +kernel
theorem dLw_law_91 : decode (mB Lw_main) 91 = .ok (.aload_n 3, 1) := by decide +kernel
theorem dLw_law_92 : decode (mB Lw_main) 92 = .ok (.iconst 0, 1) := by decide +kernel
theorem dLw_law_93 : decode (mB Lw_main) 93 = .ok (.iconst 1, 1) := by decide +kernel
theorem dLw_law_94 : decode (mB Lw_main) 94 = .ok (.iastore, 1) := by decide +kernel
theorem dLw_law_95 : decode (mB Lw_main) 95 = .ok (.aload 5, 2) := by decide +kernel
theorem dLw_law_97 : decode (mB Lw_main) 97 = .ok (.iconst 0, 1) := by decide +kernel
theorem dLw_law_98 : decode (mB Lw_main) 98 = .ok (.sipush 192, 3) := by decide +kernel
theorem dLw_law_101 : decode (mB Lw_main) 101 = .ok (.invokestatic 101, 3) := by decide +kernel
theorem dLw_law_104 : decode (mB Lw_main) 104 = .ok (.iconst 1, 1) := by decide +kernel
theorem dLw_law_105 : decode (mB Lw_main) 105 = .ok (.istore 11, 2) := by decide +kernel
theorem dLw_law_107 : decode (mB Lw_main) 107 = .ok (.iload 11, 2) := by decide +kernel
theorem dLw_law_109 : decode (mB Lw_main) 109 = .ok (.bipush 110, 2) := by decide +kernel
theorem dLw_law_111 : decode (mB Lw_main) 111 = .ok (.if_icmp .ge 440, 3) := by decide +kernel
theorem dLw_law_114 : decode (mB Lw_main) 114 = .ok (.iload 10, 2) := by decide +kernel
theorem dLw_law_116 : decode (mB Lw_main) 116 = .ok (.ifCond .eq 435, 3) := by decide +kernel
theorem dLw_law_119 : decode (mB Lw_main) 119 = .ok (.aload_n 3, 1) := by decide +kernel
theorem dLw_law_120 : decode (mB Lw_main) 120 = .ok (.iconst 1, 1) := by decide +kernel
theorem dLw_law_121 : decode (mB Lw_main) 121 = .ok (.iaload, 1) := by decide +kernel
theorem dLw_law_122 : decode (mB Lw_main) 122 = .ok (.bipush 38, 2) := by decide +kernel
theorem dLw_law_124 : decode (mB Lw_main) 124 = .ok (.if_icmp .ge 427, 3) := by decide +kernel
theorem dLw_law_127 : decode (mB Lw_main) 127 = .ok (.iload 11, 2) := by decide +kernel
theorem dLw_law_129 : decode (mB Lw_main) 129 = .ok (.aload_n 0, 1) := by decide +kernel
theorem dLw_law_130 : decode (mB Lw_main) 130 = .ok (.arraylength, 1) := by decide +kernel
theorem dLw_law_131 : decode (mB Lw_main) 131 = .ok (.if_icmp .ge 13, 3) := by decide +kernel
theorem dLw_law_134 : decode (mB Lw_main) 134 = .ok (.aload_n 0, 1) := by decide +kernel
theorem dLw_law_135 : decode (mB Lw_main) 135 = .ok (.iload 11, 2) := by decide +kernel
theorem dLw_law_137 : decode (mB Lw_main) 137 = .ok (.iaload, 1) := by decide +kernel
theorem dLw_law_138 : decode (mB Lw_main) 138 = .ok (.ldc 151, 2) := by decide +kernel
theorem dLw_law_140 : decode (mB Lw_main) 140 = .ok (.iand, 1) := by decide +kernel
theorem dLw_law_141 : decode (mB Lw_main) 141 = .ok (.goto 24, 3) := by decide +kernel
theorem dLw_law_144 : decode (mB Lw_main) 144 = .ok (.ldc 152, 2) := by decide +kernel
theorem dLw_law_146 : decode (mB Lw_main) 146 = .ok (.iload 11, 2) := by decide +kernel
theorem dLw_law_148 : decode (mB Lw_main) 148 = .ok (.imul, 1) := by decide +kernel
theorem dLw_law_149 : decode (mB Lw_main) 149 = .ok (.iload 11, 2) := by decide +kernel
theorem dLw_law_151 : decode (mB Lw_main) 151 = .ok (.imul, 1) := by decide +kernel
theorem dLw_law_152 : decode (mB Lw_main) 152 = .ok (.sipush 8009, 3) := by decide +kernel
theorem dLw_law_155 : decode (mB Lw_main) 155 = .ok (.iload 11, 2) := by decide +kernel
theorem dLw_law_157 : decode (mB Lw_main) 157 = .ok (.imul, 1) := by decide +kernel
theorem dLw_law_158 : decode (mB Lw_main) 158 = .ok (.iadd, 1) := by decide +kernel
theorem dLw_law_159 : decode (mB Lw_main) 159 = .ok (.bipush 37, 2) := by decide +kernel
theorem dLw_law_161 : decode (mB Lw_main) 161 = .ok (.iadd, 1) := by decide +kernel
theorem dLw_law_162 : decode (mB Lw_main) 162 = .ok (.ldc 151, 2) := by decide +kernel
theorem dLw_law_164 : decode (mB Lw_main) 164 = .ok (.iand, 1) := by decide +kernel
theorem dLw_law_165 : decode (mB Lw_main) 165 = .ok (.istore 12, 2) := by decide +kernel
theorem dLw_law_167 : decode (mB Lw_main) 167 = .ok (.iload 11, 2) := by decide +kernel
theorem dLw_law_169 : decode (mB Lw_main) 169 = .ok (.bipush 9, 2) := by decide +kernel
theorem dLw_law_171 : decode (mB Lw_main) 171 = .ok (.if_icmp .ge 7, 3) := by decide +kernel
theorem dLw_law_174 : decode (mB Lw_main) 174 = .ok (.iconst 0, 1) := by decide +kernel
theorem dLw_law_175 : decode (mB Lw_main) 175 = .ok (.goto 20, 3) := by decide +kernel
theorem dLw_law_178 : decode (mB Lw_main) 178 = .ok (.iload 11, 2) := by decide +kernel
theorem dLw_law_180 : decode (mB Lw_main) 180 = .ok (.bipush 9, 2) := by decide +kernel
theorem dLw_law_182 : decode (mB Lw_main) 182 = .ok (.if_icmp .ne 8, 3) := by decide +kernel
theorem dLw_law_185 : decode (mB Lw_main) 185 = .ok (.bipush 12, 2) := by decide +kernel
theorem dLw_law_187 : decode (mB Lw_main) 187 = .ok (.goto 8, 3) := by decide +kernel
theorem dLw_law_190 : decode (mB Lw_main) 190 = .ok (.iload 12, 2) := by decide +kernel
theorem dLw_law_192 : decode (mB Lw_main) 192 = .ok (.bipush 22, 2) := by decide +kernel
theorem dLw_law_194 : decode (mB Lw_main) 194 = .ok (.irem, 1) := by decide +kernel
theorem dLw_law_195 : decode (mB Lw_main) 195 = .ok (.istore 13, 2) := by decide +kernel
theorem dLw_law_197 : decode (mB Lw_main) 197 = .ok (.iload 11, 2) := by decide +kernel
theorem dLw_law_199 : decode (mB Lw_main) 199 = .ok (.bipush 9, 2) := by decide +kernel
theorem dLw_law_201 : decode (mB Lw_main) 201 = .ok (.if_icmp .ge 27, 3) := by decide +kernel
theorem dLw_law_204 : decode (mB Lw_main) 204 = .ok (.iload 12, 2) := by decide +kernel
theorem dLw_law_206 : decode (mB Lw_main) 206 = .ok (.sipush 576, 3) := by decide +kernel
theorem dLw_law_209 : decode (mB Lw_main) 209 = .ok (.irem, 1) := by decide +kernel
theorem dLw_law_210 : decode (mB Lw_main) 210 = .ok (.sipush 4608, 3) := by decide +kernel
theorem dLw_law_213 : decode (mB Lw_main) 213 = .ok (.iload 12, 2) := by decide +kernel
theorem dLw_law_215 : decode (mB Lw_main) 215 = .ok (.sipush 576, 3) := by decide +kernel
theorem dLw_law_218 : decode (mB Lw_main) 218 = .ok (.idiv, 1) := by decide +kernel
theorem dLw_law_219 : decode (mB Lw_main) 219 = .ok (.sipush 400, 3) := by decide +kernel
theorem dLw_law_222 : decode (mB Lw_main) 222 = .ok (.irem, 1) := by decide +kernel
theorem dLw_law_223 : decode (mB Lw_main) 223 = .ok (.imul, 1) := by decide +kernel
theorem dLw_law_224 : decode (mB Lw_main) 224 = .ok (.iadd, 1) := by decide +kernel
theorem dLw_law_225 : decode (mB Lw_main) 225 = .ok (.goto 8, 3) := by decide +kernel
theorem dLw_law_228 : decode (mB Lw_main) 228 = .ok (.iload 12, 2) := by decide +kernel
theorem dLw_law_230 : decode (mB Lw_main) 230 = .ok (.bipush 22, 2) := by decide +kernel
theorem dLw_law_232 : decode (mB Lw_main) 232 = .ok (.idiv, 1) := by decide +kernel
theorem dLw_law_233 : decode (mB Lw_main) 233 = .ok (.istore 14, 2) := by decide +kernel
theorem dLw_law_235 : decode (mB Lw_main) 235 = .ok (.iload 13, 2) := by decide +kernel
theorem dLw_law_237 : decode (mB Lw_main) 237 = .ok (.bipush 12, 2) := by decide +kernel
theorem dLw_law_239 : decode (mB Lw_main) 239 = .ok (.if_icmp .ge 18, 3) := by decide +kernel
theorem dLw_law_242 : decode (mB Lw_main) 242 = .ok (.aload_n 1, 1) := by decide +kernel
theorem dLw_law_243 : decode (mB Lw_main) 243 = .ok (.aload 5, 2) := by decide +kernel
theorem dLw_law_245 : decode (mB Lw_main) 245 = .ok (.aload_n 2, 1) := by decide +kernel
theorem dLw_law_246 : decode (mB Lw_main) 246 = .ok (.aload_n 3, 1) := by decide +kernel
theorem dLw_law_247 : decode (mB Lw_main) 247 = .ok (.iload 14, 2) := by decide +kernel
theorem dLw_law_249 : decode (mB Lw_main) 249 = .ok (.invokestatic 153, 3) := by decide +kernel
theorem dLw_law_252 : decode (mB Lw_main) 252 = .ok (.istore 10, 2) := by decide +kernel
theorem dLw_law_254 : decode (mB Lw_main) 254 = .ok (.goto 291, 3) := by decide +kernel
theorem dLw_law_257 : decode (mB Lw_main) 257 = .ok (.iload 13, 2) := by decide +kernel
theorem dLw_law_259 : decode (mB Lw_main) 259 = .ok (.bipush 16, 2) := by decide +kernel
theorem dLw_law_261 : decode (mB Lw_main) 261 = .ok (.if_icmp .ge 48, 3) := by decide +kernel
theorem dLw_law_264 : decode (mB Lw_main) 264 = .ok (.aload_n 1, 1) := by decide +kernel
theorem dLw_law_265 : decode (mB Lw_main) 265 = .ok (.bipush 6, 2) := by decide +kernel
theorem dLw_law_267 : decode (mB Lw_main) 267 = .ok (.iconst 0, 1) := by decide +kernel
theorem dLw_law_268 : decode (mB Lw_main) 268 = .ok (.iconst 0, 1) := by decide +kernel
theorem dLw_law_269 : decode (mB Lw_main) 269 = .ok (.iconst 0, 1) := by decide +kernel
theorem dLw_law_270 : decode (mB Lw_main) 270 = .ok (.invokestatic 135, 3) := by decide +kernel
theorem dLw_law_273 : decode (mB Lw_main) 273 = .ok (.aload_n 3, 1) := by decide +kernel
theorem dLw_law_274 : decode (mB Lw_main) 274 = .ok (.iconst 1, 1) := by decide +kernel
theorem dLw_law_275 : decode (mB Lw_main) 275 = .ok (.iaload, 1) := by decide +kernel
theorem dLw_law_276 : decode (mB Lw_main) 276 = .ok (.if_icmp .ne 20, 3) := by decide +kernel
theorem dLw_law_279 : decode (mB Lw_main) 279 = .ok (.aload_n 1, 1) := by decide +kernel
theorem dLw_law_280 : decode (mB Lw_main) 280 = .ok (.aload_n 3, 1) := by decide +kernel
theorem dLw_law_281 : decode (mB Lw_main) 281 = .ok (.iconst 1, 1) := by decide +kernel
theorem dLw_law_282 : decode (mB Lw_main) 282 = .ok (.iaload, 1) := by decide +kernel
theorem dLw_law_283 : decode (mB Lw_main) 283 = .ok (.aload 5, 2) := by decide +kernel
theorem dLw_law_285 : decode (mB Lw_main) 285 = .ok (.aload_n 2, 1) := by decide +kernel
theorem dLw_law_286 : decode (mB Lw_main) 286 = .ok (.invokestatic 157, 3) := by decide +kernel
theorem dLw_law_289 : decode (mB Lw_main) 289 = .ok (.ifCond .eq 7, 3) := by decide +kernel
theorem dLw_law_292 : decode (mB Lw_main) 292 = .ok (.iconst 1, 1) := by decide +kernel
theorem dLw_law_293 : decode (mB Lw_main) 293 = .ok (.goto 4, 3) := by decide +kernel
theorem dLw_law_296 : decode (mB Lw_main) 296 = .ok (.iconst 0, 1) := by decide +kernel
theorem dLw_law_297 : decode (mB Lw_main) 297 = .ok (.istore 10, 2) := by decide +kernel
theorem dLw_law_299 : decode (mB Lw_main) 299 = .ok (.aload_n 3, 1) := by decide +kernel
theorem dLw_law_300 : decode (mB Lw_main) 300 = .ok (.iconst 1, 1) := by decide +kernel
theorem dLw_law_301 : decode (mB Lw_main) 301 = .ok (.dup2, 1) := by decide +kernel
theorem dLw_law_302 : decode (mB Lw_main) 302 = .ok (.iaload, 1) := by decide +kernel
theorem dLw_law_303 : decode (mB Lw_main) 303 = .ok (.iconst 1, 1) := by decide +kernel
theorem dLw_law_304 : decode (mB Lw_main) 304 = .ok (.iadd, 1) := by decide +kernel
theorem dLw_law_305 : decode (mB Lw_main) 305 = .ok (.iastore, 1) := by decide +kernel
theorem dLw_law_306 : decode (mB Lw_main) 306 = .ok (.goto 239, 3) := by decide +kernel
theorem dLw_law_309 : decode (mB Lw_main) 309 = .ok (.iload 13, 2) := by decide +kernel
theorem dLw_law_311 : decode (mB Lw_main) 311 = .ok (.bipush 16, 2) := by decide +kernel
theorem dLw_law_313 : decode (mB Lw_main) 313 = .ok (.if_icmp .ne 51, 3) := by decide +kernel
theorem dLw_law_316 : decode (mB Lw_main) 316 = .ok (.aload_n 3, 1) := by decide +kernel
theorem dLw_law_317 : decode (mB Lw_main) 317 = .ok (.iconst 1, 1) := by decide +kernel
theorem dLw_law_318 : decode (mB Lw_main) 318 = .ok (.iaload, 1) := by decide +kernel
theorem dLw_law_319 : decode (mB Lw_main) 319 = .ok (.ifCond .le 45, 3) := by decide +kernel
theorem dLw_law_322 : decode (mB Lw_main) 322 = .ok (.iload 14, 2) := by decide +kernel
theorem dLw_law_324 : decode (mB Lw_main) 324 = .ok (.aload_n 3, 1) := by decide +kernel
theorem dLw_law_325 : decode (mB Lw_main) 325 = .ok (.iconst 1, 1) := by decide +kernel
theorem dLw_law_326 : decode (mB Lw_main) 326 = .ok (.iaload, 1) := by decide +kernel
theorem dLw_law_327 : decode (mB Lw_main) 327 = .ok (.irem, 1) := by decide +kernel
theorem dLw_law_328 : decode (mB Lw_main) 328 = .ok (.istore 15, 2) := by decide +kernel
theorem dLw_law_330 : decode (mB Lw_main) 330 = .ok (.aload_n 1, 1) := by decide +kernel
theorem dLw_law_331 : decode (mB Lw_main) 331 = .ok (.iload 15, 2) := by decide +kernel
theorem dLw_law_333 : decode (mB Lw_main) 333 = .ok (.aload 5, 2) := by decide +kernel
theorem dLw_law_335 : decode (mB Lw_main) 335 = .ok (.invokestatic 82, 3) := by decide +kernel
theorem dLw_law_338 : decode (mB Lw_main) 338 = .ok (.aload_n 1, 1) := by decide +kernel
theorem dLw_law_339 : decode (mB Lw_main) 339 = .ok (.iconst 1, 1) := by decide +kernel
theorem dLw_law_340 : decode (mB Lw_main) 340 = .ok (.iload 15, 2) := by decide +kernel
theorem dLw_law_342 : decode (mB Lw_main) 342 = .ok (.iconst 0, 1) := by decide +kernel
theorem dLw_law_343 : decode (mB Lw_main) 343 = .ok (.iconst 0, 1) := by decide +kernel
theorem dLw_law_344 : decode (mB Lw_main) 344 = .ok (.invokestatic 135, 3) := by decide +kernel
theorem dLw_law_347 : decode (mB Lw_main) 347 = .ok (.aload 5, 2) := by decide +kernel
theorem dLw_law_349 : decode (mB Lw_main) 349 = .ok (.iconst 0, 1) := by decide +kernel
theorem dLw_law_350 : decode (mB Lw_main) 350 = .ok (.iaload, 1) := by decide +kernel
theorem dLw_law_351 : decode (mB Lw_main) 351 = .ok (.if_icmp .ne 7, 3) := by decide +kernel
theorem dLw_law_354 : decode (mB Lw_main) 354 = .ok (.iconst 1, 1) := by decide +kernel
theorem dLw_law_355 : decode (mB Lw_main) 355 = .ok (.goto 4, 3) := by decide +kernel
theorem dLw_law_358 : decode (mB Lw_main) 358 = .ok (.iconst 0, 1) := by decide +kernel
theorem dLw_law_359 : decode (mB Lw_main) 359 = .ok (.istore 10, 2) := by decide +kernel
theorem dLw_law_361 : decode (mB Lw_main) 361 = .ok (.goto 184, 3) := by decide +kernel
theorem dLw_law_364 : decode (mB Lw_main) 364 = .ok (.iload 13, 2) := by decide +kernel
theorem dLw_law_366 : decode (mB Lw_main) 366 = .ok (.bipush 17, 2) := by decide +kernel
theorem dLw_law_368 : decode (mB Lw_main) 368 = .ok (.if_icmp .ne 62, 3) := by decide +kernel
theorem dLw_law_371 : decode (mB Lw_main) 371 = .ok (.iload 14, 2) := by decide +kernel
theorem dLw_law_373 : decode (mB Lw_main) 373 = .ok (.iconst 4, 1) := by decide +kernel
theorem dLw_law_374 : decode (mB Lw_main) 374 = .ok (.irem, 1) := by decide +kernel
theorem dLw_law_375 : decode (mB Lw_main) 375 = .ok (.iconst 3, 1) := by decide +kernel
theorem dLw_law_376 : decode (mB Lw_main) 376 = .ok (.if_icmp .ne 7, 3) := by decide +kernel
theorem dLw_law_379 : decode (mB Lw_main) 379 = .ok (.iconst 5, 1) := by decide +kernel
theorem dLw_law_380 : decode (mB Lw_main) 380 = .ok (.goto 7, 3) := by decide +kernel
theorem dLw_law_383 : decode (mB Lw_main) 383 = .ok (.iload 14, 2) := by decide +kernel
theorem dLw_law_385 : decode (mB Lw_main) 385 = .ok (.iconst 4, 1) := by decide +kernel
theorem dLw_law_386 : decode (mB Lw_main) 386 = .ok (.irem, 1) := by decide +kernel
theorem dLw_law_387 : decode (mB Lw_main) 387 = .ok (.istore 15, 2) := by decide +kernel
theorem dLw_law_389 : decode (mB Lw_main) 389 = .ok (.aload_n 1, 1) := by decide +kernel
theorem dLw_law_390 : decode (mB Lw_main) 390 = .ok (.iload 15, 2) := by decide +kernel
theorem dLw_law_392 : decode (mB Lw_main) 392 = .ok (.iload 14, 2) := by decide +kernel
theorem dLw_law_394 : decode (mB Lw_main) 394 = .ok (.iconst 4, 1) := by decide +kernel
theorem dLw_law_395 : decode (mB Lw_main) 395 = .ok (.idiv, 1) := by decide +kernel
theorem dLw_law_396 : decode (mB Lw_main) 396 = .ok (.iconst 3, 1) := by decide +kernel
theorem dLw_law_397 : decode (mB Lw_main) 397 = .ok (.irem, 1) := by decide +kernel
theorem dLw_law_398 : decode (mB Lw_main) 398 = .ok (.invokevirtual 161, 3) := by decide +kernel
theorem dLw_law_401 : decode (mB Lw_main) 401 = .ok (.aload 4, 2) := by decide +kernel
theorem dLw_law_403 : decode (mB Lw_main) 403 = .ok (.iload 15, 2) := by decide +kernel
theorem dLw_law_405 : decode (mB Lw_main) 405 = .ok (.iaload, 1) := by decide +kernel
theorem dLw_law_406 : decode (mB Lw_main) 406 = .ok (.if_icmp .ne 7, 3) := by decide +kernel
theorem dLw_law_409 : decode (mB Lw_main) 409 = .ok (.iconst 1, 1) := by decide +kernel
theorem dLw_law_410 : decode (mB Lw_main) 410 = .ok (.goto 4, 3) := by decide +kernel
theorem dLw_law_413 : decode (mB Lw_main) 413 = .ok (.iconst 0, 1) := by decide +kernel
theorem dLw_law_414 : decode (mB Lw_main) 414 = .ok (.istore 10, 2) := by decide +kernel
theorem dLw_law_416 : decode (mB Lw_main) 416 = .ok (.aload 4, 2) := by decide +kernel
theorem dLw_law_418 : decode (mB Lw_main) 418 = .ok (.iload 15, 2) := by decide +kernel
theorem dLw_law_420 : decode (mB Lw_main) 420 = .ok (.iload 14, 2) := by decide +kernel
theorem dLw_law_422 : decode (mB Lw_main) 422 = .ok (.iconst 4, 1) := by decide +kernel
theorem dLw_law_423 : decode (mB Lw_main) 423 = .ok (.idiv, 1) := by decide +kernel
theorem dLw_law_424 : decode (mB Lw_main) 424 = .ok (.iconst 3, 1) := by decide +kernel
theorem dLw_law_425 : decode (mB Lw_main) 425 = .ok (.irem, 1) := by decide +kernel
theorem dLw_law_426 : decode (mB Lw_main) 426 = .ok (.iastore, 1) := by decide +kernel
theorem dLw_law_427 : decode (mB Lw_main) 427 = .ok (.goto 118, 3) := by decide +kernel
theorem dLw_law_430 : decode (mB Lw_main) 430 = .ok (.aload_n 3, 1) := by decide +kernel
theorem dLw_law_431 : decode (mB Lw_main) 431 = .ok (.iconst 1, 1) := by decide +kernel
theorem dLw_law_432 : decode (mB Lw_main) 432 = .ok (.iaload, 1) := by decide +kernel
theorem dLw_law_433 : decode (mB Lw_main) 433 = .ok (.ifCond .le 112, 3) := by decide +kernel
theorem dLw_law_436 : decode (mB Lw_main) 436 = .ok (.iload 14, 2) := by decide +kernel
theorem dLw_law_438 : decode (mB Lw_main) 438 = .ok (.aload_n 3, 1) := by decide +kernel
theorem dLw_law_439 : decode (mB Lw_main) 439 = .ok (.iconst 1, 1) := by decide +kernel
theorem dLw_law_440 : decode (mB Lw_main) 440 = .ok (.iaload, 1) := by decide +kernel
theorem dLw_law_441 : decode (mB Lw_main) 441 = .ok (.irem, 1) := by decide +kernel
theorem dLw_law_442 : decode (mB Lw_main) 442 = .ok (.istore 15, 2) := by decide +kernel
theorem dLw_law_444 : decode (mB Lw_main) 444 = .ok (.iload 14, 2) := by decide +kernel
theorem dLw_law_446 : decode (mB Lw_main) 446 = .ok (.bipush 40, 2) := by decide +kernel
theorem dLw_law_448 : decode (mB Lw_main) 448 = .ok (.idiv, 1) := by decide +kernel
theorem dLw_law_449 : decode (mB Lw_main) 449 = .ok (.aload_n 3, 1) := by decide +kernel
theorem dLw_law_450 : decode (mB Lw_main) 450 = .ok (.iconst 1, 1) := by decide +kernel
theorem dLw_law_451 : decode (mB Lw_main) 451 = .ok (.iaload, 1) := by decide +kernel
theorem dLw_law_452 : decode (mB Lw_main) 452 = .ok (.irem, 1) := by decide +kernel
theorem dLw_law_453 : decode (mB Lw_main) 453 = .ok (.istore 16, 2) := by decide +kernel
theorem dLw_law_455 : decode (mB Lw_main) 455 = .ok (.iload 14, 2) := by decide +kernel
theorem dLw_law_457 : decode (mB Lw_main) 457 = .ok (.sipush 1600, 3) := by decide +kernel
theorem dLw_law_460 : decode (mB Lw_main) 460 = .ok (.idiv, 1) := by decide +kernel
theorem dLw_law_461 : decode (mB Lw_main) 461 = .ok (.aload_n 3, 1) := by decide +kernel
theorem dLw_law_462 : decode (mB Lw_main) 462 = .ok (.iconst 1, 1) := by decide +kernel
theorem dLw_law_463 : decode (mB Lw_main) 463 = .ok (.iaload, 1) := by decide +kernel
theorem dLw_law_464 : decode (mB Lw_main) 464 = .ok (.irem, 1) := by decide +kernel
theorem dLw_law_465 : decode (mB Lw_main) 465 = .ok (.istore 17, 2) := by decide +kernel
theorem dLw_law_467 : decode (mB Lw_main) 467 = .ok (.aload_n 1, 1) := by decide +kernel
theorem dLw_law_468 : decode (mB Lw_main) 468 = .ok (.iload 15, 2) := by decide +kernel
theorem dLw_law_470 : decode (mB Lw_main) 470 = .ok (.aload 6, 2) := by decide +kernel
theorem dLw_law_472 : decode (mB Lw_main) 472 = .ok (.invokestatic 82, 3) := by decide +kernel
theorem dLw_law_475 : decode (mB Lw_main) 475 = .ok (.aload_n 1, 1) := by decide +kernel
theorem dLw_law_476 : decode (mB Lw_main) 476 = .ok (.iload 16, 2) := by decide +kernel
theorem dLw_law_478 : decode (mB Lw_main) 478 = .ok (.aload 7, 2) := by decide +kernel
theorem dLw_law_480 : decode (mB Lw_main) 480 = .ok (.invokestatic 82, 3) := by decide +kernel
theorem dLw_law_483 : decode (mB Lw_main) 483 = .ok (.aload_n 1, 1) := by decide +kernel
theorem dLw_law_484 : decode (mB Lw_main) 484 = .ok (.iload 17, 2) := by decide +kernel
theorem dLw_law_486 : decode (mB Lw_main) 486 = .ok (.aload 8, 2) := by decide +kernel
theorem dLw_law_488 : decode (mB Lw_main) 488 = .ok (.invokestatic 82, 3) := by decide +kernel
theorem dLw_law_491 : decode (mB Lw_main) 491 = .ok (.aload_n 1, 1) := by decide +kernel
theorem dLw_law_492 : decode (mB Lw_main) 492 = .ok (.bipush 7, 2) := by decide +kernel
theorem dLw_law_494 : decode (mB Lw_main) 494 = .ok (.iload 15, 2) := by decide +kernel
theorem dLw_law_496 : decode (mB Lw_main) 496 = .ok (.iload 16, 2) := by decide +kernel
theorem dLw_law_498 : decode (mB Lw_main) 498 = .ok (.iload 17, 2) := by decide +kernel
theorem dLw_law_500 : decode (mB Lw_main) 500 = .ok (.invokestatic 135, 3) := by decide +kernel
theorem dLw_law_503 : decode (mB Lw_main) 503 = .ok (.aload_n 3, 1) := by decide +kernel
theorem dLw_law_504 : decode (mB Lw_main) 504 = .ok (.iconst 1, 1) := by decide +kernel
theorem dLw_law_505 : decode (mB Lw_main) 505 = .ok (.iaload, 1) := by decide +kernel
theorem dLw_law_506 : decode (mB Lw_main) 506 = .ok (.if_icmp .ne 29, 3) := by decide +kernel
theorem dLw_law_509 : decode (mB Lw_main) 509 = .ok (.aload_n 1, 1) := by decide +kernel
theorem dLw_law_510 : decode (mB Lw_main) 510 = .ok (.aload_n 3, 1) := by decide +kernel
theorem dLw_law_511 : decode (mB Lw_main) 511 = .ok (.iconst 1, 1) := by decide +kernel
theorem dLw_law_512 : decode (mB Lw_main) 512 = .ok (.iaload, 1) := by decide +kernel
theorem dLw_law_513 : decode (mB Lw_main) 513 = .ok (.aload 6, 2) := by decide +kernel
theorem dLw_law_515 : decode (mB Lw_main) 515 = .ok (.aload 7, 2) := by decide +kernel
theorem dLw_law_517 : decode (mB Lw_main) 517 = .ok (.aload 8, 2) := by decide +kernel
theorem dLw_law_519 : decode (mB Lw_main) 519 = .ok (.aload_n 2, 1) := by decide +kernel
theorem dLw_law_520 : decode (mB Lw_main) 520 = .ok (.aload 4, 2) := by decide +kernel
theorem dLw_law_522 : decode (mB Lw_main) 522 = .ok (.aload_n 3, 1) := by decide +kernel
theorem dLw_law_523 : decode (mB Lw_main) 523 = .ok (.iconst 0, 1) := by decide +kernel
theorem dLw_law_524 : decode (mB Lw_main) 524 = .ok (.iaload, 1) := by decide +kernel
theorem dLw_law_525 : decode (mB Lw_main) 525 = .ok (.invokestatic 164, 3) := by decide +kernel
theorem dLw_law_528 : decode (mB Lw_main) 528 = .ok (.ifCond .eq 7, 3) := by decide +kernel
theorem dLw_law_531 : decode (mB Lw_main) 531 = .ok (.iconst 1, 1) := by decide +kernel
theorem dLw_law_532 : decode (mB Lw_main) 532 = .ok (.goto 4, 3) := by decide +kernel
theorem dLw_law_535 : decode (mB Lw_main) 535 = .ok (.iconst 0, 1) := by decide +kernel
theorem dLw_law_536 : decode (mB Lw_main) 536 = .ok (.istore 10, 2) := by decide +kernel
theorem dLw_law_538 : decode (mB Lw_main) 538 = .ok (.aload_n 3, 1) := by decide +kernel
theorem dLw_law_539 : decode (mB Lw_main) 539 = .ok (.iconst 1, 1) := by decide +kernel
theorem dLw_law_540 : decode (mB Lw_main) 540 = .ok (.dup2, 1) := by decide +kernel
theorem dLw_law_541 : decode (mB Lw_main) 541 = .ok (.iaload, 1) := by decide +kernel
theorem dLw_law_542 : decode (mB Lw_main) 542 = .ok (.iconst 1, 1) := by decide +kernel
theorem dLw_law_543 : decode (mB Lw_main) 543 = .ok (.iadd, 1) := by decide +kernel
theorem dLw_law_544 : decode (mB Lw_main) 544 = .ok (.iastore, 1) := by decide +kernel
theorem dLw_law_545 : decode (mB Lw_main) 545 = .ok (.iinc 11 1, 3) := by decide +kernel
theorem dLw_law_548 : decode (mB Lw_main) 548 = .ok (.goto (-441), 3) := by decide +kernel
theorem dLw_law_551 : decode (mB Lw_main) 551 = .ok (.iload 10, 2) := by decide +kernel
theorem dLw_law_553 : decode (mB Lw_main) 553 = .ok (.ifCond .eq 17, 3) := by decide +kernel
theorem dLw_law_556 : decode (mB Lw_main) 556 = .ok (.aload_n 1, 1) := by decide +kernel
theorem dLw_law_557 : decode (mB Lw_main) 557 = .ok (.invokevirtual 168, 3) := by decide +kernel
theorem dLw_law_560 : decode (mB Lw_main) 560 = .ok (.aload_n 3, 1) := by decide +kernel
theorem dLw_law_561 : decode (mB Lw_main) 561 = .ok (.iconst 1, 1) := by decide +kernel
theorem dLw_law_562 : decode (mB Lw_main) 562 = .ok (.iaload, 1) := by decide +kernel
theorem dLw_law_563 : decode (mB Lw_main) 563 = .ok (.if_icmp .ne 7, 3) := by decide +kernel
theorem dLw_law_566 : decode (mB Lw_main) 566 = .ok (.iconst 1, 1) := by decide +kernel
theorem dLw_law_567 : decode (mB Lw_main) 567 = .ok (.goto 4, 3) := by decide +kernel
theorem dLw_law_570 : decode (mB Lw_main) 570 = .ok (.iconst 0, 1) := by decide +kernel
theorem dLw_law_571 : decode (mB Lw_main) 571 = .ok (.ireturn, 1) := by decide +kernel
def w_Lw_law_297 (R : Int32 → tpH → Prop) (X : String → tpH → Prop) (K107 : (Option Nat) → (Option Nat) → (Option Nat) → (Option Nat) → (Option Nat) → (Option Nat) → (Option Nat) → (Option Nat) → (Option Nat) → Int32 → Int32 → tpH → Prop) (x0 : Option Nat) (x1 : Option Nat) (x2 : Option Nat) (x3 : Option Nat) (x4 : Option Nat) (x5 : Option Nat) (x6 : Option Nat) (x7 : Option Nat) (x8 : Option Nat) (x11 : Int32) (t0 : Int32) (h : tpH) : Prop :=
  ∃ a1, x3 = some a1 ∧ hT h a1 = 15 ∧ (vp_in (1 : Int32) (hL h a1) ∧ (vp_in (1 : Int32) (hL h a1) ∧ (∀ h6, h6 = sI h a1 (1 : Int32).toNatClampNeg ((hI h a1 (1 : Int32).toNatClampNeg) + (1 : Int32)) → (K107 x0 x1 x2 x3 x4 x5 x6 x7 x8 t0 (x11 + (1 : Int32)) h6))))
def w_Lw_law_414 (R : Int32 → tpH → Prop) (X : String → tpH → Prop) (K107 : (Option Nat) → (Option Nat) → (Option Nat) → (Option Nat) → (Option Nat) → (Option Nat) → (Option Nat) → (Option Nat) → (Option Nat) → Int32 → Int32 → tpH → Prop) (x0 : Option Nat) (x1 : Option Nat) (x2 : Option Nat) (x3 : Option Nat) (x4 : Option Nat) (x5 : Option Nat) (x6 : Option Nat) (x7 : Option Nat) (x8 : Option Nat) (x11 : Int32) (x14 : Int32) (x15 : Int32) (t0 : Int32) (h : tpH) : Prop :=
  ∃ a1, x4 = some a1 ∧ hT h a1 = 15 ∧ (vp_in x15 (hL h a1) ∧ (∀ h5, h5 = sI h a1 x15.toNatClampNeg ((x14 / (4 : Int32)) - (x14 / (4 : Int32)) / (3 : Int32) * (3 : Int32)) → (K107 x0 x1 x2 x3 x4 x5 x6 x7 x8 t0 (x11 + (1 : Int32)) h5)))
def w_Lw_law_387 (R : Int32 → tpH → Prop) (X : String → tpH → Prop) (K107 : (Option Nat) → (Option Nat) → (Option Nat) → (Option Nat) → (Option Nat) → (Option Nat) → (Option Nat) → (Option Nat) → (Option Nat) → Int32 → Int32 → tpH → Prop) (x0 : Option Nat) (x1 : Option Nat) (x2 : Option Nat) (x3 : Option Nat) (x4 : Option Nat) (x5 : Option Nat) (x6 : Option Nat) (x7 : Option Nat) (x8 : Option Nat) (x11 : Int32) (x14 : Int32) (t0 : Int32) (h : tpH) : Prop :=
  ∃ a1, x1 = some a1 ∧ hT h a1 = 13 ∧ (w_TP_setPolicy a1 t0 ((x14 / (4 : Int32)) - (x14 / (4 : Int32)) / (3 : Int32) * (3 : Int32)) h X (fun v5 h4 => ∃ a6, x4 = some a6 ∧ hT h4 a6 = 15 ∧ (vp_in t0 (hL h4 a6) ∧ ((¬ v5 = (hI h4 a6 t0.toNatClampNeg) → (w_Lw_law_414 R X K107 x0 x1 x2 x3 x4 x5 x6 x7 x8 x11 x14 t0 (0 : Int32) h4)) ∧ (v5 = (hI h4 a6 t0.toNatClampNeg) → (w_Lw_law_414 R X K107 x0 x1 x2 x3 x4 x5 x6 x7 x8 x11 x14 t0 (1 : Int32) h4))))))
def w_Lw_law_536 (R : Int32 → tpH → Prop) (X : String → tpH → Prop) (K107 : (Option Nat) → (Option Nat) → (Option Nat) → (Option Nat) → (Option Nat) → (Option Nat) → (Option Nat) → (Option Nat) → (Option Nat) → Int32 → Int32 → tpH → Prop) (x0 : Option Nat) (x1 : Option Nat) (x2 : Option Nat) (x3 : Option Nat) (x4 : Option Nat) (x5 : Option Nat) (x6 : Option Nat) (x7 : Option Nat) (x8 : Option Nat) (x11 : Int32) (t0 : Int32) (h : tpH) : Prop :=
  ∃ a1, x3 = some a1 ∧ hT h a1 = 15 ∧ (vp_in (1 : Int32) (hL h a1) ∧ (vp_in (1 : Int32) (hL h a1) ∧ (∀ h6, h6 = sI h a1 (1 : Int32).toNatClampNeg ((hI h a1 (1 : Int32).toNatClampNeg) + (1 : Int32)) → (K107 x0 x1 x2 x3 x4 x5 x6 x7 x8 t0 (x11 + (1 : Int32)) h6))))
def w_Lw_law_364 (R : Int32 → tpH → Prop) (X : String → tpH → Prop) (K107 : (Option Nat) → (Option Nat) → (Option Nat) → (Option Nat) → (Option Nat) → (Option Nat) → (Option Nat) → (Option Nat) → (Option Nat) → Int32 → Int32 → tpH → Prop) (x0 : Option Nat) (x1 : Option Nat) (x2 : Option Nat) (x3 : Option Nat) (x4 : Option Nat) (x5 : Option Nat) (x6 : Option Nat) (x7 : Option Nat) (x8 : Option Nat) (x10 : Int32) (x11 : Int32) (x13 : Int32) (x14 : Int32) (h : tpH) : Prop :=
  (¬ x13 = (17 : Int32) → (∃ a2, x3 = some a2 ∧ hT h a2 = 15 ∧ (vp_in (1 : Int32) (hL h a2) ∧ (((hI h a2 (1 : Int32).toNatClampNeg) ≤ 0 → (K107 x0 x1 x2 x3 x4 x5 x6 x7 x8 x10 (x11 + (1 : Int32)) h)) ∧ (¬ (hI h a2 (1 : Int32).toNatClampNeg) ≤ 0 → (vp_in (1 : Int32) (hL h a2) ∧ (¬ (hI h a2 (1 : Int32).toNatClampNeg) = 0 ∧ (vp_in (1 : Int32) (hL h a2) ∧ (¬ (hI h a2 (1 : Int32).toNatClampNeg) = 0 ∧ (vp_in (1 : Int32) (hL h a2) ∧ (¬ (hI h a2 (1 : Int32).toNatClampNeg) = 0 ∧ (w_Lw_reads x1 (x14 - x14 / (hI h a2 (1 : Int32).toNatClampNeg) * (hI h a2 (1 : Int32).toNatClampNeg)) x6 h X (fun h13 => w_Lw_reads x1 ((x14 / (40 : Int32)) - (x14 / (40 : Int32)) / (hI h a2 (1 : Int32).toNatClampNeg) * (hI h a2 (1 : Int32).toNatClampNeg)) x7 h13 X (fun h14 => w_Lw_reads x1 ((x14 / (1600 : Int32)) - (x14 / (1600 : Int32)) / (hI h a2 (1 : Int32).toNatClampNeg) * (hI h a2 (1 : Int32).toNatClampNeg)) x8 h14 X (fun h15 => w_Lw_does x1 (7 : Int32) (x14 - x14 / (hI h a2 (1 : Int32).toNatClampNeg) * (hI h a2 (1 : Int32).toNatClampNeg)) ((x14 / (40 : Int32)) - (x14 / (40 : Int32)) / (hI h a2 (1 : Int32).toNatClampNeg) * (hI h a2 (1 : Int32).toNatClampNeg)) ((x14 / (1600 : Int32)) - (x14 / (1600 : Int32)) / (hI h a2 (1 : Int32).toNatClampNeg) * (hI h a2 (1 : Int32).toNatClampNeg)) h15 (fun v17 h16 => hT h16 a2 = 15 ∧ (vp_in (1 : Int32) (hL h16 a2) ∧ ((¬ v17 = (hI h16 a2 (1 : Int32).toNatClampNeg) → (w_Lw_law_536 R X K107 x0 x1 x2 x3 x4 x5 x6 x7 x8 x11 (0 : Int32) h16)) ∧ (v17 = (hI h16 a2 (1 : Int32).toNatClampNeg) → (vp_in (1 : Int32) (hL h16 a2) ∧ (vp_in (0 : Int32) (hL h16 a2) ∧ (w_Lw_isMerged x1 (hI h16 a2 (1 : Int32).toNatClampNeg) x6 x7 x8 x2 x4 (hI h16 a2 (0 : Int32).toNatClampNeg) h16 X (fun v24 h23 => (v24 = 0 → (w_Lw_law_536 R X K107 x0 x1 x2 x3 x4 x5 x6 x7 x8 x11 (0 : Int32) h23)) ∧ (¬ v24 = 0 → (w_Lw_law_536 R X K107 x0 x1 x2 x3 x4 x5 x6 x7 x8 x11 (1 : Int32) h23))))))))))))))))))))))))) ∧ (x13 = (17 : Int32) → ((¬ (x14 - x14 / (4 : Int32) * (4 : Int32)) = (3 : Int32) → (w_Lw_law_387 R X K107 x0 x1 x2 x3 x4 x5 x6 x7 x8 x11 x14 (x14 - x14 / (4 : Int32) * (4 : Int32)) h)) ∧ ((x14 - x14 / (4 : Int32) * (4 : Int32)) = (3 : Int32) → (w_Lw_law_387 R X K107 x0 x1 x2 x3 x4 x5 x6 x7 x8 x11 x14 (5 : Int32) h))))
def w_Lw_law_233 (R : Int32 → tpH → Prop) (X : String → tpH → Prop) (K107 : (Option Nat) → (Option Nat) → (Option Nat) → (Option Nat) → (Option Nat) → (Option Nat) → (Option Nat) → (Option Nat) → (Option Nat) → Int32 → Int32 → tpH → Prop) (x0 : Option Nat) (x1 : Option Nat) (x2 : Option Nat) (x3 : Option Nat) (x4 : Option Nat) (x5 : Option Nat) (x6 : Option Nat) (x7 : Option Nat) (x8 : Option Nat) (x10 : Int32) (x11 : Int32) (x13 : Int32) (t0 : Int32) (h : tpH) : Prop :=
  ((12 : Int32) ≤ x13 → (((16 : Int32) ≤ x13 → ((¬ x13 = (16 : Int32) → (w_Lw_law_364 R X K107 x0 x1 x2 x3 x4 x5 x6 x7 x8 x10 x11 x13 t0 h)) ∧ (x13 = (16 : Int32) → (∃ a4, x3 = some a4 ∧ hT h a4 = 15 ∧ (vp_in (1 : Int32) (hL h a4) ∧ (((hI h a4 (1 : Int32).toNatClampNeg) ≤ 0 → (w_Lw_law_364 R X K107 x0 x1 x2 x3 x4 x5 x6 x7 x8 x10 x11 x13 t0 h)) ∧ (¬ (hI h a4 (1 : Int32).toNatClampNeg) ≤ 0 → (vp_in (1 : Int32) (hL h a4) ∧ (¬ (hI h a4 (1 : Int32).toNatClampNeg) = 0 ∧ (w_Lw_reads x1 (t0 - t0 / (hI h a4 (1 : Int32).toNatClampNeg) * (hI h a4 (1 : Int32).toNatClampNeg)) x5 h X (fun h11 => w_Lw_does x1 (1 : Int32) (t0 - t0 / (hI h a4 (1 : Int32).toNatClampNeg) * (hI h a4 (1 : Int32).toNatClampNeg)) (0 : Int32) (0 : Int32) h11 (fun v13 h12 => ∃ a14, x5 = some a14 ∧ hT h12 a14 = 15 ∧ (vp_in (0 : Int32) (hL h12 a14) ∧ ((¬ v13 = (hI h12 a14 (0 : Int32).toNatClampNeg) → (K107 x0 x1 x2 x3 x4 x5 x6 x7 x8 (0 : Int32) (x11 + (1 : Int32)) h12)) ∧ (v13 = (hI h12 a14 (0 : Int32).toNatClampNeg) → (K107 x0 x1 x2 x3 x4 x5 x6 x7 x8 (1 : Int32) (x11 + (1 : Int32)) h12)))))))))))))))) ∧ (¬ (16 : Int32) ≤ x13 → (w_Lw_does x1 (6 : Int32) (0 : Int32) (0 : Int32) (0 : Int32) h (fun v20 h19 => ∃ a21, x3 = some a21 ∧ hT h19 a21 = 15 ∧ (vp_in (1 : Int32) (hL h19 a21) ∧ ((¬ v20 = (hI h19 a21 (1 : Int32).toNatClampNeg) → (w_Lw_law_297 R X K107 x0 x1 x2 x3 x4 x5 x6 x7 x8 x11 (0 : Int32) h19)) ∧ (v20 = (hI h19 a21 (1 : Int32).toNatClampNeg) → (vp_in (1 : Int32) (hL h19 a21) ∧ (w_Lw_isTree x1 (hI h19 a21 (1 : Int32).toNatClampNeg) x5 x2 h19 X (fun v28 h27 => (v28 = 0 → (w_Lw_law_297 R X K107 x0 x1 x2 x3 x4 x5 x6 x7 x8 x11 (0 : Int32) h27)) ∧ (¬ v28 = 0 → (w_Lw_law_297 R X K107 x0 x1 x2 x3 x4 x5 x6 x7 x8 x11 (1 : Int32) h27))))))))))))) ∧ (¬ (12 : Int32) ≤ x13 → (w_Lw_isChanged x1 x5 x2 x3 t0 h (fun v31 h30 => K107 x0 x1 x2 x3 x4 x5 x6 x7 x8 v31 (x11 + (1 : Int32)) h30)))
def w_Lw_law_195 (R : Int32 → tpH → Prop) (X : String → tpH → Prop) (K107 : (Option Nat) → (Option Nat) → (Option Nat) → (Option Nat) → (Option Nat) → (Option Nat) → (Option Nat) → (Option Nat) → (Option Nat) → Int32 → Int32 → tpH → Prop) (x0 : Option Nat) (x1 : Option Nat) (x2 : Option Nat) (x3 : Option Nat) (x4 : Option Nat) (x5 : Option Nat) (x6 : Option Nat) (x7 : Option Nat) (x8 : Option Nat) (x10 : Int32) (x11 : Int32) (x12 : Int32) (t0 : Int32) (h : tpH) : Prop :=
  ((9 : Int32) ≤ x11 → (w_Lw_law_233 R X K107 x0 x1 x2 x3 x4 x5 x6 x7 x8 x10 x11 t0 (x12 / (22 : Int32)) h)) ∧ (¬ (9 : Int32) ≤ x11 → (w_Lw_law_233 R X K107 x0 x1 x2 x3 x4 x5 x6 x7 x8 x10 x11 t0 ((x12 - x12 / (576 : Int32) * (576 : Int32)) + ((4608 : Int32) * ((x12 / (576 : Int32)) - (x12 / (576 : Int32)) / (400 : Int32) * (400 : Int32)))) h))
def w_Lw_law_165 (R : Int32 → tpH → Prop) (X : String → tpH → Prop) (K107 : (Option Nat) → (Option Nat) → (Option Nat) → (Option Nat) → (Option Nat) → (Option Nat) → (Option Nat) → (Option Nat) → (Option Nat) → Int32 → Int32 → tpH → Prop) (x0 : Option Nat) (x1 : Option Nat) (x2 : Option Nat) (x3 : Option Nat) (x4 : Option Nat) (x5 : Option Nat) (x6 : Option Nat) (x7 : Option Nat) (x8 : Option Nat) (x10 : Int32) (x11 : Int32) (t0 : Int32) (h : tpH) : Prop :=
  ((9 : Int32) ≤ x11 → ((¬ x11 = (9 : Int32) → (w_Lw_law_195 R X K107 x0 x1 x2 x3 x4 x5 x6 x7 x8 x10 x11 t0 (t0 - t0 / (22 : Int32) * (22 : Int32)) h)) ∧ (x11 = (9 : Int32) → (w_Lw_law_195 R X K107 x0 x1 x2 x3 x4 x5 x6 x7 x8 x10 x11 t0 (12 : Int32) h)))) ∧ (¬ (9 : Int32) ≤ x11 → (w_Lw_law_195 R X K107 x0 x1 x2 x3 x4 x5 x6 x7 x8 x10 x11 t0 (0 : Int32) h))
def w_Lw_law_551 (R : Int32 → tpH → Prop) (X : String → tpH → Prop) (x1 : Option Nat) (x3 : Option Nat) (x10 : Int32) (h : tpH) : Prop :=
  (x10 = 0 → (R (0 : Int32) h)) ∧ (¬ x10 = 0 → (∃ a2, x1 = some a2 ∧ hT h a2 = 13 ∧ (w_TP_trees a2 h (fun v6 h5 => ∃ a7, x3 = some a7 ∧ hT h5 a7 = 15 ∧ (vp_in (1 : Int32) (hL h5 a7) ∧ ((¬ v6 = (hI h5 a7 (1 : Int32).toNatClampNeg) → (R (0 : Int32) h5)) ∧ (v6 = (hI h5 a7 (1 : Int32).toNatClampNeg) → (R (1 : Int32) h5))))))))
def b_Lw_law_107 (R : Int32 → tpH → Prop) (X : String → tpH → Prop) (Y : (Option Nat) → (Option Nat) → (Option Nat) → (Option Nat) → (Option Nat) → (Option Nat) → (Option Nat) → (Option Nat) → (Option Nat) → Int32 → Int32 → tpH → Prop) (x0 : Option Nat) (x1 : Option Nat) (x2 : Option Nat) (x3 : Option Nat) (x4 : Option Nat) (x5 : Option Nat) (x6 : Option Nat) (x7 : Option Nat) (x8 : Option Nat) (x10 : Int32) (x11 : Int32) (h : tpH) : Prop :=
  ((110 : Int32) ≤ x11 → (w_Lw_law_551 R X x1 x3 x10 h)) ∧ (¬ (110 : Int32) ≤ x11 → ((x10 = 0 → (w_Lw_law_551 R X x1 x3 x10 h)) ∧ (¬ x10 = 0 → (∃ a3, x3 = some a3 ∧ hT h a3 = 15 ∧ (vp_in (1 : Int32) (hL h a3) ∧ (((38 : Int32) ≤ (hI h a3 (1 : Int32).toNatClampNeg) → (w_Lw_law_551 R X x1 x3 x10 h)) ∧ (¬ (38 : Int32) ≤ (hI h a3 (1 : Int32).toNatClampNeg) → (∃ a8, x0 = some a8 ∧ hT h a8 = 22 ∧ (((Int32.ofNat (hL h a8)) ≤ x11 → (w_Lw_law_165 R X Y x0 x1 x2 x3 x4 x5 x6 x7 x8 x10 x11 ((((((41017 : Int32) * x11) * x11) + ((8009 : Int32) * x11)) + (37 : Int32)) &&& (2147483647 : Int32)) h)) ∧ (¬ (Int32.ofNat (hL h a8)) ≤ x11 → (vp_in x11 (hL h a8) ∧ (w_Lw_law_165 R X Y x0 x1 x2 x3 x4 x5 x6 x7 x8 x10 x11 ((hI h a8 x11.toNatClampNeg) &&& (2147483647 : Int32)) h))))))))))))
def w_Lw_law_107 (R : Int32 → tpH → Prop) (X : String → tpH → Prop) : Nat → (Option Nat) → (Option Nat) → (Option Nat) → (Option Nat) → (Option Nat) → (Option Nat) → (Option Nat) → (Option Nat) → (Option Nat) → Int32 → Int32 → tpH → Prop
  | 0 => fun _ _ _ _ _ _ _ _ _ _ _ _ => False
  | n + 1 => b_Lw_law_107 R X (w_Lw_law_107 R X n)
def w_Lw_law_89 (R : Int32 → tpH → Prop) (X : String → tpH → Prop) (x0 : Option Nat) (x1 : Option Nat) (x2 : Option Nat) (x3 : Option Nat) (x4 : Option Nat) (x5 : Option Nat) (x6 : Option Nat) (x7 : Option Nat) (x8 : Option Nat) (t0 : Int32) (h : tpH) : Prop :=
  ∃ a1, x3 = some a1 ∧ hT h a1 = 15 ∧ (vp_in (0 : Int32) (hL h a1) ∧ (∀ h5, h5 = sI h a1 (0 : Int32).toNatClampNeg (1 : Int32) → (w_Lw_puts x5 (0 : Int32) (192 : Int32) h5 (fun h7 => ∃ n, w_Lw_law_107 R X n x0 x1 x2 x3 x4 x5 x6 x7 x8 t0 (1 : Int32) h7))))
def w_Lw_law_62 (R : Int32 → tpH → Prop) (X : String → tpH → Prop) (x0 : Option Nat) (x1 : Option Nat) (x2 : Option Nat) (x3 : Option Nat) (x4 : Option Nat) (x5 : Option Nat) (x6 : Option Nat) (x7 : Option Nat) (x8 : Option Nat) (t0 : Int32) (h : tpH) : Prop :=
  ∃ a1, x2 = some a1 ∧ hT h a1 = 15 ∧ (vp_in (0 : Int32) (hL h a1) ∧ (∀ h5, h5 = sI h a1 (0 : Int32).toNatClampNeg (t0 - t0 / (4 : Int32) * (4 : Int32)) → (vp_in (0 : Int32) (hL h5 a1) ∧ (w_Lw_does x1 (0 : Int32) (hI h5 a1 (0 : Int32).toNatClampNeg) (3 : Int32) (-1 : Int32) h5 (fun v9 h8 => (¬ v9 = 0 → (w_Lw_law_89 R X x0 x1 x2 x3 x4 x5 x6 x7 x8 (0 : Int32) h8)) ∧ (v9 = 0 → (w_Lw_law_89 R X x0 x1 x2 x3 x4 x5 x6 x7 x8 (1 : Int32) h8)))))))
def w_Lw_law (x0 : Option Nat) (h : tpH) (X : String → tpH → Prop) (R : Int32 → tpH → Prop) : Prop :=
  ∀ a1 h2, a1 = hZ h → h2 = nC h 13 0 13 → (w_TP_init a1 h2 (fun h5 => ∀ a6 h7, a6 = hZ h5 → h7 = nC h5 15 40 40 → (∀ a10 h11, a10 = hZ h7 → h11 = nC h7 15 2 2 → (∀ a14 h15, a14 = hZ h11 → h15 = nC h11 15 6 6 → (∀ a18 h19, a18 = hZ h15 → h19 = nC h15 15 41 41 → (∀ a22 h23, a22 = hZ h19 → h23 = nC h19 15 41 41 → (∀ a26 h27, a26 = hZ h23 → h27 = nC h23 15 41 41 → (∀ a30 h31, a30 = hZ h27 → h31 = nC h27 15 41 41 → (∃ a34, x0 = some a34 ∧ hT h31 a34 = 22 ∧ (((Int32.ofNat (hL h31 a34)) ≤ 0 → (w_Lw_law_62 R X x0 (some a1) (some a6) (some a10) (some a14) (some a18) (some a22) (some a26) (some a30) (0 : Int32) h31)) ∧ (¬ (Int32.ofNat (hL h31 a34)) ≤ 0 → (vp_in (0 : Int32) (hL h31 a34) ∧ (w_Lw_law_62 R X x0 (some a1) (some a6) (some a10) (some a14) (some a18) (some a22) (some a26) (some a30) ((hI h31 a34 (0 : Int32).toNatClampNeg) &&& (2147483647 : Int32)) h31)))))))))))))
theorem s_Lw_law_297 {h0 : tpH} {av : List tpV} {R : Int32 → tpH → Prop} {K107 : (Option Nat) → (Option Nat) → (Option Nat) → (Option Nat) → (Option Nat) → (Option Nat) → (Option Nat) → (Option Nat) → (Option Nat) → Int32 → Int32 → tpH → Prop} (k107 : ∀ (x0 : Option Nat) (x1 : Option Nat) (x2 : Option Nat) (x3 : Option Nat) (x4 : Option Nat) (x5 : Option Nat) (x6 : Option Nat) (x7 : Option Nat) (x8 : Option Nat) (x10 : Int32) (x11 : Int32) (h : tpH), K107 x0 x1 x2 x3 x4 x5 x6 x7 x8 x10 x11 h → tpR Lw_main 12 h0 av (tpOi R (fun _ _ => False)) 107 [some (vR x0), some (vR x1), some (vR x2), some (vR x3), some (vR x4), some (vR x5), some (vR x6), some (vR x7), some (vR x8), none, some (vI x10), some (vI x11), none, none, none, none, none, none] [] h) : ∀ (x0 : Option Nat) (x1 : Option Nat) (x2 : Option Nat) (x3 : Option Nat) (x4 : Option Nat) (x5 : Option Nat) (x6 : Option Nat) (x7 : Option Nat) (x8 : Option Nat) (x11 : Int32) (t0 : Int32) (h : tpH), w_Lw_law_297 R (fun _ _ => False) K107 x0 x1 x2 x3 x4 x5 x6 x7 x8 x11 t0 h → tpR Lw_main 12 h0 av (tpOi R (fun _ _ => False)) 297 [some (vR x0), some (vR x1), some (vR x2), some (vR x3), some (vR x4), some (vR x5), some (vR x6), some (vR x7), some (vR x8), none, none, some (vI x11), none, none, none, none, none, none] [vI t0] h := by
  intro x0 x1 x2 x3 x4 x5 x6 x7 x8 x11 t0 h hw
  unfold w_Lw_law_297 at hw
  refine tq_istore (ls' := [some (vR x0), some (vR x1), some (vR x2), some (vR x3), some (vR x4), some (vR x5), some (vR x6), some (vR x7), some (vR x8), none, some (vI t0), some (vI x11), none, none, none, none, none, none]) dLw_law_297 (Nat.le_of_ble_eq_true rfl) rfl ?_
  refine tq_aload_n dLw_law_299 rfl rfl ?_
  refine tq_iconst (v := (1 : Int32)) dLw_law_300 tni_1 ?_
  refine tq_dup2 dLw_law_301 rfl rfl ?_
  obtain ⟨a1, e2, f3, hw⟩ := hw
  obtain ⟨f4, hw⟩ := hw
  refine te_iald dLw_law_302 e2 (Or.inl f3) f4 ?_
  refine tq_iconst (v := (1 : Int32)) dLw_law_303 tni_1 ?_
  refine tq_iadd dLw_law_304 ?_
  obtain ⟨f5, hw⟩ := hw
  refine te_iast dLw_law_305 e2 f3 f5 (fun h6 e7 => ?_)
  have hw := hw h6 e7
  refine tq_goto (tgt := 545) dLw_law_306 (by decide) ?_
  refine tq_inc (k := (1 : Int32)) (ls' := [some (vR x0), some (vR x1), some (vR x2), some (vR x3), some (vR x4), some (vR x5), some (vR x6), some (vR x7), some (vR x8), none, some (vI t0), some (vI (x11 + (1 : Int32))), none, none, none, none, none, none]) dLw_law_545 rfl tni_1 (Nat.le_of_ble_eq_true rfl) rfl ?_
  refine tq_goto (tgt := 107) dLw_law_548 (by decide) ?_
  refine tpR.fo (ls' := [some (vR x0), some (vR x1), some (vR x2), some (vR x3), some (vR x4), some (vR x5), some (vR x6), some (vR x7), some (vR x8), none, some (vI t0), some (vI (x11 + (1 : Int32))), none, none, none, none, none, none]) ?_ (And.intro rfl (And.intro rfl (And.intro rfl (And.intro rfl (And.intro rfl (And.intro rfl (And.intro rfl (And.intro rfl (And.intro rfl (And.intro rfl (And.intro rfl trivial)))))))))))
  exact k107 _ _ _ _ _ _ _ _ _ _ _ _ hw
theorem s_Lw_law_414 {h0 : tpH} {av : List tpV} {R : Int32 → tpH → Prop} {K107 : (Option Nat) → (Option Nat) → (Option Nat) → (Option Nat) → (Option Nat) → (Option Nat) → (Option Nat) → (Option Nat) → (Option Nat) → Int32 → Int32 → tpH → Prop} (k107 : ∀ (x0 : Option Nat) (x1 : Option Nat) (x2 : Option Nat) (x3 : Option Nat) (x4 : Option Nat) (x5 : Option Nat) (x6 : Option Nat) (x7 : Option Nat) (x8 : Option Nat) (x10 : Int32) (x11 : Int32) (h : tpH), K107 x0 x1 x2 x3 x4 x5 x6 x7 x8 x10 x11 h → tpR Lw_main 12 h0 av (tpOi R (fun _ _ => False)) 107 [some (vR x0), some (vR x1), some (vR x2), some (vR x3), some (vR x4), some (vR x5), some (vR x6), some (vR x7), some (vR x8), none, some (vI x10), some (vI x11), none, none, none, none, none, none] [] h) : ∀ (x0 : Option Nat) (x1 : Option Nat) (x2 : Option Nat) (x3 : Option Nat) (x4 : Option Nat) (x5 : Option Nat) (x6 : Option Nat) (x7 : Option Nat) (x8 : Option Nat) (x11 : Int32) (x14 : Int32) (x15 : Int32) (t0 : Int32) (h : tpH), w_Lw_law_414 R (fun _ _ => False) K107 x0 x1 x2 x3 x4 x5 x6 x7 x8 x11 x14 x15 t0 h → tpR Lw_main 12 h0 av (tpOi R (fun _ _ => False)) 414 [some (vR x0), some (vR x1), some (vR x2), some (vR x3), some (vR x4), some (vR x5), some (vR x6), some (vR x7), some (vR x8), none, none, some (vI x11), none, none, some (vI x14), some (vI x15), none, none] [vI t0] h := by
  intro x0 x1 x2 x3 x4 x5 x6 x7 x8 x11 x14 x15 t0 h hw
  unfold w_Lw_law_414 at hw
  refine tq_istore (ls' := [some (vR x0), some (vR x1), some (vR x2), some (vR x3), some (vR x4), some (vR x5), some (vR x6), some (vR x7), some (vR x8), none, some (vI t0), some (vI x11), none, none, some (vI x14), some (vI x15), none, none]) dLw_law_414 (Nat.le_of_ble_eq_true rfl) rfl ?_
  refine tq_aload dLw_law_416 rfl ?_
  refine tq_iload dLw_law_418 rfl ?_
  refine tq_iload dLw_law_420 rfl ?_
  refine tq_iconst (v := (4 : Int32)) dLw_law_422 tni_4 ?_
  refine tq_idiv dLw_law_423 (by decide) ?_
  refine tq_iconst (v := (3 : Int32)) dLw_law_424 tni_3 ?_
  refine tq_irem dLw_law_425 (by decide) ?_
  obtain ⟨a1, e2, f3, hw⟩ := hw
  obtain ⟨f4, hw⟩ := hw
  refine te_iast dLw_law_426 e2 f3 f4 (fun h5 e6 => ?_)
  have hw := hw h5 e6
  refine tq_goto (tgt := 545) dLw_law_427 (by decide) ?_
  refine tq_inc (k := (1 : Int32)) (ls' := [some (vR x0), some (vR x1), some (vR x2), some (vR x3), some (vR x4), some (vR x5), some (vR x6), some (vR x7), some (vR x8), none, some (vI t0), some (vI (x11 + (1 : Int32))), none, none, some (vI x14), some (vI x15), none, none]) dLw_law_545 rfl tni_1 (Nat.le_of_ble_eq_true rfl) rfl ?_
  refine tq_goto (tgt := 107) dLw_law_548 (by decide) ?_
  refine tpR.fo (ls' := [some (vR x0), some (vR x1), some (vR x2), some (vR x3), some (vR x4), some (vR x5), some (vR x6), some (vR x7), some (vR x8), none, some (vI t0), some (vI (x11 + (1 : Int32))), none, none, none, none, none, none]) ?_ (And.intro rfl (And.intro rfl (And.intro rfl (And.intro rfl (And.intro rfl (And.intro rfl (And.intro rfl (And.intro rfl (And.intro rfl (And.intro rfl (And.intro rfl trivial)))))))))))
  exact k107 _ _ _ _ _ _ _ _ _ _ _ _ hw
theorem s_Lw_law_387 {h0 : tpH} {av : List tpV} {R : Int32 → tpH → Prop} {K107 : (Option Nat) → (Option Nat) → (Option Nat) → (Option Nat) → (Option Nat) → (Option Nat) → (Option Nat) → (Option Nat) → (Option Nat) → Int32 → Int32 → tpH → Prop} (k107 : ∀ (x0 : Option Nat) (x1 : Option Nat) (x2 : Option Nat) (x3 : Option Nat) (x4 : Option Nat) (x5 : Option Nat) (x6 : Option Nat) (x7 : Option Nat) (x8 : Option Nat) (x10 : Int32) (x11 : Int32) (h : tpH), K107 x0 x1 x2 x3 x4 x5 x6 x7 x8 x10 x11 h → tpR Lw_main 12 h0 av (tpOi R (fun _ _ => False)) 107 [some (vR x0), some (vR x1), some (vR x2), some (vR x3), some (vR x4), some (vR x5), some (vR x6), some (vR x7), some (vR x8), none, some (vI x10), some (vI x11), none, none, none, none, none, none] [] h) : ∀ (x0 : Option Nat) (x1 : Option Nat) (x2 : Option Nat) (x3 : Option Nat) (x4 : Option Nat) (x5 : Option Nat) (x6 : Option Nat) (x7 : Option Nat) (x8 : Option Nat) (x11 : Int32) (x14 : Int32) (t0 : Int32) (h : tpH), w_Lw_law_387 R (fun _ _ => False) K107 x0 x1 x2 x3 x4 x5 x6 x7 x8 x11 x14 t0 h → tpR Lw_main 12 h0 av (tpOi R (fun _ _ => False)) 387 [some (vR x0), some (vR x1), some (vR x2), some (vR x3), some (vR x4), some (vR x5), some (vR x6), some (vR x7), some (vR x8), none, none, some (vI x11), none, none, some (vI x14), none, none, none] [vI t0] h := by
  intro x0 x1 x2 x3 x4 x5 x6 x7 x8 x11 x14 t0 h hw
  unfold w_Lw_law_387 at hw
  refine tq_istore (ls' := [some (vR x0), some (vR x1), some (vR x2), some (vR x3), some (vR x4), some (vR x5), some (vR x6), some (vR x7), some (vR x8), none, none, some (vI x11), none, none, some (vI x14), some (vI t0), none, none]) dLw_law_387 (Nat.le_of_ble_eq_true rfl) rfl ?_
  refine tq_aload_n dLw_law_389 rfl rfl ?_
  refine tq_iload dLw_law_390 rfl ?_
  refine tq_iload dLw_law_392 rfl ?_
  refine tq_iconst (v := (4 : Int32)) dLw_law_394 tni_4 ?_
  refine tq_idiv dLw_law_395 (by decide) ?_
  refine tq_iconst (v := (3 : Int32)) dLw_law_396 tni_3 ?_
  refine tq_irem dLw_law_397 (by decide) ?_
  obtain ⟨a1, e2, f3, hw⟩ := hw
  refine te_callV mv_TP_setPolicy (ci := 12) (dc := 6) (as := [vI t0, vI ((x14 / (4 : Int32)) - (x14 / (4 : Int32)) / (3 : Int32) * (3 : Int32))]) (rest := []) kLw_161 rfl (Nat.le_of_ble_eq_true rfl) (Nat.le_of_ble_eq_true rfl) rfl rfl e2 f3 (Nat.le_of_ble_eq_true rfl) dLw_law_398 (s_TP_setPolicy hw) (fun _ _ hx => False.elim hx) (tk_i fun v5 h4 hw => ?_)
  refine tq_aload dLw_law_401 rfl ?_
  refine tq_iload dLw_law_403 rfl ?_
  obtain ⟨a6, e7, f8, hw⟩ := hw
  obtain ⟨f9, hw⟩ := hw
  refine te_iald dLw_law_405 e7 (Or.inl f8) f9 ?_
  refine tq_icmpne (tgt := 413) dLw_law_406 (by decide) (fun c10 => ?_) (fun c10 => ?_)
  · have hw := hw.1 c10
    refine tq_iconst (v := (0 : Int32)) dLw_law_413 tni_0 ?_
    refine tpR.fo (ls' := [some (vR x0), some (vR x1), some (vR x2), some (vR x3), some (vR x4), some (vR x5), some (vR x6), some (vR x7), some (vR x8), none, none, some (vI x11), none, none, some (vI x14), some (vI t0), none, none]) ?_ (And.intro rfl (And.intro rfl (And.intro rfl (And.intro rfl (And.intro rfl (And.intro rfl (And.intro rfl (And.intro rfl (And.intro rfl (And.intro rfl (And.intro rfl (And.intro rfl trivial))))))))))))
    exact s_Lw_law_414 k107 _ _ _ _ _ _ _ _ _ _ _ _ _ _ hw
  · have hw := hw.2 c10
    refine tq_iconst (v := (1 : Int32)) dLw_law_409 tni_1 ?_
    refine tq_goto (tgt := 414) dLw_law_410 (by decide) ?_
    refine tpR.fo (ls' := [some (vR x0), some (vR x1), some (vR x2), some (vR x3), some (vR x4), some (vR x5), some (vR x6), some (vR x7), some (vR x8), none, none, some (vI x11), none, none, some (vI x14), some (vI t0), none, none]) ?_ (And.intro rfl (And.intro rfl (And.intro rfl (And.intro rfl (And.intro rfl (And.intro rfl (And.intro rfl (And.intro rfl (And.intro rfl (And.intro rfl (And.intro rfl (And.intro rfl trivial))))))))))))
    exact s_Lw_law_414 k107 _ _ _ _ _ _ _ _ _ _ _ _ _ _ hw
theorem s_Lw_law_536 {h0 : tpH} {av : List tpV} {R : Int32 → tpH → Prop} {K107 : (Option Nat) → (Option Nat) → (Option Nat) → (Option Nat) → (Option Nat) → (Option Nat) → (Option Nat) → (Option Nat) → (Option Nat) → Int32 → Int32 → tpH → Prop} (k107 : ∀ (x0 : Option Nat) (x1 : Option Nat) (x2 : Option Nat) (x3 : Option Nat) (x4 : Option Nat) (x5 : Option Nat) (x6 : Option Nat) (x7 : Option Nat) (x8 : Option Nat) (x10 : Int32) (x11 : Int32) (h : tpH), K107 x0 x1 x2 x3 x4 x5 x6 x7 x8 x10 x11 h → tpR Lw_main 12 h0 av (tpOi R (fun _ _ => False)) 107 [some (vR x0), some (vR x1), some (vR x2), some (vR x3), some (vR x4), some (vR x5), some (vR x6), some (vR x7), some (vR x8), none, some (vI x10), some (vI x11), none, none, none, none, none, none] [] h) : ∀ (x0 : Option Nat) (x1 : Option Nat) (x2 : Option Nat) (x3 : Option Nat) (x4 : Option Nat) (x5 : Option Nat) (x6 : Option Nat) (x7 : Option Nat) (x8 : Option Nat) (x11 : Int32) (t0 : Int32) (h : tpH), w_Lw_law_536 R (fun _ _ => False) K107 x0 x1 x2 x3 x4 x5 x6 x7 x8 x11 t0 h → tpR Lw_main 12 h0 av (tpOi R (fun _ _ => False)) 536 [some (vR x0), some (vR x1), some (vR x2), some (vR x3), some (vR x4), some (vR x5), some (vR x6), some (vR x7), some (vR x8), none, none, some (vI x11), none, none, none, none, none, none] [vI t0] h := by
  intro x0 x1 x2 x3 x4 x5 x6 x7 x8 x11 t0 h hw
  unfold w_Lw_law_536 at hw
  refine tq_istore (ls' := [some (vR x0), some (vR x1), some (vR x2), some (vR x3), some (vR x4), some (vR x5), some (vR x6), some (vR x7), some (vR x8), none, some (vI t0), some (vI x11), none, none, none, none, none, none]) dLw_law_536 (Nat.le_of_ble_eq_true rfl) rfl ?_
  refine tq_aload_n dLw_law_538 rfl rfl ?_
  refine tq_iconst (v := (1 : Int32)) dLw_law_539 tni_1 ?_
  refine tq_dup2 dLw_law_540 rfl rfl ?_
  obtain ⟨a1, e2, f3, hw⟩ := hw
  obtain ⟨f4, hw⟩ := hw
  refine te_iald dLw_law_541 e2 (Or.inl f3) f4 ?_
  refine tq_iconst (v := (1 : Int32)) dLw_law_542 tni_1 ?_
  refine tq_iadd dLw_law_543 ?_
  obtain ⟨f5, hw⟩ := hw
  refine te_iast dLw_law_544 e2 f3 f5 (fun h6 e7 => ?_)
  have hw := hw h6 e7
  refine tq_inc (k := (1 : Int32)) (ls' := [some (vR x0), some (vR x1), some (vR x2), some (vR x3), some (vR x4), some (vR x5), some (vR x6), some (vR x7), some (vR x8), none, some (vI t0), some (vI (x11 + (1 : Int32))), none, none, none, none, none, none]) dLw_law_545 rfl tni_1 (Nat.le_of_ble_eq_true rfl) rfl ?_
  refine tq_goto (tgt := 107) dLw_law_548 (by decide) ?_
  refine tpR.fo (ls' := [some (vR x0), some (vR x1), some (vR x2), some (vR x3), some (vR x4), some (vR x5), some (vR x6), some (vR x7), some (vR x8), none, some (vI t0), some (vI (x11 + (1 : Int32))), none, none, none, none, none, none]) ?_ (And.intro rfl (And.intro rfl (And.intro rfl (And.intro rfl (And.intro rfl (And.intro rfl (And.intro rfl (And.intro rfl (And.intro rfl (And.intro rfl (And.intro rfl trivial)))))))))))
  exact k107 _ _ _ _ _ _ _ _ _ _ _ _ hw
theorem s_Lw_law_364 {h0 : tpH} {av : List tpV} {R : Int32 → tpH → Prop} {K107 : (Option Nat) → (Option Nat) → (Option Nat) → (Option Nat) → (Option Nat) → (Option Nat) → (Option Nat) → (Option Nat) → (Option Nat) → Int32 → Int32 → tpH → Prop} (k107 : ∀ (x0 : Option Nat) (x1 : Option Nat) (x2 : Option Nat) (x3 : Option Nat) (x4 : Option Nat) (x5 : Option Nat) (x6 : Option Nat) (x7 : Option Nat) (x8 : Option Nat) (x10 : Int32) (x11 : Int32) (h : tpH), K107 x0 x1 x2 x3 x4 x5 x6 x7 x8 x10 x11 h → tpR Lw_main 12 h0 av (tpOi R (fun _ _ => False)) 107 [some (vR x0), some (vR x1), some (vR x2), some (vR x3), some (vR x4), some (vR x5), some (vR x6), some (vR x7), some (vR x8), none, some (vI x10), some (vI x11), none, none, none, none, none, none] [] h) : ∀ (x0 : Option Nat) (x1 : Option Nat) (x2 : Option Nat) (x3 : Option Nat) (x4 : Option Nat) (x5 : Option Nat) (x6 : Option Nat) (x7 : Option Nat) (x8 : Option Nat) (x10 : Int32) (x11 : Int32) (x13 : Int32) (x14 : Int32) (h : tpH), w_Lw_law_364 R (fun _ _ => False) K107 x0 x1 x2 x3 x4 x5 x6 x7 x8 x10 x11 x13 x14 h → tpR Lw_main 12 h0 av (tpOi R (fun _ _ => False)) 364 [some (vR x0), some (vR x1), some (vR x2), some (vR x3), some (vR x4), some (vR x5), some (vR x6), some (vR x7), some (vR x8), none, some (vI x10), some (vI x11), none, some (vI x13), some (vI x14), none, none, none] [] h := by
  intro x0 x1 x2 x3 x4 x5 x6 x7 x8 x10 x11 x13 x14 h hw
  unfold w_Lw_law_364 at hw
  refine tq_iload dLw_law_364 rfl ?_
  refine tq_bipush (v := (17 : Int32)) dLw_law_366 tnb_17 ?_
  refine tq_icmpne (tgt := 430) dLw_law_368 (by decide) (fun c1 => ?_) (fun c1 => ?_)
  · have hw := hw.1 c1
    refine tq_aload_n dLw_law_430 rfl rfl ?_
    refine tq_iconst (v := (1 : Int32)) dLw_law_431 tni_1 ?_
    obtain ⟨a2, e3, f4, hw⟩ := hw
    obtain ⟨f5, hw⟩ := hw
    refine te_iald dLw_law_432 e3 (Or.inl f4) f5 ?_
    refine tq_ifle (tgt := 545) dLw_law_433 (by decide) (fun c6 => ?_) (fun c6 => ?_)
    · have hw := hw.1 c6
      refine tq_inc (k := (1 : Int32)) (ls' := [some (vR x0), some (vR x1), some (vR x2), some (vR x3), some (vR x4), some (vR x5), some (vR x6), some (vR x7), some (vR x8), none, some (vI x10), some (vI (x11 + (1 : Int32))), none, some (vI x13), some (vI x14), none, none, none]) dLw_law_545 rfl tni_1 (Nat.le_of_ble_eq_true rfl) rfl ?_
      refine tq_goto (tgt := 107) dLw_law_548 (by decide) ?_
      refine tpR.fo (ls' := [some (vR x0), some (vR x1), some (vR x2), some (vR x3), some (vR x4), some (vR x5), some (vR x6), some (vR x7), some (vR x8), none, some (vI x10), some (vI (x11 + (1 : Int32))), none, none, none, none, none, none]) ?_ (And.intro rfl (And.intro rfl (And.intro rfl (And.intro rfl (And.intro rfl (And.intro rfl (And.intro rfl (And.intro rfl (And.intro rfl (And.intro rfl (And.intro rfl trivial)))))))))))
      exact k107 _ _ _ _ _ _ _ _ _ _ _ _ hw
    · have hw := hw.2 c6
      refine tq_iload dLw_law_436 rfl ?_
      refine tq_aload_n dLw_law_438 rfl rfl ?_
      refine tq_iconst (v := (1 : Int32)) dLw_law_439 tni_1 ?_
      obtain ⟨f7, hw⟩ := hw
      refine te_iald dLw_law_440 e3 (Or.inl f4) f7 ?_
      obtain ⟨f8, hw⟩ := hw
      refine tq_irem dLw_law_441 f8 ?_
      refine tq_istore (ls' := [some (vR x0), some (vR x1), some (vR x2), some (vR x3), some (vR x4), some (vR x5), some (vR x6), some (vR x7), some (vR x8), none, some (vI x10), some (vI x11), none, some (vI x13), some (vI x14), some (vI (x14 - x14 / (hI h a2 (1 : Int32).toNatClampNeg) * (hI h a2 (1 : Int32).toNatClampNeg))), none, none]) dLw_law_442 (Nat.le_of_ble_eq_true rfl) rfl ?_
      refine tq_iload dLw_law_444 rfl ?_
      refine tq_bipush (v := (40 : Int32)) dLw_law_446 tnb_40 ?_
      refine tq_idiv dLw_law_448 (by decide) ?_
      refine tq_aload_n dLw_law_449 rfl rfl ?_
      refine tq_iconst (v := (1 : Int32)) dLw_law_450 tni_1 ?_
      obtain ⟨f9, hw⟩ := hw
      refine te_iald dLw_law_451 e3 (Or.inl f4) f9 ?_
      obtain ⟨f10, hw⟩ := hw
      refine tq_irem dLw_law_452 f10 ?_
      refine tq_istore (ls' := [some (vR x0), some (vR x1), some (vR x2), some (vR x3), some (vR x4), some (vR x5), some (vR x6), some (vR x7), some (vR x8), none, some (vI x10), some (vI x11), none, some (vI x13), some (vI x14), some (vI (x14 - x14 / (hI h a2 (1 : Int32).toNatClampNeg) * (hI h a2 (1 : Int32).toNatClampNeg))), some (vI ((x14 / (40 : Int32)) - (x14 / (40 : Int32)) / (hI h a2 (1 : Int32).toNatClampNeg) * (hI h a2 (1 : Int32).toNatClampNeg))), none]) dLw_law_453 (Nat.le_of_ble_eq_true rfl) rfl ?_
      refine tq_iload dLw_law_455 rfl ?_
      refine tq_sipush (v := (1600 : Int32)) dLw_law_457 tns_1600 ?_
      refine tq_idiv dLw_law_460 (by decide) ?_
      refine tq_aload_n dLw_law_461 rfl rfl ?_
      refine tq_iconst (v := (1 : Int32)) dLw_law_462 tni_1 ?_
      obtain ⟨f11, hw⟩ := hw
      refine te_iald dLw_law_463 e3 (Or.inl f4) f11 ?_
      obtain ⟨f12, hw⟩ := hw
      refine tq_irem dLw_law_464 f12 ?_
      refine tq_istore (ls' := [some (vR x0), some (vR x1), some (vR x2), some (vR x3), some (vR x4), some (vR x5), some (vR x6), some (vR x7), some (vR x8), none, some (vI x10), some (vI x11), none, some (vI x13), some (vI x14), some (vI (x14 - x14 / (hI h a2 (1 : Int32).toNatClampNeg) * (hI h a2 (1 : Int32).toNatClampNeg))), some (vI ((x14 / (40 : Int32)) - (x14 / (40 : Int32)) / (hI h a2 (1 : Int32).toNatClampNeg) * (hI h a2 (1 : Int32).toNatClampNeg))), some (vI ((x14 / (1600 : Int32)) - (x14 / (1600 : Int32)) / (hI h a2 (1 : Int32).toNatClampNeg) * (hI h a2 (1 : Int32).toNatClampNeg)))]) dLw_law_465 (Nat.le_of_ble_eq_true rfl) rfl ?_
      refine tq_aload_n dLw_law_467 rfl rfl ?_
      refine tq_iload dLw_law_468 rfl ?_
      refine tq_aload dLw_law_470 rfl ?_
      refine tq_callS ms_Lw_reads (dc := 8) (as := [vR x1, vI (x14 - x14 / (hI h a2 (1 : Int32).toNatClampNeg) * (hI h a2 (1 : Int32).toNatClampNeg)), vR x6]) (rest := []) kLw_82 (Nat.le_of_ble_eq_true rfl) (Nat.le_of_ble_eq_true rfl) rfl rfl (Nat.le_of_ble_eq_true rfl) dLw_law_472 (s_Lw_reads hw) (fun _ _ hx => False.elim hx) (tk_v fun h13 hw => ?_)
      refine tq_aload_n dLw_law_475 rfl rfl ?_
      refine tq_iload dLw_law_476 rfl ?_
      refine tq_aload dLw_law_478 rfl ?_
      refine tq_callS ms_Lw_reads (dc := 8) (as := [vR x1, vI ((x14 / (40 : Int32)) - (x14 / (40 : Int32)) / (hI h a2 (1 : Int32).toNatClampNeg) * (hI h a2 (1 : Int32).toNatClampNeg)), vR x7]) (rest := []) kLw_82 (Nat.le_of_ble_eq_true rfl) (Nat.le_of_ble_eq_true rfl) rfl rfl (Nat.le_of_ble_eq_true rfl) dLw_law_480 (s_Lw_reads hw) (fun _ _ hx => False.elim hx) (tk_v fun h14 hw => ?_)
      refine tq_aload_n dLw_law_483 rfl rfl ?_
      refine tq_iload dLw_law_484 rfl ?_
      refine tq_aload dLw_law_486 rfl ?_
      refine tq_callS ms_Lw_reads (dc := 8) (as := [vR x1, vI ((x14 / (1600 : Int32)) - (x14 / (1600 : Int32)) / (hI h a2 (1 : Int32).toNatClampNeg) * (hI h a2 (1 : Int32).toNatClampNeg)), vR x8]) (rest := []) kLw_82 (Nat.le_of_ble_eq_true rfl) (Nat.le_of_ble_eq_true rfl) rfl rfl (Nat.le_of_ble_eq_true rfl) dLw_law_488 (s_Lw_reads hw) (fun _ _ hx => False.elim hx) (tk_v fun h15 hw => ?_)
      refine tq_aload_n dLw_law_491 rfl rfl ?_
      refine tq_bipush (v := (7 : Int32)) dLw_law_492 tnb_7 ?_
      refine tq_iload dLw_law_494 rfl ?_
      refine tq_iload dLw_law_496 rfl ?_
      refine tq_iload dLw_law_498 rfl ?_
      refine tq_callSX ms_Lw_does (by intro hz; cases hz) (dc := 10) (as := [vR x1, vI (7 : Int32), vI (x14 - x14 / (hI h a2 (1 : Int32).toNatClampNeg) * (hI h a2 (1 : Int32).toNatClampNeg)), vI ((x14 / (40 : Int32)) - (x14 / (40 : Int32)) / (hI h a2 (1 : Int32).toNatClampNeg) * (hI h a2 (1 : Int32).toNatClampNeg)), vI ((x14 / (1600 : Int32)) - (x14 / (1600 : Int32)) / (hI h a2 (1 : Int32).toNatClampNeg) * (hI h a2 (1 : Int32).toNatClampNeg))]) (rest := []) kLw_135 (Nat.le_of_ble_eq_true rfl) (Nat.le_of_ble_eq_true rfl) rfl rfl (Nat.le_of_ble_eq_true rfl) dLw_law_500 (s_Lw_does hw) (fun _ _ hx => False.elim hx) (tk_i fun v17 h16 hw => ?_)
      refine tq_aload_n dLw_law_503 rfl rfl ?_
      refine tq_iconst (v := (1 : Int32)) dLw_law_504 tni_1 ?_
      obtain ⟨f18, hw⟩ := hw
      obtain ⟨f19, hw⟩ := hw
      refine te_iald dLw_law_505 e3 (Or.inl f18) f19 ?_
      refine tq_icmpne (tgt := 535) dLw_law_506 (by decide) (fun c20 => ?_) (fun c20 => ?_)
      · have hw := hw.1 c20
        refine tq_iconst (v := (0 : Int32)) dLw_law_535 tni_0 ?_
        refine tpR.fo (ls' := [some (vR x0), some (vR x1), some (vR x2), some (vR x3), some (vR x4), some (vR x5), some (vR x6), some (vR x7), some (vR x8), none, none, some (vI x11), none, none, none, none, none, none]) ?_ (And.intro rfl (And.intro rfl (And.intro rfl (And.intro rfl (And.intro rfl (And.intro rfl (And.intro rfl (And.intro rfl (And.intro rfl (And.intro rfl trivial))))))))))
        exact s_Lw_law_536 k107 _ _ _ _ _ _ _ _ _ _ _ _ hw
      · have hw := hw.2 c20
        refine tq_aload_n dLw_law_509 rfl rfl ?_
        refine tq_aload_n dLw_law_510 rfl rfl ?_
        refine tq_iconst (v := (1 : Int32)) dLw_law_511 tni_1 ?_
        obtain ⟨f21, hw⟩ := hw
        refine te_iald dLw_law_512 e3 (Or.inl f18) f21 ?_
        refine tq_aload dLw_law_513 rfl ?_
        refine tq_aload dLw_law_515 rfl ?_
        refine tq_aload dLw_law_517 rfl ?_
        refine tq_aload_n dLw_law_519 rfl rfl ?_
        refine tq_aload dLw_law_520 rfl ?_
        refine tq_aload_n dLw_law_522 rfl rfl ?_
        refine tq_iconst (v := (0 : Int32)) dLw_law_523 tni_0 ?_
        obtain ⟨f22, hw⟩ := hw
        refine te_iald dLw_law_524 e3 (Or.inl f18) f22 ?_
        refine tq_callS ms_Lw_isMerged (dc := 11) (as := [vR x1, vI (hI h16 a2 (1 : Int32).toNatClampNeg), vR x6, vR x7, vR x8, vR x2, vR x4, vI (hI h16 a2 (0 : Int32).toNatClampNeg)]) (rest := []) kLw_164 (Nat.le_of_ble_eq_true rfl) (Nat.le_of_ble_eq_true rfl) rfl rfl (Nat.le_of_ble_eq_true rfl) dLw_law_525 (s_Lw_isMerged hw) (fun _ _ hx => False.elim hx) (tk_i fun v24 h23 hw => ?_)
        refine tq_ifeq (tgt := 535) dLw_law_528 (by decide) (fun c25 => ?_) (fun c25 => ?_)
        · have hw := hw.1 c25
          refine tq_iconst (v := (0 : Int32)) dLw_law_535 tni_0 ?_
          refine tpR.fo (ls' := [some (vR x0), some (vR x1), some (vR x2), some (vR x3), some (vR x4), some (vR x5), some (vR x6), some (vR x7), some (vR x8), none, none, some (vI x11), none, none, none, none, none, none]) ?_ (And.intro rfl (And.intro rfl (And.intro rfl (And.intro rfl (And.intro rfl (And.intro rfl (And.intro rfl (And.intro rfl (And.intro rfl (And.intro rfl trivial))))))))))
          exact s_Lw_law_536 k107 _ _ _ _ _ _ _ _ _ _ _ _ hw
        · have hw := hw.2 c25
          refine tq_iconst (v := (1 : Int32)) dLw_law_531 tni_1 ?_
          refine tq_goto (tgt := 536) dLw_law_532 (by decide) ?_
          refine tpR.fo (ls' := [some (vR x0), some (vR x1), some (vR x2), some (vR x3), some (vR x4), some (vR x5), some (vR x6), some (vR x7), some (vR x8), none, none, some (vI x11), none, none, none, none, none, none]) ?_ (And.intro rfl (And.intro rfl (And.intro rfl (And.intro rfl (And.intro rfl (And.intro rfl (And.intro rfl (And.intro rfl (And.intro rfl (And.intro rfl trivial))))))))))
          exact s_Lw_law_536 k107 _ _ _ _ _ _ _ _ _ _ _ _ hw
  · have hw := hw.2 c1
    refine tq_iload dLw_law_371 rfl ?_
    refine tq_iconst (v := (4 : Int32)) dLw_law_373 tni_4 ?_
    refine tq_irem dLw_law_374 (by decide) ?_
    refine tq_iconst (v := (3 : Int32)) dLw_law_375 tni_3 ?_
    refine tq_icmpne (tgt := 383) dLw_law_376 (by decide) (fun c26 => ?_) (fun c26 => ?_)
    · have hw := hw.1 c26
      refine tq_iload dLw_law_383 rfl ?_
      refine tq_iconst (v := (4 : Int32)) dLw_law_385 tni_4 ?_
      refine tq_irem dLw_law_386 (by decide) ?_
      refine tpR.fo (ls' := [some (vR x0), some (vR x1), some (vR x2), some (vR x3), some (vR x4), some (vR x5), some (vR x6), some (vR x7), some (vR x8), none, none, some (vI x11), none, none, some (vI x14), none, none, none]) ?_ (And.intro rfl (And.intro rfl (And.intro rfl (And.intro rfl (And.intro rfl (And.intro rfl (And.intro rfl (And.intro rfl (And.intro rfl (And.intro rfl (And.intro rfl trivial)))))))))))
      exact s_Lw_law_387 k107 _ _ _ _ _ _ _ _ _ _ _ _ _ hw
    · have hw := hw.2 c26
      refine tq_iconst (v := (5 : Int32)) dLw_law_379 tni_5 ?_
      refine tq_goto (tgt := 387) dLw_law_380 (by decide) ?_
      refine tpR.fo (ls' := [some (vR x0), some (vR x1), some (vR x2), some (vR x3), some (vR x4), some (vR x5), some (vR x6), some (vR x7), some (vR x8), none, none, some (vI x11), none, none, some (vI x14), none, none, none]) ?_ (And.intro rfl (And.intro rfl (And.intro rfl (And.intro rfl (And.intro rfl (And.intro rfl (And.intro rfl (And.intro rfl (And.intro rfl (And.intro rfl (And.intro rfl trivial)))))))))))
      exact s_Lw_law_387 k107 _ _ _ _ _ _ _ _ _ _ _ _ _ hw
theorem s_Lw_law_233 {h0 : tpH} {av : List tpV} {R : Int32 → tpH → Prop} {K107 : (Option Nat) → (Option Nat) → (Option Nat) → (Option Nat) → (Option Nat) → (Option Nat) → (Option Nat) → (Option Nat) → (Option Nat) → Int32 → Int32 → tpH → Prop} (k107 : ∀ (x0 : Option Nat) (x1 : Option Nat) (x2 : Option Nat) (x3 : Option Nat) (x4 : Option Nat) (x5 : Option Nat) (x6 : Option Nat) (x7 : Option Nat) (x8 : Option Nat) (x10 : Int32) (x11 : Int32) (h : tpH), K107 x0 x1 x2 x3 x4 x5 x6 x7 x8 x10 x11 h → tpR Lw_main 12 h0 av (tpOi R (fun _ _ => False)) 107 [some (vR x0), some (vR x1), some (vR x2), some (vR x3), some (vR x4), some (vR x5), some (vR x6), some (vR x7), some (vR x8), none, some (vI x10), some (vI x11), none, none, none, none, none, none] [] h) : ∀ (x0 : Option Nat) (x1 : Option Nat) (x2 : Option Nat) (x3 : Option Nat) (x4 : Option Nat) (x5 : Option Nat) (x6 : Option Nat) (x7 : Option Nat) (x8 : Option Nat) (x10 : Int32) (x11 : Int32) (x13 : Int32) (t0 : Int32) (h : tpH), w_Lw_law_233 R (fun _ _ => False) K107 x0 x1 x2 x3 x4 x5 x6 x7 x8 x10 x11 x13 t0 h → tpR Lw_main 12 h0 av (tpOi R (fun _ _ => False)) 233 [some (vR x0), some (vR x1), some (vR x2), some (vR x3), some (vR x4), some (vR x5), some (vR x6), some (vR x7), some (vR x8), none, some (vI x10), some (vI x11), none, some (vI x13), none, none, none, none] [vI t0] h := by
  intro x0 x1 x2 x3 x4 x5 x6 x7 x8 x10 x11 x13 t0 h hw
  unfold w_Lw_law_233 at hw
  refine tq_istore (ls' := [some (vR x0), some (vR x1), some (vR x2), some (vR x3), some (vR x4), some (vR x5), some (vR x6), some (vR x7), some (vR x8), none, some (vI x10), some (vI x11), none, some (vI x13), some (vI t0), none, none, none]) dLw_law_233 (Nat.le_of_ble_eq_true rfl) rfl ?_
  refine tq_iload dLw_law_235 rfl ?_
  refine tq_bipush (v := (12 : Int32)) dLw_law_237 tnb_12 ?_
  refine tq_icmpge (tgt := 257) dLw_law_239 (by decide) (fun c1 => ?_) (fun c1 => ?_)
  · have hw := hw.1 c1
    refine tq_iload dLw_law_257 rfl ?_
    refine tq_bipush (v := (16 : Int32)) dLw_law_259 tnb_16 ?_
    refine tq_icmpge (tgt := 309) dLw_law_261 (by decide) (fun c2 => ?_) (fun c2 => ?_)
    · have hw := hw.1 c2
      refine tq_iload dLw_law_309 rfl ?_
      refine tq_bipush (v := (16 : Int32)) dLw_law_311 tnb_16 ?_
      refine tq_icmpne (tgt := 364) dLw_law_313 (by decide) (fun c3 => ?_) (fun c3 => ?_)
      · have hw := hw.1 c3
        refine tpR.fo (ls' := [some (vR x0), some (vR x1), some (vR x2), some (vR x3), some (vR x4), some (vR x5), some (vR x6), some (vR x7), some (vR x8), none, some (vI x10), some (vI x11), none, some (vI x13), some (vI t0), none, none, none]) ?_ (And.intro rfl (And.intro rfl (And.intro rfl (And.intro rfl (And.intro rfl (And.intro rfl (And.intro rfl (And.intro rfl (And.intro rfl (And.intro rfl (And.intro rfl (And.intro rfl (And.intro rfl trivial)))))))))))))
        exact s_Lw_law_364 k107 _ _ _ _ _ _ _ _ _ _ _ _ _ _ hw
      · have hw := hw.2 c3
        refine tq_aload_n dLw_law_316 rfl rfl ?_
        refine tq_iconst (v := (1 : Int32)) dLw_law_317 tni_1 ?_
        obtain ⟨a4, e5, f6, hw⟩ := hw
        obtain ⟨f7, hw⟩ := hw
        refine te_iald dLw_law_318 e5 (Or.inl f6) f7 ?_
        refine tq_ifle (tgt := 364) dLw_law_319 (by decide) (fun c8 => ?_) (fun c8 => ?_)
        · have hw := hw.1 c8
          refine tpR.fo (ls' := [some (vR x0), some (vR x1), some (vR x2), some (vR x3), some (vR x4), some (vR x5), some (vR x6), some (vR x7), some (vR x8), none, some (vI x10), some (vI x11), none, some (vI x13), some (vI t0), none, none, none]) ?_ (And.intro rfl (And.intro rfl (And.intro rfl (And.intro rfl (And.intro rfl (And.intro rfl (And.intro rfl (And.intro rfl (And.intro rfl (And.intro rfl (And.intro rfl (And.intro rfl (And.intro rfl trivial)))))))))))))
          exact s_Lw_law_364 k107 _ _ _ _ _ _ _ _ _ _ _ _ _ _ hw
        · have hw := hw.2 c8
          refine tq_iload dLw_law_322 rfl ?_
          refine tq_aload_n dLw_law_324 rfl rfl ?_
          refine tq_iconst (v := (1 : Int32)) dLw_law_325 tni_1 ?_
          obtain ⟨f9, hw⟩ := hw
          refine te_iald dLw_law_326 e5 (Or.inl f6) f9 ?_
          obtain ⟨f10, hw⟩ := hw
          refine tq_irem dLw_law_327 f10 ?_
          refine tq_istore (ls' := [some (vR x0), some (vR x1), some (vR x2), some (vR x3), some (vR x4), some (vR x5), some (vR x6), some (vR x7), some (vR x8), none, some (vI x10), some (vI x11), none, some (vI x13), some (vI t0), some (vI (t0 - t0 / (hI h a4 (1 : Int32).toNatClampNeg) * (hI h a4 (1 : Int32).toNatClampNeg))), none, none]) dLw_law_328 (Nat.le_of_ble_eq_true rfl) rfl ?_
          refine tq_aload_n dLw_law_330 rfl rfl ?_
          refine tq_iload dLw_law_331 rfl ?_
          refine tq_aload dLw_law_333 rfl ?_
          refine tq_callS ms_Lw_reads (dc := 8) (as := [vR x1, vI (t0 - t0 / (hI h a4 (1 : Int32).toNatClampNeg) * (hI h a4 (1 : Int32).toNatClampNeg)), vR x5]) (rest := []) kLw_82 (Nat.le_of_ble_eq_true rfl) (Nat.le_of_ble_eq_true rfl) rfl rfl (Nat.le_of_ble_eq_true rfl) dLw_law_335 (s_Lw_reads hw) (fun _ _ hx => False.elim hx) (tk_v fun h11 hw => ?_)
          refine tq_aload_n dLw_law_338 rfl rfl ?_
          refine tq_iconst (v := (1 : Int32)) dLw_law_339 tni_1 ?_
          refine tq_iload dLw_law_340 rfl ?_
          refine tq_iconst (v := (0 : Int32)) dLw_law_342 tni_0 ?_
          refine tq_iconst (v := (0 : Int32)) dLw_law_343 tni_0 ?_
          refine tq_callSX ms_Lw_does (by intro hz; cases hz) (dc := 10) (as := [vR x1, vI (1 : Int32), vI (t0 - t0 / (hI h a4 (1 : Int32).toNatClampNeg) * (hI h a4 (1 : Int32).toNatClampNeg)), vI (0 : Int32), vI (0 : Int32)]) (rest := []) kLw_135 (Nat.le_of_ble_eq_true rfl) (Nat.le_of_ble_eq_true rfl) rfl rfl (Nat.le_of_ble_eq_true rfl) dLw_law_344 (s_Lw_does hw) (fun _ _ hx => False.elim hx) (tk_i fun v13 h12 hw => ?_)
          refine tq_aload dLw_law_347 rfl ?_
          refine tq_iconst (v := (0 : Int32)) dLw_law_349 tni_0 ?_
          obtain ⟨a14, e15, f16, hw⟩ := hw
          obtain ⟨f17, hw⟩ := hw
          refine te_iald dLw_law_350 e15 (Or.inl f16) f17 ?_
          refine tq_icmpne (tgt := 358) dLw_law_351 (by decide) (fun c18 => ?_) (fun c18 => ?_)
          · have hw := hw.1 c18
            refine tq_iconst (v := (0 : Int32)) dLw_law_358 tni_0 ?_
            refine tq_istore (ls' := [some (vR x0), some (vR x1), some (vR x2), some (vR x3), some (vR x4), some (vR x5), some (vR x6), some (vR x7), some (vR x8), none, some (vI (0 : Int32)), some (vI x11), none, some (vI x13), some (vI t0), some (vI (t0 - t0 / (hI h a4 (1 : Int32).toNatClampNeg) * (hI h a4 (1 : Int32).toNatClampNeg))), none, none]) dLw_law_359 (Nat.le_of_ble_eq_true rfl) rfl ?_
            refine tq_goto (tgt := 545) dLw_law_361 (by decide) ?_
            refine tq_inc (k := (1 : Int32)) (ls' := [some (vR x0), some (vR x1), some (vR x2), some (vR x3), some (vR x4), some (vR x5), some (vR x6), some (vR x7), some (vR x8), none, some (vI (0 : Int32)), some (vI (x11 + (1 : Int32))), none, some (vI x13), some (vI t0), some (vI (t0 - t0 / (hI h a4 (1 : Int32).toNatClampNeg) * (hI h a4 (1 : Int32).toNatClampNeg))), none, none]) dLw_law_545 rfl tni_1 (Nat.le_of_ble_eq_true rfl) rfl ?_
            refine tq_goto (tgt := 107) dLw_law_548 (by decide) ?_
            refine tpR.fo (ls' := [some (vR x0), some (vR x1), some (vR x2), some (vR x3), some (vR x4), some (vR x5), some (vR x6), some (vR x7), some (vR x8), none, some (vI (0 : Int32)), some (vI (x11 + (1 : Int32))), none, none, none, none, none, none]) ?_ (And.intro rfl (And.intro rfl (And.intro rfl (And.intro rfl (And.intro rfl (And.intro rfl (And.intro rfl (And.intro rfl (And.intro rfl (And.intro rfl (And.intro rfl trivial)))))))))))
            exact k107 _ _ _ _ _ _ _ _ _ _ _ _ hw
          · have hw := hw.2 c18
            refine tq_iconst (v := (1 : Int32)) dLw_law_354 tni_1 ?_
            refine tq_goto (tgt := 359) dLw_law_355 (by decide) ?_
            refine tq_istore (ls' := [some (vR x0), some (vR x1), some (vR x2), some (vR x3), some (vR x4), some (vR x5), some (vR x6), some (vR x7), some (vR x8), none, some (vI (1 : Int32)), some (vI x11), none, some (vI x13), some (vI t0), some (vI (t0 - t0 / (hI h a4 (1 : Int32).toNatClampNeg) * (hI h a4 (1 : Int32).toNatClampNeg))), none, none]) dLw_law_359 (Nat.le_of_ble_eq_true rfl) rfl ?_
            refine tq_goto (tgt := 545) dLw_law_361 (by decide) ?_
            refine tq_inc (k := (1 : Int32)) (ls' := [some (vR x0), some (vR x1), some (vR x2), some (vR x3), some (vR x4), some (vR x5), some (vR x6), some (vR x7), some (vR x8), none, some (vI (1 : Int32)), some (vI (x11 + (1 : Int32))), none, some (vI x13), some (vI t0), some (vI (t0 - t0 / (hI h a4 (1 : Int32).toNatClampNeg) * (hI h a4 (1 : Int32).toNatClampNeg))), none, none]) dLw_law_545 rfl tni_1 (Nat.le_of_ble_eq_true rfl) rfl ?_
            refine tq_goto (tgt := 107) dLw_law_548 (by decide) ?_
            refine tpR.fo (ls' := [some (vR x0), some (vR x1), some (vR x2), some (vR x3), some (vR x4), some (vR x5), some (vR x6), some (vR x7), some (vR x8), none, some (vI (1 : Int32)), some (vI (x11 + (1 : Int32))), none, none, none, none, none, none]) ?_ (And.intro rfl (And.intro rfl (And.intro rfl (And.intro rfl (And.intro rfl (And.intro rfl (And.intro rfl (And.intro rfl (And.intro rfl (And.intro rfl (And.intro rfl trivial)))))))))))
            exact k107 _ _ _ _ _ _ _ _ _ _ _ _ hw
    · have hw := hw.2 c2
      refine tq_aload_n dLw_law_264 rfl rfl ?_
      refine tq_bipush (v := (6 : Int32)) dLw_law_265 tnb_6 ?_
      refine tq_iconst (v := (0 : Int32)) dLw_law_267 tni_0 ?_
      refine tq_iconst (v := (0 : Int32)) dLw_law_268 tni_0 ?_
      refine tq_iconst (v := (0 : Int32)) dLw_law_269 tni_0 ?_
      refine tq_callSX ms_Lw_does (by intro hz; cases hz) (dc := 10) (as := [vR x1, vI (6 : Int32), vI (0 : Int32), vI (0 : Int32), vI (0 : Int32)]) (rest := []) kLw_135 (Nat.le_of_ble_eq_true rfl) (Nat.le_of_ble_eq_true rfl) rfl rfl (Nat.le_of_ble_eq_true rfl) dLw_law_270 (s_Lw_does hw) (fun _ _ hx => False.elim hx) (tk_i fun v20 h19 hw => ?_)
      refine tq_aload_n dLw_law_273 rfl rfl ?_
      refine tq_iconst (v := (1 : Int32)) dLw_law_274 tni_1 ?_
      obtain ⟨a21, e22, f23, hw⟩ := hw
      obtain ⟨f24, hw⟩ := hw
      refine te_iald dLw_law_275 e22 (Or.inl f23) f24 ?_
      refine tq_icmpne (tgt := 296) dLw_law_276 (by decide) (fun c25 => ?_) (fun c25 => ?_)
      · have hw := hw.1 c25
        refine tq_iconst (v := (0 : Int32)) dLw_law_296 tni_0 ?_
        refine tpR.fo (ls' := [some (vR x0), some (vR x1), some (vR x2), some (vR x3), some (vR x4), some (vR x5), some (vR x6), some (vR x7), some (vR x8), none, none, some (vI x11), none, none, none, none, none, none]) ?_ (And.intro rfl (And.intro rfl (And.intro rfl (And.intro rfl (And.intro rfl (And.intro rfl (And.intro rfl (And.intro rfl (And.intro rfl (And.intro rfl trivial))))))))))
        exact s_Lw_law_297 k107 _ _ _ _ _ _ _ _ _ _ _ _ hw
      · have hw := hw.2 c25
        refine tq_aload_n dLw_law_279 rfl rfl ?_
        refine tq_aload_n dLw_law_280 rfl rfl ?_
        refine tq_iconst (v := (1 : Int32)) dLw_law_281 tni_1 ?_
        obtain ⟨f26, hw⟩ := hw
        refine te_iald dLw_law_282 e22 (Or.inl f23) f26 ?_
        refine tq_aload dLw_law_283 rfl ?_
        refine tq_aload_n dLw_law_285 rfl rfl ?_
        refine tq_callS ms_Lw_isTree (dc := 9) (as := [vR x1, vI (hI h19 a21 (1 : Int32).toNatClampNeg), vR x5, vR x2]) (rest := []) kLw_157 (Nat.le_of_ble_eq_true rfl) (Nat.le_of_ble_eq_true rfl) rfl rfl (Nat.le_of_ble_eq_true rfl) dLw_law_286 (s_Lw_isTree hw) (fun _ _ hx => False.elim hx) (tk_i fun v28 h27 hw => ?_)
        refine tq_ifeq (tgt := 296) dLw_law_289 (by decide) (fun c29 => ?_) (fun c29 => ?_)
        · have hw := hw.1 c29
          refine tq_iconst (v := (0 : Int32)) dLw_law_296 tni_0 ?_
          refine tpR.fo (ls' := [some (vR x0), some (vR x1), some (vR x2), some (vR x3), some (vR x4), some (vR x5), some (vR x6), some (vR x7), some (vR x8), none, none, some (vI x11), none, none, none, none, none, none]) ?_ (And.intro rfl (And.intro rfl (And.intro rfl (And.intro rfl (And.intro rfl (And.intro rfl (And.intro rfl (And.intro rfl (And.intro rfl (And.intro rfl trivial))))))))))
          exact s_Lw_law_297 k107 _ _ _ _ _ _ _ _ _ _ _ _ hw
        · have hw := hw.2 c29
          refine tq_iconst (v := (1 : Int32)) dLw_law_292 tni_1 ?_
          refine tq_goto (tgt := 297) dLw_law_293 (by decide) ?_
          refine tpR.fo (ls' := [some (vR x0), some (vR x1), some (vR x2), some (vR x3), some (vR x4), some (vR x5), some (vR x6), some (vR x7), some (vR x8), none, none, some (vI x11), none, none, none, none, none, none]) ?_ (And.intro rfl (And.intro rfl (And.intro rfl (And.intro rfl (And.intro rfl (And.intro rfl (And.intro rfl (And.intro rfl (And.intro rfl (And.intro rfl trivial))))))))))
          exact s_Lw_law_297 k107 _ _ _ _ _ _ _ _ _ _ _ _ hw
  · have hw := hw.2 c1
    refine tq_aload_n dLw_law_242 rfl rfl ?_
    refine tq_aload dLw_law_243 rfl ?_
    refine tq_aload_n dLw_law_245 rfl rfl ?_
    refine tq_aload_n dLw_law_246 rfl rfl ?_
    refine tq_iload dLw_law_247 rfl ?_
    refine tq_callS ms_Lw_isChanged (dc := 11) (as := [vR x1, vR x5, vR x2, vR x3, vI t0]) (rest := []) kLw_153 (Nat.le_of_ble_eq_true rfl) (Nat.le_of_ble_eq_true rfl) rfl rfl (Nat.le_of_ble_eq_true rfl) dLw_law_249 (s_Lw_isChanged hw) (fun _ _ hx => False.elim hx) (tk_i fun v31 h30 hw => ?_)
    refine tq_istore (ls' := [some (vR x0), some (vR x1), some (vR x2), some (vR x3), some (vR x4), some (vR x5), some (vR x6), some (vR x7), some (vR x8), none, some (vI v31), some (vI x11), none, some (vI x13), some (vI t0), none, none, none]) dLw_law_252 (Nat.le_of_ble_eq_true rfl) rfl ?_
    refine tq_goto (tgt := 545) dLw_law_254 (by decide) ?_
    refine tq_inc (k := (1 : Int32)) (ls' := [some (vR x0), some (vR x1), some (vR x2), some (vR x3), some (vR x4), some (vR x5), some (vR x6), some (vR x7), some (vR x8), none, some (vI v31), some (vI (x11 + (1 : Int32))), none, some (vI x13), some (vI t0), none, none, none]) dLw_law_545 rfl tni_1 (Nat.le_of_ble_eq_true rfl) rfl ?_
    refine tq_goto (tgt := 107) dLw_law_548 (by decide) ?_
    refine tpR.fo (ls' := [some (vR x0), some (vR x1), some (vR x2), some (vR x3), some (vR x4), some (vR x5), some (vR x6), some (vR x7), some (vR x8), none, some (vI v31), some (vI (x11 + (1 : Int32))), none, none, none, none, none, none]) ?_ (And.intro rfl (And.intro rfl (And.intro rfl (And.intro rfl (And.intro rfl (And.intro rfl (And.intro rfl (And.intro rfl (And.intro rfl (And.intro rfl (And.intro rfl trivial)))))))))))
    exact k107 _ _ _ _ _ _ _ _ _ _ _ _ hw
theorem s_Lw_law_195 {h0 : tpH} {av : List tpV} {R : Int32 → tpH → Prop} {K107 : (Option Nat) → (Option Nat) → (Option Nat) → (Option Nat) → (Option Nat) → (Option Nat) → (Option Nat) → (Option Nat) → (Option Nat) → Int32 → Int32 → tpH → Prop} (k107 : ∀ (x0 : Option Nat) (x1 : Option Nat) (x2 : Option Nat) (x3 : Option Nat) (x4 : Option Nat) (x5 : Option Nat) (x6 : Option Nat) (x7 : Option Nat) (x8 : Option Nat) (x10 : Int32) (x11 : Int32) (h : tpH), K107 x0 x1 x2 x3 x4 x5 x6 x7 x8 x10 x11 h → tpR Lw_main 12 h0 av (tpOi R (fun _ _ => False)) 107 [some (vR x0), some (vR x1), some (vR x2), some (vR x3), some (vR x4), some (vR x5), some (vR x6), some (vR x7), some (vR x8), none, some (vI x10), some (vI x11), none, none, none, none, none, none] [] h) : ∀ (x0 : Option Nat) (x1 : Option Nat) (x2 : Option Nat) (x3 : Option Nat) (x4 : Option Nat) (x5 : Option Nat) (x6 : Option Nat) (x7 : Option Nat) (x8 : Option Nat) (x10 : Int32) (x11 : Int32) (x12 : Int32) (t0 : Int32) (h : tpH), w_Lw_law_195 R (fun _ _ => False) K107 x0 x1 x2 x3 x4 x5 x6 x7 x8 x10 x11 x12 t0 h → tpR Lw_main 12 h0 av (tpOi R (fun _ _ => False)) 195 [some (vR x0), some (vR x1), some (vR x2), some (vR x3), some (vR x4), some (vR x5), some (vR x6), some (vR x7), some (vR x8), none, some (vI x10), some (vI x11), some (vI x12), none, none, none, none, none] [vI t0] h := by
  intro x0 x1 x2 x3 x4 x5 x6 x7 x8 x10 x11 x12 t0 h hw
  unfold w_Lw_law_195 at hw
  refine tq_istore (ls' := [some (vR x0), some (vR x1), some (vR x2), some (vR x3), some (vR x4), some (vR x5), some (vR x6), some (vR x7), some (vR x8), none, some (vI x10), some (vI x11), some (vI x12), some (vI t0), none, none, none, none]) dLw_law_195 (Nat.le_of_ble_eq_true rfl) rfl ?_
  refine tq_iload dLw_law_197 rfl ?_
  refine tq_bipush (v := (9 : Int32)) dLw_law_199 tnb_9 ?_
  refine tq_icmpge (tgt := 228) dLw_law_201 (by decide) (fun c1 => ?_) (fun c1 => ?_)
  · have hw := hw.1 c1
    refine tq_iload dLw_law_228 rfl ?_
    refine tq_bipush (v := (22 : Int32)) dLw_law_230 tnb_22 ?_
    refine tq_idiv dLw_law_232 (by decide) ?_
    refine tpR.fo (ls' := [some (vR x0), some (vR x1), some (vR x2), some (vR x3), some (vR x4), some (vR x5), some (vR x6), some (vR x7), some (vR x8), none, some (vI x10), some (vI x11), none, some (vI t0), none, none, none, none]) ?_ (And.intro rfl (And.intro rfl (And.intro rfl (And.intro rfl (And.intro rfl (And.intro rfl (And.intro rfl (And.intro rfl (And.intro rfl (And.intro rfl (And.intro rfl (And.intro rfl trivial))))))))))))
    exact s_Lw_law_233 k107 _ _ _ _ _ _ _ _ _ _ _ _ _ _ hw
  · have hw := hw.2 c1
    refine tq_iload dLw_law_204 rfl ?_
    refine tq_sipush (v := (576 : Int32)) dLw_law_206 tns_576 ?_
    refine tq_irem dLw_law_209 (by decide) ?_
    refine tq_sipush (v := (4608 : Int32)) dLw_law_210 tns_4608 ?_
    refine tq_iload dLw_law_213 rfl ?_
    refine tq_sipush (v := (576 : Int32)) dLw_law_215 tns_576 ?_
    refine tq_idiv dLw_law_218 (by decide) ?_
    refine tq_sipush (v := (400 : Int32)) dLw_law_219 tns_400 ?_
    refine tq_irem dLw_law_222 (by decide) ?_
    refine tq_imul dLw_law_223 ?_
    refine tq_iadd dLw_law_224 ?_
    refine tq_goto (tgt := 233) dLw_law_225 (by decide) ?_
    refine tpR.fo (ls' := [some (vR x0), some (vR x1), some (vR x2), some (vR x3), some (vR x4), some (vR x5), some (vR x6), some (vR x7), some (vR x8), none, some (vI x10), some (vI x11), none, some (vI t0), none, none, none, none]) ?_ (And.intro rfl (And.intro rfl (And.intro rfl (And.intro rfl (And.intro rfl (And.intro rfl (And.intro rfl (And.intro rfl (And.intro rfl (And.intro rfl (And.intro rfl (And.intro rfl trivial))))))))))))
    exact s_Lw_law_233 k107 _ _ _ _ _ _ _ _ _ _ _ _ _ _ hw
theorem s_Lw_law_165 {h0 : tpH} {av : List tpV} {R : Int32 → tpH → Prop} {K107 : (Option Nat) → (Option Nat) → (Option Nat) → (Option Nat) → (Option Nat) → (Option Nat) → (Option Nat) → (Option Nat) → (Option Nat) → Int32 → Int32 → tpH → Prop} (k107 : ∀ (x0 : Option Nat) (x1 : Option Nat) (x2 : Option Nat) (x3 : Option Nat) (x4 : Option Nat) (x5 : Option Nat) (x6 : Option Nat) (x7 : Option Nat) (x8 : Option Nat) (x10 : Int32) (x11 : Int32) (h : tpH), K107 x0 x1 x2 x3 x4 x5 x6 x7 x8 x10 x11 h → tpR Lw_main 12 h0 av (tpOi R (fun _ _ => False)) 107 [some (vR x0), some (vR x1), some (vR x2), some (vR x3), some (vR x4), some (vR x5), some (vR x6), some (vR x7), some (vR x8), none, some (vI x10), some (vI x11), none, none, none, none, none, none] [] h) : ∀ (x0 : Option Nat) (x1 : Option Nat) (x2 : Option Nat) (x3 : Option Nat) (x4 : Option Nat) (x5 : Option Nat) (x6 : Option Nat) (x7 : Option Nat) (x8 : Option Nat) (x10 : Int32) (x11 : Int32) (t0 : Int32) (h : tpH), w_Lw_law_165 R (fun _ _ => False) K107 x0 x1 x2 x3 x4 x5 x6 x7 x8 x10 x11 t0 h → tpR Lw_main 12 h0 av (tpOi R (fun _ _ => False)) 165 [some (vR x0), some (vR x1), some (vR x2), some (vR x3), some (vR x4), some (vR x5), some (vR x6), some (vR x7), some (vR x8), none, some (vI x10), some (vI x11), none, none, none, none, none, none] [vI t0] h := by
  intro x0 x1 x2 x3 x4 x5 x6 x7 x8 x10 x11 t0 h hw
  unfold w_Lw_law_165 at hw
  refine tq_istore (ls' := [some (vR x0), some (vR x1), some (vR x2), some (vR x3), some (vR x4), some (vR x5), some (vR x6), some (vR x7), some (vR x8), none, some (vI x10), some (vI x11), some (vI t0), none, none, none, none, none]) dLw_law_165 (Nat.le_of_ble_eq_true rfl) rfl ?_
  refine tq_iload dLw_law_167 rfl ?_
  refine tq_bipush (v := (9 : Int32)) dLw_law_169 tnb_9 ?_
  refine tq_icmpge (tgt := 178) dLw_law_171 (by decide) (fun c1 => ?_) (fun c1 => ?_)
  · have hw := hw.1 c1
    refine tq_iload dLw_law_178 rfl ?_
    refine tq_bipush (v := (9 : Int32)) dLw_law_180 tnb_9 ?_
    refine tq_icmpne (tgt := 190) dLw_law_182 (by decide) (fun c2 => ?_) (fun c2 => ?_)
    · have hw := hw.1 c2
      refine tq_iload dLw_law_190 rfl ?_
      refine tq_bipush (v := (22 : Int32)) dLw_law_192 tnb_22 ?_
      refine tq_irem dLw_law_194 (by decide) ?_
      refine tpR.fo (ls' := [some (vR x0), some (vR x1), some (vR x2), some (vR x3), some (vR x4), some (vR x5), some (vR x6), some (vR x7), some (vR x8), none, some (vI x10), some (vI x11), some (vI t0), none, none, none, none, none]) ?_ (And.intro rfl (And.intro rfl (And.intro rfl (And.intro rfl (And.intro rfl (And.intro rfl (And.intro rfl (And.intro rfl (And.intro rfl (And.intro rfl (And.intro rfl (And.intro rfl trivial))))))))))))
      exact s_Lw_law_195 k107 _ _ _ _ _ _ _ _ _ _ _ _ _ _ hw
    · have hw := hw.2 c2
      refine tq_bipush (v := (12 : Int32)) dLw_law_185 tnb_12 ?_
      refine tq_goto (tgt := 195) dLw_law_187 (by decide) ?_
      refine tpR.fo (ls' := [some (vR x0), some (vR x1), some (vR x2), some (vR x3), some (vR x4), some (vR x5), some (vR x6), some (vR x7), some (vR x8), none, some (vI x10), some (vI x11), some (vI t0), none, none, none, none, none]) ?_ (And.intro rfl (And.intro rfl (And.intro rfl (And.intro rfl (And.intro rfl (And.intro rfl (And.intro rfl (And.intro rfl (And.intro rfl (And.intro rfl (And.intro rfl (And.intro rfl trivial))))))))))))
      exact s_Lw_law_195 k107 _ _ _ _ _ _ _ _ _ _ _ _ _ _ hw
  · have hw := hw.2 c1
    refine tq_iconst (v := (0 : Int32)) dLw_law_174 tni_0 ?_
    refine tq_goto (tgt := 195) dLw_law_175 (by decide) ?_
    refine tpR.fo (ls' := [some (vR x0), some (vR x1), some (vR x2), some (vR x3), some (vR x4), some (vR x5), some (vR x6), some (vR x7), some (vR x8), none, some (vI x10), some (vI x11), some (vI t0), none, none, none, none, none]) ?_ (And.intro rfl (And.intro rfl (And.intro rfl (And.intro rfl (And.intro rfl (And.intro rfl (And.intro rfl (And.intro rfl (And.intro rfl (And.intro rfl (And.intro rfl (And.intro rfl trivial))))))))))))
    exact s_Lw_law_195 k107 _ _ _ _ _ _ _ _ _ _ _ _ _ _ hw
theorem s_Lw_law_551 {h0 : tpH} {av : List tpV} {R : Int32 → tpH → Prop} : ∀ (x1 : Option Nat) (x3 : Option Nat) (x10 : Int32) (h : tpH), w_Lw_law_551 R (fun _ _ => False) x1 x3 x10 h → tpR Lw_main 12 h0 av (tpOi R (fun _ _ => False)) 551 [none, some (vR x1), none, some (vR x3), none, none, none, none, none, none, some (vI x10), none, none, none, none, none, none, none] [] h := by
  intro x1 x3 x10 h hw
  unfold w_Lw_law_551 at hw
  refine tq_iload dLw_law_551 rfl ?_
  refine tq_ifeq (tgt := 570) dLw_law_553 (by decide) (fun c1 => ?_) (fun c1 => ?_)
  · have hw := hw.1 c1
    refine tq_iconst (v := (0 : Int32)) dLw_law_570 tni_0 ?_
    exact tq_iret rfl (by decide) dLw_law_571 hw
  · have hw := hw.2 c1
    refine tq_aload_n dLw_law_556 rfl rfl ?_
    obtain ⟨a2, e3, f4, hw⟩ := hw
    refine te_callV mv_TP_trees (ci := 12) (dc := 0) (as := []) (rest := []) kLw_168 rfl (Nat.le_of_ble_eq_true rfl) (Nat.le_of_ble_eq_true rfl) rfl rfl e3 f4 (Nat.le_of_ble_eq_true rfl) dLw_law_557 (s_TP_trees hw) (fun _ _ hx => False.elim hx) (tk_i fun v6 h5 hw => ?_)
    refine tq_aload_n dLw_law_560 rfl rfl ?_
    refine tq_iconst (v := (1 : Int32)) dLw_law_561 tni_1 ?_
    obtain ⟨a7, e8, f9, hw⟩ := hw
    obtain ⟨f10, hw⟩ := hw
    refine te_iald dLw_law_562 e8 (Or.inl f9) f10 ?_
    refine tq_icmpne (tgt := 570) dLw_law_563 (by decide) (fun c11 => ?_) (fun c11 => ?_)
    · have hw := hw.1 c11
      refine tq_iconst (v := (0 : Int32)) dLw_law_570 tni_0 ?_
      exact tq_iret rfl (by decide) dLw_law_571 hw
    · have hw := hw.2 c11
      refine tq_iconst (v := (1 : Int32)) dLw_law_566 tni_1 ?_
      refine tq_goto (tgt := 571) dLw_law_567 (by decide) ?_
      exact tq_iret rfl (by decide) dLw_law_571 hw
theorem s_Lw_law_107 {h0 : tpH} {av : List tpV} {R : Int32 → tpH → Prop} : ∀ (n : Nat) (x0 : Option Nat) (x1 : Option Nat) (x2 : Option Nat) (x3 : Option Nat) (x4 : Option Nat) (x5 : Option Nat) (x6 : Option Nat) (x7 : Option Nat) (x8 : Option Nat) (x10 : Int32) (x11 : Int32) (h : tpH), w_Lw_law_107 R (fun _ _ => False) n x0 x1 x2 x3 x4 x5 x6 x7 x8 x10 x11 h → tpR Lw_main 12 h0 av (tpOi R (fun _ _ => False)) 107 [some (vR x0), some (vR x1), some (vR x2), some (vR x3), some (vR x4), some (vR x5), some (vR x6), some (vR x7), some (vR x8), none, some (vI x10), some (vI x11), none, none, none, none, none, none] [] h := by
  intro n
  induction n with
  | zero => intro x0 x1 x2 x3 x4 x5 x6 x7 x8 x10 x11 h hw; exact False.elim hw
  | succ n ih =>
    intro x0 x1 x2 x3 x4 x5 x6 x7 x8 x10 x11 h hw
    change b_Lw_law_107 R (fun _ _ => False) (w_Lw_law_107 R (fun _ _ => False) n) x0 x1 x2 x3 x4 x5 x6 x7 x8 x10 x11 h at hw
    unfold b_Lw_law_107 at hw
    refine tq_iload dLw_law_107 rfl ?_
    refine tq_bipush (v := (110 : Int32)) dLw_law_109 tnb_110 ?_
    refine tq_icmpge (tgt := 551) dLw_law_111 (by decide) (fun c1 => ?_) (fun c1 => ?_)
    · have hw := hw.1 c1
      refine tpR.fo (ls' := [none, some (vR x1), none, some (vR x3), none, none, none, none, none, none, some (vI x10), none, none, none, none, none, none, none]) ?_ (And.intro rfl (And.intro rfl (And.intro rfl trivial)))
      exact s_Lw_law_551 _ _ _ _ hw
    · have hw := hw.2 c1
      refine tq_iload dLw_law_114 rfl ?_
      refine tq_ifeq (tgt := 551) dLw_law_116 (by decide) (fun c2 => ?_) (fun c2 => ?_)
      · have hw := hw.1 c2
        refine tpR.fo (ls' := [none, some (vR x1), none, some (vR x3), none, none, none, none, none, none, some (vI x10), none, none, none, none, none, none, none]) ?_ (And.intro rfl (And.intro rfl (And.intro rfl trivial)))
        exact s_Lw_law_551 _ _ _ _ hw
      · have hw := hw.2 c2
        refine tq_aload_n dLw_law_119 rfl rfl ?_
        refine tq_iconst (v := (1 : Int32)) dLw_law_120 tni_1 ?_
        obtain ⟨a3, e4, f5, hw⟩ := hw
        obtain ⟨f6, hw⟩ := hw
        refine te_iald dLw_law_121 e4 (Or.inl f5) f6 ?_
        refine tq_bipush (v := (38 : Int32)) dLw_law_122 tnb_38 ?_
        refine tq_icmpge (tgt := 551) dLw_law_124 (by decide) (fun c7 => ?_) (fun c7 => ?_)
        · have hw := hw.1 c7
          refine tpR.fo (ls' := [none, some (vR x1), none, some (vR x3), none, none, none, none, none, none, some (vI x10), none, none, none, none, none, none, none]) ?_ (And.intro rfl (And.intro rfl (And.intro rfl trivial)))
          exact s_Lw_law_551 _ _ _ _ hw
        · have hw := hw.2 c7
          refine tq_iload dLw_law_127 rfl ?_
          refine tq_aload_n dLw_law_129 rfl rfl ?_
          obtain ⟨a8, e9, f10, hw⟩ := hw
          refine te_alen dLw_law_130 e9 (by rw [f10]; decide) ?_
          refine tq_icmpge (tgt := 144) dLw_law_131 (by decide) (fun c11 => ?_) (fun c11 => ?_)
          · have hw := hw.1 c11
            refine tq_ldci dLw_law_144 nLw_152 ?_
            refine tq_iload dLw_law_146 rfl ?_
            refine tq_imul dLw_law_148 ?_
            refine tq_iload dLw_law_149 rfl ?_
            refine tq_imul dLw_law_151 ?_
            refine tq_sipush (v := (8009 : Int32)) dLw_law_152 tns_8009 ?_
            refine tq_iload dLw_law_155 rfl ?_
            refine tq_imul dLw_law_157 ?_
            refine tq_iadd dLw_law_158 ?_
            refine tq_bipush (v := (37 : Int32)) dLw_law_159 tnb_37 ?_
            refine tq_iadd dLw_law_161 ?_
            refine tq_ldci dLw_law_162 nLw_151 ?_
            refine tq_iand dLw_law_164 ?_
            refine tpR.fo (ls' := [some (vR x0), some (vR x1), some (vR x2), some (vR x3), some (vR x4), some (vR x5), some (vR x6), some (vR x7), some (vR x8), none, some (vI x10), some (vI x11), none, none, none, none, none, none]) ?_ (And.intro rfl (And.intro rfl (And.intro rfl (And.intro rfl (And.intro rfl (And.intro rfl (And.intro rfl (And.intro rfl (And.intro rfl (And.intro rfl (And.intro rfl trivial)))))))))))
            exact s_Lw_law_165 ih _ _ _ _ _ _ _ _ _ _ _ _ _ hw
          · have hw := hw.2 c11
            refine tq_aload_n dLw_law_134 rfl rfl ?_
            refine tq_iload dLw_law_135 rfl ?_
            obtain ⟨f12, hw⟩ := hw
            refine te_iald dLw_law_137 e9 (Or.inr f10) f12 ?_
            refine tq_ldci dLw_law_138 nLw_151 ?_
            refine tq_iand dLw_law_140 ?_
            refine tq_goto (tgt := 165) dLw_law_141 (by decide) ?_
            refine tpR.fo (ls' := [some (vR x0), some (vR x1), some (vR x2), some (vR x3), some (vR x4), some (vR x5), some (vR x6), some (vR x7), some (vR x8), none, some (vI x10), some (vI x11), none, none, none, none, none, none]) ?_ (And.intro rfl (And.intro rfl (And.intro rfl (And.intro rfl (And.intro rfl (And.intro rfl (And.intro rfl (And.intro rfl (And.intro rfl (And.intro rfl (And.intro rfl trivial)))))))))))
            exact s_Lw_law_165 ih _ _ _ _ _ _ _ _ _ _ _ _ _ hw
theorem s_Lw_law_89 {h0 : tpH} {av : List tpV} {R : Int32 → tpH → Prop} : ∀ (x0 : Option Nat) (x1 : Option Nat) (x2 : Option Nat) (x3 : Option Nat) (x4 : Option Nat) (x5 : Option Nat) (x6 : Option Nat) (x7 : Option Nat) (x8 : Option Nat) (t0 : Int32) (h : tpH), w_Lw_law_89 R (fun _ _ => False) x0 x1 x2 x3 x4 x5 x6 x7 x8 t0 h → tpR Lw_main 12 h0 av (tpOi R (fun _ _ => False)) 89 [some (vR x0), some (vR x1), some (vR x2), some (vR x3), some (vR x4), some (vR x5), some (vR x6), some (vR x7), some (vR x8), none, none, none, none, none, none, none, none, none] [vI t0] h := by
  intro x0 x1 x2 x3 x4 x5 x6 x7 x8 t0 h hw
  unfold w_Lw_law_89 at hw
  refine tq_istore (ls' := [some (vR x0), some (vR x1), some (vR x2), some (vR x3), some (vR x4), some (vR x5), some (vR x6), some (vR x7), some (vR x8), none, some (vI t0), none, none, none, none, none, none, none]) dLw_law_89 (Nat.le_of_ble_eq_true rfl) rfl ?_
  refine tq_aload_n dLw_law_91 rfl rfl ?_
  refine tq_iconst (v := (0 : Int32)) dLw_law_92 tni_0 ?_
  refine tq_iconst (v := (1 : Int32)) dLw_law_93 tni_1 ?_
  obtain ⟨a1, e2, f3, hw⟩ := hw
  obtain ⟨f4, hw⟩ := hw
  refine te_iast dLw_law_94 e2 f3 f4 (fun h5 e6 => ?_)
  have hw := hw h5 e6
  refine tq_aload dLw_law_95 rfl ?_
  refine tq_iconst (v := (0 : Int32)) dLw_law_97 tni_0 ?_
  refine tq_sipush (v := (192 : Int32)) dLw_law_98 tns_192 ?_
  refine tq_callS ms_Lw_puts (dc := 0) (as := [vR x5, vI (0 : Int32), vI (192 : Int32)]) (rest := []) kLw_101 (Nat.le_of_ble_eq_true rfl) (Nat.le_of_ble_eq_true rfl) rfl rfl (Nat.le_of_ble_eq_true rfl) dLw_law_101 (s_Lw_puts hw) (fun _ _ hx => False.elim hx) (tk_v fun h7 hw => ?_)
  refine tq_iconst (v := (1 : Int32)) dLw_law_104 tni_1 ?_
  refine tq_istore (ls' := [some (vR x0), some (vR x1), some (vR x2), some (vR x3), some (vR x4), some (vR x5), some (vR x6), some (vR x7), some (vR x8), none, some (vI t0), some (vI (1 : Int32)), none, none, none, none, none, none]) dLw_law_105 (Nat.le_of_ble_eq_true rfl) rfl ?_
  refine tpR.fo (ls' := [some (vR x0), some (vR x1), some (vR x2), some (vR x3), some (vR x4), some (vR x5), some (vR x6), some (vR x7), some (vR x8), none, some (vI t0), some (vI (1 : Int32)), none, none, none, none, none, none]) ?_ (And.intro rfl (And.intro rfl (And.intro rfl (And.intro rfl (And.intro rfl (And.intro rfl (And.intro rfl (And.intro rfl (And.intro rfl (And.intro rfl (And.intro rfl trivial)))))))))))
  obtain ⟨n, hw⟩ := hw
  exact s_Lw_law_107 n _ _ _ _ _ _ _ _ _ _ _ _ hw
theorem s_Lw_law_62 {h0 : tpH} {av : List tpV} {R : Int32 → tpH → Prop} : ∀ (x0 : Option Nat) (x1 : Option Nat) (x2 : Option Nat) (x3 : Option Nat) (x4 : Option Nat) (x5 : Option Nat) (x6 : Option Nat) (x7 : Option Nat) (x8 : Option Nat) (t0 : Int32) (h : tpH), w_Lw_law_62 R (fun _ _ => False) x0 x1 x2 x3 x4 x5 x6 x7 x8 t0 h → tpR Lw_main 12 h0 av (tpOi R (fun _ _ => False)) 62 [some (vR x0), some (vR x1), some (vR x2), some (vR x3), some (vR x4), some (vR x5), some (vR x6), some (vR x7), some (vR x8), none, none, none, none, none, none, none, none, none] [vI t0] h := by
  intro x0 x1 x2 x3 x4 x5 x6 x7 x8 t0 h hw
  unfold w_Lw_law_62 at hw
  refine tq_istore (ls' := [some (vR x0), some (vR x1), some (vR x2), some (vR x3), some (vR x4), some (vR x5), some (vR x6), some (vR x7), some (vR x8), some (vI t0), none, none, none, none, none, none, none, none]) dLw_law_62 (Nat.le_of_ble_eq_true rfl) rfl ?_
  refine tq_aload_n dLw_law_64 rfl rfl ?_
  refine tq_iconst (v := (0 : Int32)) dLw_law_65 tni_0 ?_
  refine tq_iload dLw_law_66 rfl ?_
  refine tq_iconst (v := (4 : Int32)) dLw_law_68 tni_4 ?_
  refine tq_irem dLw_law_69 (by decide) ?_
  obtain ⟨a1, e2, f3, hw⟩ := hw
  obtain ⟨f4, hw⟩ := hw
  refine te_iast dLw_law_70 e2 f3 f4 (fun h5 e6 => ?_)
  have hw := hw h5 e6
  refine tq_aload_n dLw_law_71 rfl rfl ?_
  refine tq_iconst (v := (0 : Int32)) dLw_law_72 tni_0 ?_
  refine tq_aload_n dLw_law_73 rfl rfl ?_
  refine tq_iconst (v := (0 : Int32)) dLw_law_74 tni_0 ?_
  obtain ⟨f7, hw⟩ := hw
  refine te_iald dLw_law_75 e2 (Or.inl (by rw [e6]; exact f3)) f7 ?_
  refine tq_iconst (v := (3 : Int32)) dLw_law_76 tni_3 ?_
  refine tq_iconst (v := (-1 : Int32)) dLw_law_77 tni_m1 ?_
  refine tq_callSX ms_Lw_does (by intro hz; cases hz) (dc := 10) (as := [vR x1, vI (0 : Int32), vI (hI h5 a1 (0 : Int32).toNatClampNeg), vI (3 : Int32), vI (-1 : Int32)]) (rest := []) kLw_135 (Nat.le_of_ble_eq_true rfl) (Nat.le_of_ble_eq_true rfl) rfl rfl (Nat.le_of_ble_eq_true rfl) dLw_law_78 (s_Lw_does hw) (fun _ _ hx => False.elim hx) (tk_i fun v9 h8 hw => ?_)
  refine tq_ifne (tgt := 88) dLw_law_81 (by decide) (fun c10 => ?_) (fun c10 => ?_)
  · have hw := hw.1 c10
    refine tq_iconst (v := (0 : Int32)) dLw_law_88 tni_0 ?_
    refine tpR.fo (ls' := [some (vR x0), some (vR x1), some (vR x2), some (vR x3), some (vR x4), some (vR x5), some (vR x6), some (vR x7), some (vR x8), none, none, none, none, none, none, none, none, none]) ?_ (And.intro rfl (And.intro rfl (And.intro rfl (And.intro rfl (And.intro rfl (And.intro rfl (And.intro rfl (And.intro rfl (And.intro rfl trivial)))))))))
    exact s_Lw_law_89 _ _ _ _ _ _ _ _ _ _ _ hw
  · have hw := hw.2 c10
    refine tq_iconst (v := (1 : Int32)) dLw_law_84 tni_1 ?_
    refine tq_goto (tgt := 89) dLw_law_85 (by decide) ?_
    refine tpR.fo (ls' := [some (vR x0), some (vR x1), some (vR x2), some (vR x3), some (vR x4), some (vR x5), some (vR x6), some (vR x7), some (vR x8), none, none, none, none, none, none, none, none, none]) ?_ (And.intro rfl (And.intro rfl (And.intro rfl (And.intro rfl (And.intro rfl (And.intro rfl (And.intro rfl (And.intro rfl (And.intro rfl trivial)))))))))
    exact s_Lw_law_89 _ _ _ _ _ _ _ _ _ _ _ hw
theorem s_Lw_law {x0 : Option Nat} {h : tpH} {R : Int32 → tpH → Prop} (hw : w_Lw_law x0 h (fun _ _ => False) R) : tpR Lw_main 12 h [vR x0] (tpOi R (fun _ _ => False)) 0 [some (vR x0), none, none, none, none, none, none, none, none, none, none, none, none, none, none, none, none, none] [] h := by
  unfold w_Lw_law at hw
  refine tq_new (ci := 12) cLw_23 ti_12 rfl dLw_law_0 (fun a1 h2 e3 e4 => ?_)
  have hw := hw a1 h2 e3 e4
  refine tq_dup dLw_law_3 rfl ?_
  refine te_init mi_TP_init (dc := 3) (as := []) (rest := [vR (some a1)]) (Or.inl kLw_150) (Nat.le_of_ble_eq_true rfl) (Nat.le_of_ble_eq_true rfl) rfl rfl rfl (Nat.le_of_ble_eq_true rfl) dLw_law_4 (s_TP_init hw) (fun _ _ hx => hx) (tk_v fun h5 hw => ?_)
  refine tq_astore_n (ls' := [some (vR x0), some (vR (some a1)), none, none, none, none, none, none, none, none, none, none, none, none, none, none, none, none]) dLw_law_7 rfl (Nat.le_of_ble_eq_true rfl) rfl ?_
  refine tq_bipush (v := (40 : Int32)) dLw_law_8 tnb_40 ?_
  refine tq_newa tpN_int (N := 40) dLw_law_10 (by decide) (by decide) (Nat.le_of_ble_eq_true rfl) (fun a6 h7 e8 e9 => ?_)
  have hw := hw a6 h7 e8 e9
  refine tq_astore_n (ls' := [some (vR x0), some (vR (some a1)), some (vR (some a6)), none, none, none, none, none, none, none, none, none, none, none, none, none, none, none]) dLw_law_12 rfl (Nat.le_of_ble_eq_true rfl) rfl ?_
  refine tq_iconst (v := (2 : Int32)) dLw_law_13 tni_2 ?_
  refine tq_newa tpN_int (N := 2) dLw_law_14 (by decide) (by decide) (Nat.le_of_ble_eq_true rfl) (fun a10 h11 e12 e13 => ?_)
  have hw := hw a10 h11 e12 e13
  refine tq_astore_n (ls' := [some (vR x0), some (vR (some a1)), some (vR (some a6)), some (vR (some a10)), none, none, none, none, none, none, none, none, none, none, none, none, none, none]) dLw_law_16 rfl (Nat.le_of_ble_eq_true rfl) rfl ?_
  refine tq_bipush (v := (6 : Int32)) dLw_law_17 tnb_6 ?_
  refine tq_newa tpN_int (N := 6) dLw_law_19 (by decide) (by decide) (Nat.le_of_ble_eq_true rfl) (fun a14 h15 e16 e17 => ?_)
  have hw := hw a14 h15 e16 e17
  refine tq_astore (ls' := [some (vR x0), some (vR (some a1)), some (vR (some a6)), some (vR (some a10)), some (vR (some a14)), none, none, none, none, none, none, none, none, none, none, none, none, none]) dLw_law_21 (Nat.le_of_ble_eq_true rfl) rfl ?_
  refine tq_bipush (v := (41 : Int32)) dLw_law_23 tnb_41 ?_
  refine tq_newa tpN_int (N := 41) dLw_law_25 (by decide) (by decide) (Nat.le_of_ble_eq_true rfl) (fun a18 h19 e20 e21 => ?_)
  have hw := hw a18 h19 e20 e21
  refine tq_astore (ls' := [some (vR x0), some (vR (some a1)), some (vR (some a6)), some (vR (some a10)), some (vR (some a14)), some (vR (some a18)), none, none, none, none, none, none, none, none, none, none, none, none]) dLw_law_27 (Nat.le_of_ble_eq_true rfl) rfl ?_
  refine tq_bipush (v := (41 : Int32)) dLw_law_29 tnb_41 ?_
  refine tq_newa tpN_int (N := 41) dLw_law_31 (by decide) (by decide) (Nat.le_of_ble_eq_true rfl) (fun a22 h23 e24 e25 => ?_)
  have hw := hw a22 h23 e24 e25
  refine tq_astore (ls' := [some (vR x0), some (vR (some a1)), some (vR (some a6)), some (vR (some a10)), some (vR (some a14)), some (vR (some a18)), some (vR (some a22)), none, none, none, none, none, none, none, none, none, none, none]) dLw_law_33 (Nat.le_of_ble_eq_true rfl) rfl ?_
  refine tq_bipush (v := (41 : Int32)) dLw_law_35 tnb_41 ?_
  refine tq_newa tpN_int (N := 41) dLw_law_37 (by decide) (by decide) (Nat.le_of_ble_eq_true rfl) (fun a26 h27 e28 e29 => ?_)
  have hw := hw a26 h27 e28 e29
  refine tq_astore (ls' := [some (vR x0), some (vR (some a1)), some (vR (some a6)), some (vR (some a10)), some (vR (some a14)), some (vR (some a18)), some (vR (some a22)), some (vR (some a26)), none, none, none, none, none, none, none, none, none, none]) dLw_law_39 (Nat.le_of_ble_eq_true rfl) rfl ?_
  refine tq_bipush (v := (41 : Int32)) dLw_law_41 tnb_41 ?_
  refine tq_newa tpN_int (N := 41) dLw_law_43 (by decide) (by decide) (Nat.le_of_ble_eq_true rfl) (fun a30 h31 e32 e33 => ?_)
  have hw := hw a30 h31 e32 e33
  refine tq_astore (ls' := [some (vR x0), some (vR (some a1)), some (vR (some a6)), some (vR (some a10)), some (vR (some a14)), some (vR (some a18)), some (vR (some a22)), some (vR (some a26)), some (vR (some a30)), none, none, none, none, none, none, none, none, none]) dLw_law_45 (Nat.le_of_ble_eq_true rfl) rfl ?_
  refine tq_aload_n dLw_law_47 rfl rfl ?_
  obtain ⟨a34, e35, f36, hw⟩ := hw
  refine te_alen dLw_law_48 e35 (by rw [f36]; decide) ?_
  refine tq_ifle (tgt := 61) dLw_law_49 (by decide) (fun c37 => ?_) (fun c37 => ?_)
  · have hw := hw.1 c37
    refine tq_iconst (v := (0 : Int32)) dLw_law_61 tni_0 ?_
    refine tpR.fo (ls' := [some (vR x0), some (vR (some a1)), some (vR (some a6)), some (vR (some a10)), some (vR (some a14)), some (vR (some a18)), some (vR (some a22)), some (vR (some a26)), some (vR (some a30)), none, none, none, none, none, none, none, none, none]) ?_ (And.intro rfl (And.intro rfl (And.intro rfl (And.intro rfl (And.intro rfl (And.intro rfl (And.intro rfl (And.intro rfl (And.intro rfl trivial)))))))))
    exact s_Lw_law_62 _ _ _ _ _ _ _ _ _ _ _ hw
  · have hw := hw.2 c37
    refine tq_aload_n dLw_law_52 rfl rfl ?_
    refine tq_iconst (v := (0 : Int32)) dLw_law_53 tni_0 ?_
    obtain ⟨f38, hw⟩ := hw
    refine te_iald dLw_law_54 e35 (Or.inr f36) f38 ?_
    refine tq_ldci dLw_law_55 nLw_151 ?_
    refine tq_iand dLw_law_57 ?_
    refine tq_goto (tgt := 62) dLw_law_58 (by decide) ?_
    refine tpR.fo (ls' := [some (vR x0), some (vR (some a1)), some (vR (some a6)), some (vR (some a10)), some (vR (some a14)), some (vR (some a18)), some (vR (some a22)), some (vR (some a26)), some (vR (some a30)), none, none, none, none, none, none, none, none, none]) ?_ (And.intro rfl (And.intro rfl (And.intro rfl (And.intro rfl (And.intro rfl (And.intro rfl (And.intro rfl (And.intro rfl (And.intro rfl trivial)))))))))
    exact s_Lw_law_62 _ _ _ _ _ _ _ _ _ _ _ hw
