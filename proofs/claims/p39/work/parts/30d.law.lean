/-! TLaw.orders -/
theorem dLw_orders_0 : decode (mB Lw_orders) 0 = .ok (.bipush 40, 2) := by decide +kernel
theorem dLw_orders_2 : decode (mB Lw_orders) 2 = .ok (.newarray .int, 2) := by decide +kernel
theorem dLw_orders_4 : decode (mB Lw_orders) 4 = .ok (.astore 8, 2) := by decide +kernel
theorem dLw_orders_6 : decode (mB Lw_orders) 6 = .ok (.bipush 40, 2) := by decide +kernel
theorem dLw_orders_8 : decode (mB Lw_orders) 8 = .ok (.newarray .int, 2) := by decide +kernel
theorem dLw_orders_10 : decode (mB Lw_orders) 10 = .ok (.astore 9, 2) := by decide +kernel
theorem dLw_orders_12 : decode (mB Lw_orders) 12 = .ok (.bipush 41, 2) := by decide +kernel
theorem dLw_orders_14 : decode (mB Lw_orders) 14 = .ok (.newarray .int, 2) := by decide +kernel
theorem dLw_orders_16 : decode (mB Lw_orders) 16 = .ok (.astore 10, 2) := by decide +kernel
theorem dLw_orders_18 : decode (mB Lw_orders) 18 = .ok (.bipush 41, 2) := by decide +kernel
theorem dLw_orders_20 : decode (mB Lw_orders) 20 = .ok (.newarray .int, 2) := by decide +kernel
theorem dLw_orders_22 : decode (mB Lw_orders) 22 = .ok (.astore 11, 2) := by decide +kernel
theorem dLw_orders_24 : decode (mB Lw_orders) 24 = .ok (.bipush 41, 2) := by decide +kernel
theorem dLw_orders_26 : decode (mB Lw_orders) 26 = .ok (.newarray .int, 2) := by decide +kernel
theorem dLw_orders_28 : decode (mB Lw_orders) 28 = .ok (.astore 12, 2) := by decide +kernel
theorem dLw_orders_30 : decode (mB Lw_orders) 30 = .ok (.aload_n 0, 1) := by decide +kernel
theorem dLw_orders_31 : decode (mB Lw_orders) 31 = .ok (.iload 6, 2) := by decide +kernel
theorem dLw_orders_33 : decode (mB Lw_orders) 33 = .ok (.invokestatic 13, 3) := by decide +kernel
theorem dLw_orders_36 : decode (mB Lw_orders) 36 = .ok (.ifCond .ge 7, 3) := by decide +kernel
theorem dLw_orders_39 : decode (mB Lw_orders) 39 = .ok (.iconst 0, 1) := by decide +kernel
theorem dLw_orders_40 : decode (mB Lw_orders) 40 = .ok (.goto 13, 3) := by decide +kernel
theorem dLw_orders_43 : decode (mB Lw_orders) 43 = .ok (.aload_n 0, 1) := by decide +kernel
theorem dLw_orders_44 : decode (mB Lw_orders) 44 = .ok (.aload 4, 2) := by decide +kernel
theorem dLw_orders_46 : decode (mB Lw_orders) 46 = .ok (.iload 6, 2) := by decide +kernel
theorem dLw_orders_48 : decode (mB Lw_orders) 48 = .ok (.aload 8, 2) := by decide +kernel
theorem dLw_orders_50 : decode (mB Lw_orders) 50 = .ok (.invokestatic 36, 3) := by decide +kernel
theorem dLw_orders_53 : decode (mB Lw_orders) 53 = .ok (.istore 13, 2) := by decide +kernel
theorem dLw_orders_55 : decode (mB Lw_orders) 55 = .ok (.iconst 0, 1) := by decide +kernel
theorem dLw_orders_56 : decode (mB Lw_orders) 56 = .ok (.istore 14, 2) := by decide +kernel
theorem dLw_orders_58 : decode (mB Lw_orders) 58 = .ok (.iconst 0, 1) := by decide +kernel
theorem dLw_orders_59 : decode (mB Lw_orders) 59 = .ok (.istore 15, 2) := by decide +kernel
theorem dLw_orders_61 : decode (mB Lw_orders) 61 = .ok (.iload 15, 2) := by decide +kernel
theorem dLw_orders_63 : decode (mB Lw_orders) 63 = .ok (.iload 13, 2) := by decide +kernel
theorem dLw_orders_65 : decode (mB Lw_orders) 65 = .ok (.if_icmp .ge 36, 3) := by decide +kernel
theorem dLw_orders_68 : decode (mB Lw_orders) 68 = .ok (.aload_n 3, 1) := by decide +kernel
theorem dLw_orders_69 : decode (mB Lw_orders) 69 = .ok (.aload 8, 2) := by decide +kernel
theorem dLw_orders_71 : decode (mB Lw_orders) 71 = .ok (.iload 15, 2) := by decide +kernel
theorem dLw_orders_73 : decode (mB Lw_orders) 73 = .ok (.iaload, 1) := by decide +kernel
theorem dLw_orders_74 : decode (mB Lw_orders) 74 = .ok (.invokestatic 40, 3) := by decide +kernel
theorem dLw_orders_77 : decode (mB Lw_orders) 77 = .ok (.iload 6, 2) := by decide +kernel
theorem dLw_orders_79 : decode (mB Lw_orders) 79 = .ok (.if_icmp .ne 16, 3) := by decide +kernel
theorem dLw_orders_82 : decode (mB Lw_orders) 82 = .ok (.aload 9, 2) := by decide +kernel
theorem dLw_orders_84 : decode (mB Lw_orders) 84 = .ok (.iload 14, 2) := by decide +kernel
theorem dLw_orders_86 : decode (mB Lw_orders) 86 = .ok (.aload 8, 2) := by decide +kernel
theorem dLw_orders_88 : decode (mB Lw_orders) 88 = .ok (.iload 15, 2) := by decide +kernel
theorem dLw_orders_90 : decode (mB Lw_orders) 90 = .ok (.iaload, 1) := by decide +kernel
theorem dLw_orders_91 : decode (mB Lw_orders) 91 = .ok (.iastore, 1) := by decide +kernel
theorem dLw_orders_92 : decode (mB Lw_orders) 92 = .ok (.iinc 14 1, 3) := by decide +kernel
theorem dLw_orders_95 : decode (mB Lw_orders) 95 = .ok (.iinc 15 1, 3) := by decide +kernel
theorem dLw_orders_98 : decode (mB Lw_orders) 98 = .ok (.goto (-37), 3) := by decide +kernel
theorem dLw_orders_101 : decode (mB Lw_orders) 101 = .ok (.aload_n 1, 1) := by decide +kernel
theorem dLw_orders_102 : decode (mB Lw_orders) 102 = .ok (.aload 4, 2) := by decide +kernel
theorem dLw_orders_104 : decode (mB Lw_orders) 104 = .ok (.iload 6, 2) := by decide +kernel
theorem dLw_orders_106 : decode (mB Lw_orders) 106 = .ok (.aload 9, 2) := by decide +kernel
theorem dLw_orders_108 : decode (mB Lw_orders) 108 = .ok (.iload 14, 2) := by decide +kernel
theorem dLw_orders_110 : decode (mB Lw_orders) 110 = .ok (.aload 10, 2) := by decide +kernel
theorem dLw_orders_112 : decode (mB Lw_orders) 112 = .ok (.invokestatic 109, 3) := by decide +kernel
theorem dLw_orders_115 : decode (mB Lw_orders) 115 = .ok (.istore 15, 2) := by decide +kernel
theorem dLw_orders_117 : decode (mB Lw_orders) 117 = .ok (.aload_n 2, 1) := by decide +kernel
theorem dLw_orders_118 : decode (mB Lw_orders) 118 = .ok (.aload 4, 2) := by decide +kernel
theorem dLw_orders_120 : decode (mB Lw_orders) 120 = .ok (.iload 6, 2) := by decide +kernel
theorem dLw_orders_122 : decode (mB Lw_orders) 122 = .ok (.aload 9, 2) := by decide +kernel
theorem dLw_orders_124 : decode (mB Lw_orders) 124 = .ok (.iload 14, 2) := by decide +kernel
theorem dLw_orders_126 : decode (mB Lw_orders) 126 = .ok (.aload 11, 2) := by decide +kernel
theorem dLw_orders_128 : decode (mB Lw_orders) 128 = .ok (.invokestatic 109, 3) := by decide +kernel
theorem dLw_orders_131 : decode (mB Lw_orders) 131 = .ok (.istore 16, 2) := by decide +kernel
theorem dLw_orders_133 : decode (mB Lw_orders) 133 = .ok (.iconst 1, 1) := by decide +kernel
theorem dLw_orders_134 : decode (mB Lw_orders) 134 = .ok (.istore 17, 2) := by decide +kernel
theorem dLw_orders_136 : decode (mB Lw_orders) 136 = .ok (.iconst 0, 1) := by decide +kernel
theorem dLw_orders_137 : decode (mB Lw_orders) 137 = .ok (.istore 18, 2) := by decide +kernel
theorem dLw_orders_139 : decode (mB Lw_orders) 139 = .ok (.iload 18, 2) := by decide +kernel
theorem dLw_orders_141 : decode (mB Lw_orders) 141 = .ok (.bipush 40, 2) := by decide +kernel
theorem dLw_orders_143 : decode (mB Lw_orders) 143 = .ok (.if_icmp .ge 52, 3) := by decide +kernel
theorem dLw_orders_146 : decode (mB Lw_orders) 146 = .ok (.iload 17, 2) := by decide +kernel
theorem dLw_orders_148 : decode (mB Lw_orders) 148 = .ok (.ifCond .eq 38, 3) := by decide +kernel
theorem dLw_orders_151 : decode (mB Lw_orders) 151 = .ok (.iload 18, 2) := by decide +kernel
theorem dLw_orders_153 : decode (mB Lw_orders) 153 = .ok (.aload 10, 2) := by decide +kernel
theorem dLw_orders_155 : decode (mB Lw_orders) 155 = .ok (.iconst 0, 1) := by decide +kernel
theorem dLw_orders_156 : decode (mB Lw_orders) 156 = .ok (.iaload, 1) := by decide +kernel
theorem dLw_orders_157 : decode (mB Lw_orders) 157 = .ok (.if_icmp .le 12, 3) := by decide +kernel
theorem dLw_orders_160 : decode (mB Lw_orders) 160 = .ok (.iload 18, 2) := by decide +kernel
theorem dLw_orders_162 : decode (mB Lw_orders) 162 = .ok (.aload 11, 2) := by decide +kernel
theorem dLw_orders_164 : decode (mB Lw_orders) 164 = .ok (.iconst 0, 1) := by decide +kernel
theorem dLw_orders_165 : decode (mB Lw_orders) 165 = .ok (.iaload, 1) := by decide +kernel
theorem dLw_orders_166 : decode (mB Lw_orders) 166 = .ok (.if_icmp .gt 16, 3) := by decide +kernel
theorem dLw_orders_169 : decode (mB Lw_orders) 169 = .ok (.aload 10, 2) := by decide +kernel
theorem dLw_orders_171 : decode (mB Lw_orders) 171 = .ok (.iload 18, 2) := by decide +kernel
theorem dLw_orders_173 : decode (mB Lw_orders) 173 = .ok (.iaload, 1) := by decide +kernel
theorem dLw_orders_174 : decode (mB Lw_orders) 174 = .ok (.aload 11, 2) := by decide +kernel
theorem dLw_orders_176 : decode (mB Lw_orders) 176 = .ok (.iload 18, 2) := by decide +kernel
theorem dLw_orders_178 : decode (mB Lw_orders) 178 = .ok (.iaload, 1) := by decide +kernel
theorem dLw_orders_179 : decode (mB Lw_orders) 179 = .ok (.if_icmp .ne 7, 3) := by decide +kernel
theorem dLw_orders_182 : decode (mB Lw_orders) 182 = .ok (.iconst 1, 1) := by decide +kernel
theorem dLw_orders_183 : decode (mB Lw_orders) 183 = .ok (.goto 4, 3) := by decide +kernel
theorem dLw_orders_186 : decode (mB Lw_orders) 186 = .ok (.iconst 0, 1) := by decide +kernel
theorem dLw_orders_187 : decode (mB Lw_orders) 187 = .ok (.istore 17, 2) := by decide +kernel
theorem dLw_orders_189 : decode (mB Lw_orders) 189 = .ok (.iinc 18 1, 3) := by decide +kernel
theorem dLw_orders_192 : decode (mB Lw_orders) 192 = .ok (.goto (-53), 3) := by decide +kernel
theorem dLw_orders_195 : decode (mB Lw_orders) 195 = .ok (.iload 15, 2) := by decide +kernel
theorem dLw_orders_197 : decode (mB Lw_orders) 197 = .ok (.ifCond .eq 17, 3) := by decide +kernel
theorem dLw_orders_200 : decode (mB Lw_orders) 200 = .ok (.iload 16, 2) := by decide +kernel
theorem dLw_orders_202 : decode (mB Lw_orders) 202 = .ok (.ifCond .eq 12, 3) := by decide +kernel
theorem dLw_orders_205 : decode (mB Lw_orders) 205 = .ok (.iload 17, 2) := by decide +kernel
theorem dLw_orders_207 : decode (mB Lw_orders) 207 = .ok (.ifCond .ne 7, 3) := by decide +kernel
theorem dLw_orders_210 : decode (mB Lw_orders) 210 = .ok (.iconst 1, 1) := by decide +kernel
theorem dLw_orders_211 : decode (mB Lw_orders) 211 = .ok (.goto 4, 3) := by decide +kernel
theorem dLw_orders_214 : decode (mB Lw_orders) 214 = .ok (.iconst 0, 1) := by decide +kernel
theorem dLw_orders_215 : decode (mB Lw_orders) 215 = .ok (.istore 18, 2) := by decide +kernel
theorem dLw_orders_217 : decode (mB Lw_orders) 217 = .ok (.aload_n 0, 1) := by decide +kernel
theorem dLw_orders_218 : decode (mB Lw_orders) 218 = .ok (.aload 4, 2) := by decide +kernel
theorem dLw_orders_220 : decode (mB Lw_orders) 220 = .ok (.iload 6, 2) := by decide +kernel
theorem dLw_orders_222 : decode (mB Lw_orders) 222 = .ok (.aload 9, 2) := by decide +kernel
theorem dLw_orders_224 : decode (mB Lw_orders) 224 = .ok (.iload 14, 2) := by decide +kernel
theorem dLw_orders_226 : decode (mB Lw_orders) 226 = .ok (.aload 12, 2) := by decide +kernel
theorem dLw_orders_228 : decode (mB Lw_orders) 228 = .ok (.invokestatic 109, 3) := by decide +kernel
theorem dLw_orders_231 : decode (mB Lw_orders) 231 = .ok (.istore 19, 2) := by decide +kernel
theorem dLw_orders_233 : decode (mB Lw_orders) 233 = .ok (.aload 7, 2) := by decide +kernel
theorem dLw_orders_235 : decode (mB Lw_orders) 235 = .ok (.iconst 0, 1) := by decide +kernel
theorem dLw_orders_236 : decode (mB Lw_orders) 236 = .ok (.iconst 0, 1) := by decide +kernel
theorem dLw_orders_237 : decode (mB Lw_orders) 237 = .ok (.iastore, 1) := by decide +kernel
theorem dLw_orders_238 : decode (mB Lw_orders) 238 = .ok (.iload 18, 2) := by decide +kernel
theorem dLw_orders_240 : decode (mB Lw_orders) 240 = .ok (.ifCond .eq 10, 3) := by decide +kernel
theorem dLw_orders_243 : decode (mB Lw_orders) 243 = .ok (.aload 5, 2) := by decide +kernel
theorem dLw_orders_245 : decode (mB Lw_orders) 245 = .ok (.iconst 5, 1) := by decide +kernel
theorem dLw_orders_246 : decode (mB Lw_orders) 246 = .ok (.iaload, 1) := by decide +kernel
theorem dLw_orders_247 : decode (mB Lw_orders) 247 = .ok (.goto 13, 3) := by decide +kernel
theorem dLw_orders_250 : decode (mB Lw_orders) 250 = .ok (.iload 15, 2) := by decide +kernel
theorem dLw_orders_252 : decode (mB Lw_orders) 252 = .ok (.ifCond .eq 7, 3) := by decide +kernel
theorem dLw_orders_255 : decode (mB Lw_orders) 255 = .ok (.iconst 1, 1) := by decide +kernel
theorem dLw_orders_256 : decode (mB Lw_orders) 256 = .ok (.goto 4, 3) := by decide +kernel
theorem dLw_orders_259 : decode (mB Lw_orders) 259 = .ok (.iconst 2, 1) := by decide +kernel
theorem dLw_orders_260 : decode (mB Lw_orders) 260 = .ok (.istore 20, 2) := by decide +kernel
theorem dLw_orders_262 : decode (mB Lw_orders) 262 = .ok (.iconst 1, 1) := by decide +kernel
theorem dLw_orders_263 : decode (mB Lw_orders) 263 = .ok (.istore 21, 2) := by decide +kernel
theorem dLw_orders_265 : decode (mB Lw_orders) 265 = .ok (.iload 21, 2) := by decide +kernel
theorem dLw_orders_267 : decode (mB Lw_orders) 267 = .ok (.iload 20, 2) := by decide +kernel
theorem dLw_orders_269 : decode (mB Lw_orders) 269 = .ok (.ifCond .ne 10, 3) := by decide +kernel
theorem dLw_orders_272 : decode (mB Lw_orders) 272 = .ok (.aload 12, 2) := by decide +kernel
theorem dLw_orders_274 : decode (mB Lw_orders) 274 = .ok (.iconst 0, 1) := by decide +kernel
theorem dLw_orders_275 : decode (mB Lw_orders) 275 = .ok (.iaload, 1) := by decide +kernel
theorem dLw_orders_276 : decode (mB Lw_orders) 276 = .ok (.goto 20, 3) := by decide +kernel
theorem dLw_orders_279 : decode (mB Lw_orders) 279 = .ok (.iload 20, 2) := by decide +kernel
theorem dLw_orders_281 : decode (mB Lw_orders) 281 = .ok (.iconst 1, 1) := by decide +kernel
theorem dLw_orders_282 : decode (mB Lw_orders) 282 = .ok (.if_icmp .ne 10, 3) := by decide +kernel
theorem dLw_orders_285 : decode (mB Lw_orders) 285 = .ok (.aload 10, 2) := by decide +kernel
theorem dLw_orders_287 : decode (mB Lw_orders) 287 = .ok (.iconst 0, 1) := by decide +kernel
theorem dLw_orders_288 : decode (mB Lw_orders) 288 = .ok (.iaload, 1) := by decide +kernel
theorem dLw_orders_289 : decode (mB Lw_orders) 289 = .ok (.goto 7, 3) := by decide +kernel
theorem dLw_orders_292 : decode (mB Lw_orders) 292 = .ok (.aload 11, 2) := by decide +kernel
theorem dLw_orders_294 : decode (mB Lw_orders) 294 = .ok (.iconst 0, 1) := by decide +kernel
theorem dLw_orders_295 : decode (mB Lw_orders) 295 = .ok (.iaload, 1) := by decide +kernel
theorem dLw_orders_296 : decode (mB Lw_orders) 296 = .ok (.if_icmp .gt 54, 3) := by decide +kernel
theorem dLw_orders_299 : decode (mB Lw_orders) 299 = .ok (.aload 7, 2) := by decide +kernel
theorem dLw_orders_301 : decode (mB Lw_orders) 301 = .ok (.iconst 0, 1) := by decide +kernel
theorem dLw_orders_302 : decode (mB Lw_orders) 302 = .ok (.dup2, 1) := by decide +kernel
theorem dLw_orders_303 : decode (mB Lw_orders) 303 = .ok (.iaload, 1) := by decide +kernel
theorem dLw_orders_304 : decode (mB Lw_orders) 304 = .ok (.iconst 1, 1) := by decide +kernel
theorem dLw_orders_305 : decode (mB Lw_orders) 305 = .ok (.iadd, 1) := by decide +kernel
theorem dLw_orders_306 : decode (mB Lw_orders) 306 = .ok (.iastore, 1) := by decide +kernel
theorem dLw_orders_307 : decode (mB Lw_orders) 307 = .ok (.aload 7, 2) := by decide +kernel
theorem dLw_orders_309 : decode (mB Lw_orders) 309 = .ok (.iload 21, 2) := by decide +kernel
theorem dLw_orders_311 : decode (mB Lw_orders) 311 = .ok (.iload 20, 2) := by decide +kernel
theorem dLw_orders_313 : decode (mB Lw_orders) 313 = .ok (.ifCond .ne 11, 3) := by decide +kernel
theorem dLw_orders_316 : decode (mB Lw_orders) 316 = .ok (.aload 12, 2) := by decide +kernel
theorem dLw_orders_318 : decode (mB Lw_orders) 318 = .ok (.iload 21, 2) := by decide +kernel
theorem dLw_orders_320 : decode (mB Lw_orders) 320 = .ok (.iaload, 1) := by decide +kernel
theorem dLw_orders_321 : decode (mB Lw_orders) 321 = .ok (.goto 22, 3) := by decide +kernel
theorem dLw_orders_324 : decode (mB Lw_orders) 324 = .ok (.iload 20, 2) := by decide +kernel
theorem dLw_orders_326 : decode (mB Lw_orders) 326 = .ok (.iconst 1, 1) := by decide +kernel
theorem dLw_orders_327 : decode (mB Lw_orders) 327 = .ok (.if_icmp .ne 11, 3) := by decide +kernel
theorem dLw_orders_330 : decode (mB Lw_orders) 330 = .ok (.aload 10, 2) := by decide +kernel
theorem dLw_orders_332 : decode (mB Lw_orders) 332 = .ok (.iload 21, 2) := by decide +kernel
theorem dLw_orders_334 : decode (mB Lw_orders) 334 = .ok (.iaload, 1) := by decide +kernel
theorem dLw_orders_335 : decode (mB Lw_orders) 335 = .ok (.goto 8, 3) := by decide +kernel
theorem dLw_orders_338 : decode (mB Lw_orders) 338 = .ok (.aload 11, 2) := by decide +kernel
theorem dLw_orders_340 : decode (mB Lw_orders) 340 = .ok (.iload 21, 2) := by decide +kernel
theorem dLw_orders_342 : decode (mB Lw_orders) 342 = .ok (.iaload, 1) := by decide +kernel
theorem dLw_orders_343 : decode (mB Lw_orders) 343 = .ok (.iastore, 1) := by decide +kernel
theorem dLw_orders_344 : decode (mB Lw_orders) 344 = .ok (.iinc 21 1, 3) := by decide +kernel
theorem dLw_orders_347 : decode (mB Lw_orders) 347 = .ok (.goto (-82), 3) := by decide +kernel
theorem dLw_orders_350 : decode (mB Lw_orders) 350 = .ok (.iconst 0, 1) := by decide +kernel
theorem dLw_orders_351 : decode (mB Lw_orders) 351 = .ok (.istore 21, 2) := by decide +kernel
theorem dLw_orders_353 : decode (mB Lw_orders) 353 = .ok (.iload 21, 2) := by decide +kernel
theorem dLw_orders_355 : decode (mB Lw_orders) 355 = .ok (.iload 14, 2) := by decide +kernel
theorem dLw_orders_357 : decode (mB Lw_orders) 357 = .ok (.if_icmp .ge 85, 3) := by decide +kernel
theorem dLw_orders_360 : decode (mB Lw_orders) 360 = .ok (.iconst 0, 1) := by decide +kernel
theorem dLw_orders_361 : decode (mB Lw_orders) 361 = .ok (.istore 22, 2) := by decide +kernel
theorem dLw_orders_363 : decode (mB Lw_orders) 363 = .ok (.iconst 1, 1) := by decide +kernel
theorem dLw_orders_364 : decode (mB Lw_orders) 364 = .ok (.istore 23, 2) := by decide +kernel
theorem dLw_orders_366 : decode (mB Lw_orders) 366 = .ok (.iload 23, 2) := by decide +kernel
theorem dLw_orders_368 : decode (mB Lw_orders) 368 = .ok (.aload 7, 2) := by decide +kernel
theorem dLw_orders_370 : decode (mB Lw_orders) 370 = .ok (.iconst 0, 1) := by decide +kernel
theorem dLw_orders_371 : decode (mB Lw_orders) 371 = .ok (.iaload, 1) := by decide +kernel
theorem dLw_orders_372 : decode (mB Lw_orders) 372 = .ok (.if_icmp .gt 34, 3) := by decide +kernel
theorem dLw_orders_375 : decode (mB Lw_orders) 375 = .ok (.iload 22, 2) := by decide +kernel
theorem dLw_orders_377 : decode (mB Lw_orders) 377 = .ok (.ifCond .ne 16, 3) := by decide +kernel
theorem dLw_orders_380 : decode (mB Lw_orders) 380 = .ok (.aload 7, 2) := by decide +kernel
theorem dLw_orders_382 : decode (mB Lw_orders) 382 = .ok (.iload 23, 2) := by decide +kernel
theorem dLw_orders_384 : decode (mB Lw_orders) 384 = .ok (.iaload, 1) := by decide +kernel
theorem dLw_orders_385 : decode (mB Lw_orders) 385 = .ok (.aload 9, 2) := by decide +kernel
theorem dLw_orders_387 : decode (mB Lw_orders) 387 = .ok (.iload 21, 2) := by decide +kernel
theorem dLw_orders_389 : decode (mB Lw_orders) 389 = .ok (.iaload, 1) := by decide +kernel
theorem dLw_orders_390 : decode (mB Lw_orders) 390 = .ok (.if_icmp .ne 7, 3) := by decide +kernel
theorem dLw_orders_393 : decode (mB Lw_orders) 393 = .ok (.iconst 1, 1) := by decide +kernel
theorem dLw_orders_394 : decode (mB Lw_orders) 394 = .ok (.goto 4, 3) := by decide +kernel
theorem dLw_orders_397 : decode (mB Lw_orders) 397 = .ok (.iconst 0, 1) := by decide +kernel
theorem dLw_orders_398 : decode (mB Lw_orders) 398 = .ok (.istore 22, 2) := by decide +kernel
theorem dLw_orders_400 : decode (mB Lw_orders) 400 = .ok (.iinc 23 1, 3) := by decide +kernel
theorem dLw_orders_403 : decode (mB Lw_orders) 403 = .ok (.goto (-37), 3) := by decide +kernel
theorem dLw_orders_406 : decode (mB Lw_orders) 406 = .ok (.iload 22, 2) := by decide +kernel
theorem dLw_orders_408 : decode (mB Lw_orders) 408 = .ok (.ifCond .ne 28, 3) := by decide +kernel
theorem dLw_orders_411 : decode (mB Lw_orders) 411 = .ok (.aload 7, 2) := by decide +kernel
theorem dLw_orders_413 : decode (mB Lw_orders) 413 = .ok (.aload 9, 2) := by decide +kernel
theorem dLw_orders_415 : decode (mB Lw_orders) 415 = .ok (.iload 21, 2) := by decide +kernel
theorem dLw_orders_417 : decode (mB Lw_orders) 417 = .ok (.iaload, 1) := by decide +kernel
theorem dLw_orders_418 : decode (mB Lw_orders) 418 = .ok (.aload_n 0, 1) := by decide +kernel
theorem dLw_orders_419 : decode (mB Lw_orders) 419 = .ok (.aload 4, 2) := by decide +kernel
theorem dLw_orders_421 : decode (mB Lw_orders) 421 = .ok (.iload 6, 2) := by decide +kernel
theorem dLw_orders_423 : decode (mB Lw_orders) 423 = .ok (.aload 9, 2) := by decide +kernel
theorem dLw_orders_425 : decode (mB Lw_orders) 425 = .ok (.iload 21, 2) := by decide +kernel
theorem dLw_orders_427 : decode (mB Lw_orders) 427 = .ok (.iaload, 1) := by decide +kernel
theorem dLw_orders_428 : decode (mB Lw_orders) 428 = .ok (.aload 7, 2) := by decide +kernel
theorem dLw_orders_430 : decode (mB Lw_orders) 430 = .ok (.invokestatic 113, 3) := by decide +kernel
theorem dLw_orders_433 : decode (mB Lw_orders) 433 = .ok (.invokestatic 117, 3) := by decide +kernel
theorem dLw_orders_436 : decode (mB Lw_orders) 436 = .ok (.iinc 21 1, 3) := by decide +kernel
theorem dLw_orders_439 : decode (mB Lw_orders) 439 = .ok (.goto (-86), 3) := by decide +kernel
theorem dLw_orders_442 : decode (mB Lw_orders) 442 = .ok (.iconst 0, 1) := by decide +kernel
theorem dLw_orders_443 : decode (mB Lw_orders) 443 = .ok (.istore 21, 2) := by decide +kernel
theorem dLw_orders_445 : decode (mB Lw_orders) 445 = .ok (.iload 21, 2) := by decide +kernel
theorem dLw_orders_447 : decode (mB Lw_orders) 447 = .ok (.bipush 40, 2) := by decide +kernel
theorem dLw_orders_449 : decode (mB Lw_orders) 449 = .ok (.if_icmp .ge 113, 3) := by decide +kernel
theorem dLw_orders_452 : decode (mB Lw_orders) 452 = .ok (.aload_n 3, 1) := by decide +kernel
theorem dLw_orders_453 : decode (mB Lw_orders) 453 = .ok (.iload 21, 2) := by decide +kernel
theorem dLw_orders_455 : decode (mB Lw_orders) 455 = .ok (.invokestatic 40, 3) := by decide +kernel
theorem dLw_orders_458 : decode (mB Lw_orders) 458 = .ok (.iload 6, 2) := by decide +kernel
theorem dLw_orders_460 : decode (mB Lw_orders) 460 = .ok (.if_icmp .ne 96, 3) := by decide +kernel
theorem dLw_orders_463 : decode (mB Lw_orders) 463 = .ok (.aload 9, 2) := by decide +kernel
theorem dLw_orders_465 : decode (mB Lw_orders) 465 = .ok (.iload 14, 2) := by decide +kernel
theorem dLw_orders_467 : decode (mB Lw_orders) 467 = .ok (.iload 21, 2) := by decide +kernel
theorem dLw_orders_469 : decode (mB Lw_orders) 469 = .ok (.invokestatic 105, 3) := by decide +kernel
theorem dLw_orders_472 : decode (mB Lw_orders) 472 = .ok (.ifCond .ge 84, 3) := by decide +kernel
theorem dLw_orders_475 : decode (mB Lw_orders) 475 = .ok (.aload_n 1, 1) := by decide +kernel
theorem dLw_orders_476 : decode (mB Lw_orders) 476 = .ok (.iload 21, 2) := by decide +kernel
theorem dLw_orders_478 : decode (mB Lw_orders) 478 = .ok (.invokestatic 40, 3) := by decide +kernel
theorem dLw_orders_481 : decode (mB Lw_orders) 481 = .ok (.iload 6, 2) := by decide +kernel
theorem dLw_orders_483 : decode (mB Lw_orders) 483 = .ok (.if_icmp .ne 18, 3) := by decide +kernel
theorem dLw_orders_486 : decode (mB Lw_orders) 486 = .ok (.aload_n 1, 1) := by decide +kernel
theorem dLw_orders_487 : decode (mB Lw_orders) 487 = .ok (.aload 4, 2) := by decide +kernel
theorem dLw_orders_489 : decode (mB Lw_orders) 489 = .ok (.iload 6, 2) := by decide +kernel
theorem dLw_orders_491 : decode (mB Lw_orders) 491 = .ok (.iload 21, 2) := by decide +kernel
theorem dLw_orders_493 : decode (mB Lw_orders) 493 = .ok (.aload 7, 2) := by decide +kernel
theorem dLw_orders_495 : decode (mB Lw_orders) 495 = .ok (.invokestatic 113, 3) := by decide +kernel
theorem dLw_orders_498 : decode (mB Lw_orders) 498 = .ok (.goto 5, 3) := by decide +kernel
theorem dLw_orders_501 : decode (mB Lw_orders) 501 = .ok (.bipush 99, 2) := by decide +kernel
theorem dLw_orders_503 : decode (mB Lw_orders) 503 = .ok (.istore 22, 2) := by decide +kernel
theorem dLw_orders_505 : decode (mB Lw_orders) 505 = .ok (.aload_n 2, 1) := by decide +kernel
theorem dLw_orders_506 : decode (mB Lw_orders) 506 = .ok (.iload 21, 2) := by decide +kernel
theorem dLw_orders_508 : decode (mB Lw_orders) 508 = .ok (.invokestatic 40, 3) := by decide +kernel
theorem dLw_orders_511 : decode (mB Lw_orders) 511 = .ok (.iload 6, 2) := by decide +kernel
theorem dLw_orders_513 : decode (mB Lw_orders) 513 = .ok (.if_icmp .ne 18, 3) := by decide +kernel
theorem dLw_orders_516 : decode (mB Lw_orders) 516 = .ok (.aload_n 2, 1) := by decide +kernel
theorem dLw_orders_517 : decode (mB Lw_orders) 517 = .ok (.aload 4, 2) := by decide +kernel
theorem dLw_orders_519 : decode (mB Lw_orders) 519 = .ok (.iload 6, 2) := by decide +kernel
theorem dLw_orders_521 : decode (mB Lw_orders) 521 = .ok (.iload 21, 2) := by decide +kernel
theorem dLw_orders_523 : decode (mB Lw_orders) 523 = .ok (.aload 7, 2) := by decide +kernel
theorem dLw_orders_525 : decode (mB Lw_orders) 525 = .ok (.invokestatic 113, 3) := by decide +kernel
theorem dLw_orders_528 : decode (mB Lw_orders) 528 = .ok (.goto 5, 3) := by decide +kernel
theorem dLw_orders_531 : decode (mB Lw_orders) 531 = .ok (.bipush 99, 2) := by decide +kernel
theorem dLw_orders_533 : decode (mB Lw_orders) 533 = .ok (.istore 23, 2) := by decide +kernel
theorem dLw_orders_535 : decode (mB Lw_orders) 535 = .ok (.aload 7, 2) := by decide +kernel
theorem dLw_orders_537 : decode (mB Lw_orders) 537 = .ok (.iload 21, 2) := by decide +kernel
theorem dLw_orders_539 : decode (mB Lw_orders) 539 = .ok (.iload 22, 2) := by decide +kernel
theorem dLw_orders_541 : decode (mB Lw_orders) 541 = .ok (.iload 23, 2) := by decide +kernel
theorem dLw_orders_543 : decode (mB Lw_orders) 543 = .ok (.if_icmp .ge 8, 3) := by decide +kernel
theorem dLw_orders_546 : decode (mB Lw_orders) 546 = .ok (.iload 22, 2) := by decide +kernel
theorem dLw_orders_548 : decode (mB Lw_orders) 548 = .ok (.goto 5, 3) := by decide +kernel
theorem dLw_orders_551 : decode (mB Lw_orders) 551 = .ok (.iload 23, 2) := by decide +kernel
theorem dLw_orders_553 : decode (mB Lw_orders) 553 = .ok (.invokestatic 117, 3) := by decide +kernel
theorem dLw_orders_556 : decode (mB Lw_orders) 556 = .ok (.iinc 21 1, 3) := by decide +kernel
theorem dLw_orders_559 : decode (mB Lw_orders) 559 = .ok (.goto (-114), 3) := by decide +kernel
theorem dLw_orders_562 : decode (mB Lw_orders) 562 = .ok (.iload 18, 2) := by decide +kernel
theorem dLw_orders_564 : decode (mB Lw_orders) 564 = .ok (.ireturn, 1) := by decide +kernel
def w_Lw_orders_169 (R : Int32 → tpH → Prop) (K139 : (Option Nat) → (Option Nat) → (Option Nat) → (Option Nat) → (Option Nat) → (Option Nat) → Int32 → (Option Nat) → (Option Nat) → (Option Nat) → (Option Nat) → (Option Nat) → Int32 → Int32 → Int32 → Int32 → Int32 → tpH → Prop) (x0 : Option Nat) (x1 : Option Nat) (x2 : Option Nat) (x3 : Option Nat) (x4 : Option Nat) (x5 : Option Nat) (x6 : Int32) (x7 : Option Nat) (x9 : Option Nat) (x10 : Option Nat) (x11 : Option Nat) (x12 : Option Nat) (x14 : Int32) (x15 : Int32) (x16 : Int32) (x18 : Int32) (h : tpH) : Prop :=
  ∃ a1, x10 = some a1 ∧ hT h a1 = 15 ∧ (vp_in x18 (hL h a1) ∧ (∃ a5, x11 = some a5 ∧ hT h a5 = 15 ∧ (vp_in x18 (hL h a5) ∧ ((¬ (hI h a1 x18.toNatClampNeg) = (hI h a5 x18.toNatClampNeg) → (K139 x0 x1 x2 x3 x4 x5 x6 x7 x9 x10 x11 x12 x14 x15 x16 (0 : Int32) (x18 + (1 : Int32)) h)) ∧ ((hI h a1 x18.toNatClampNeg) = (hI h a5 x18.toNatClampNeg) → (K139 x0 x1 x2 x3 x4 x5 x6 x7 x9 x10 x11 x12 x14 x15 x16 (1 : Int32) (x18 + (1 : Int32)) h))))))
def w_Lw_orders_343 (R : Int32 → tpH → Prop) (K265 : (Option Nat) → (Option Nat) → (Option Nat) → (Option Nat) → (Option Nat) → Int32 → (Option Nat) → (Option Nat) → (Option Nat) → (Option Nat) → (Option Nat) → Int32 → Int32 → Int32 → Int32 → tpH → Prop) (x0 : Option Nat) (x1 : Option Nat) (x2 : Option Nat) (x3 : Option Nat) (x4 : Option Nat) (x6 : Int32) (x7 : Option Nat) (x9 : Option Nat) (x10 : Option Nat) (x11 : Option Nat) (x12 : Option Nat) (x14 : Int32) (x18 : Int32) (x20 : Int32) (x21 : Int32) (t0 : Int32) (t1 : Int32) (t2 : Option Nat) (h : tpH) : Prop :=
  ∃ a1, t2 = some a1 ∧ hT h a1 = 15 ∧ (vp_in t1 (hL h a1) ∧ (∀ h5, h5 = sI h a1 t1.toNatClampNeg t0 → (K265 x0 x1 x2 x3 x4 x6 x7 x9 x10 x11 x12 x14 x18 x20 (x21 + (1 : Int32)) h5)))
def b_Lw_orders_366 (R : Int32 → tpH → Prop) (K353 : (Option Nat) → (Option Nat) → (Option Nat) → (Option Nat) → (Option Nat) → Int32 → (Option Nat) → (Option Nat) → Int32 → Int32 → Int32 → tpH → Prop) (Y : (Option Nat) → (Option Nat) → (Option Nat) → (Option Nat) → (Option Nat) → Int32 → (Option Nat) → (Option Nat) → Int32 → Int32 → Int32 → Int32 → Int32 → tpH → Prop) (x0 : Option Nat) (x1 : Option Nat) (x2 : Option Nat) (x3 : Option Nat) (x4 : Option Nat) (x6 : Int32) (x7 : Option Nat) (x9 : Option Nat) (x14 : Int32) (x18 : Int32) (x21 : Int32) (x22 : Int32) (x23 : Int32) (h : tpH) : Prop :=
  ∃ a1, x7 = some a1 ∧ hT h a1 = 15 ∧ (vp_in (0 : Int32) (hL h a1) ∧ (((hI h a1 (0 : Int32).toNatClampNeg) < x23 → ((¬ x22 = 0 → (K353 x0 x1 x2 x3 x4 x6 x7 x9 x14 x18 (x21 + (1 : Int32)) h)) ∧ (x22 = 0 → (∃ a7, x9 = some a7 ∧ hT h a7 = 15 ∧ (vp_in x21 (hL h a7) ∧ (vp_in x21 (hL h a7) ∧ (w_Lw_ahead x0 x4 x6 (hI h a7 x21.toNatClampNeg) x7 h (fun v13 h12 => w_Lw_putsBehind x7 (hI h a7 x21.toNatClampNeg) v13 h12 (fun h14 => K353 x0 x1 x2 x3 x4 x6 x7 x9 x14 x18 (x21 + (1 : Int32)) h14))))))))) ∧ (¬ (hI h a1 (0 : Int32).toNatClampNeg) < x23 → ((¬ x22 = 0 → (Y x0 x1 x2 x3 x4 x6 x7 x9 x14 x18 x21 (1 : Int32) (x23 + (1 : Int32)) h)) ∧ (x22 = 0 → (vp_in x23 (hL h a1) ∧ (∃ a17, x9 = some a17 ∧ hT h a17 = 15 ∧ (vp_in x21 (hL h a17) ∧ ((¬ (hI h a1 x23.toNatClampNeg) = (hI h a17 x21.toNatClampNeg) → (Y x0 x1 x2 x3 x4 x6 x7 x9 x14 x18 x21 (0 : Int32) (x23 + (1 : Int32)) h)) ∧ ((hI h a1 x23.toNatClampNeg) = (hI h a17 x21.toNatClampNeg) → (Y x0 x1 x2 x3 x4 x6 x7 x9 x14 x18 x21 (1 : Int32) (x23 + (1 : Int32)) h)))))))))))
def w_Lw_orders_366 (R : Int32 → tpH → Prop) (K353 : (Option Nat) → (Option Nat) → (Option Nat) → (Option Nat) → (Option Nat) → Int32 → (Option Nat) → (Option Nat) → Int32 → Int32 → Int32 → tpH → Prop) : Nat → (Option Nat) → (Option Nat) → (Option Nat) → (Option Nat) → (Option Nat) → Int32 → (Option Nat) → (Option Nat) → Int32 → Int32 → Int32 → Int32 → Int32 → tpH → Prop
  | 0 => fun _ _ _ _ _ _ _ _ _ _ _ _ _ _ => False
  | n + 1 => b_Lw_orders_366 R K353 (w_Lw_orders_366 R K353 n)
def w_Lw_orders_553 (R : Int32 → tpH → Prop) (K445 : (Option Nat) → (Option Nat) → (Option Nat) → (Option Nat) → Int32 → (Option Nat) → (Option Nat) → Int32 → Int32 → Int32 → tpH → Prop) (x1 : Option Nat) (x2 : Option Nat) (x3 : Option Nat) (x4 : Option Nat) (x6 : Int32) (x7 : Option Nat) (x9 : Option Nat) (x14 : Int32) (x18 : Int32) (x21 : Int32) (t0 : Int32) (t1 : Int32) (t2 : Option Nat) (h : tpH) : Prop :=
  w_Lw_putsBehind t2 t1 t0 h (fun h1 => K445 x1 x2 x3 x4 x6 x7 x9 x14 x18 (x21 + (1 : Int32)) h1)
def w_Lw_orders_533 (R : Int32 → tpH → Prop) (K445 : (Option Nat) → (Option Nat) → (Option Nat) → (Option Nat) → Int32 → (Option Nat) → (Option Nat) → Int32 → Int32 → Int32 → tpH → Prop) (x1 : Option Nat) (x2 : Option Nat) (x3 : Option Nat) (x4 : Option Nat) (x6 : Int32) (x7 : Option Nat) (x9 : Option Nat) (x14 : Int32) (x18 : Int32) (x21 : Int32) (x22 : Int32) (t0 : Int32) (h : tpH) : Prop :=
  (t0 ≤ x22 → (w_Lw_orders_553 R K445 x1 x2 x3 x4 x6 x7 x9 x14 x18 x21 t0 x21 x7 h)) ∧ (¬ t0 ≤ x22 → (w_Lw_orders_553 R K445 x1 x2 x3 x4 x6 x7 x9 x14 x18 x21 x22 x21 x7 h))
def w_Lw_orders_503 (R : Int32 → tpH → Prop) (K445 : (Option Nat) → (Option Nat) → (Option Nat) → (Option Nat) → Int32 → (Option Nat) → (Option Nat) → Int32 → Int32 → Int32 → tpH → Prop) (x1 : Option Nat) (x2 : Option Nat) (x3 : Option Nat) (x4 : Option Nat) (x6 : Int32) (x7 : Option Nat) (x9 : Option Nat) (x14 : Int32) (x18 : Int32) (x21 : Int32) (t0 : Int32) (h : tpH) : Prop :=
  w_Lw_parentOf x2 x21 h (fun v2 h1 => (¬ v2 = x6 → (w_Lw_orders_533 R K445 x1 x2 x3 x4 x6 x7 x9 x14 x18 x21 t0 (99 : Int32) h1)) ∧ (v2 = x6 → (w_Lw_ahead x2 x4 x6 x21 x7 h1 (fun v5 h4 => w_Lw_orders_533 R K445 x1 x2 x3 x4 x6 x7 x9 x14 x18 x21 t0 v5 h4))))
def b_Lw_orders_445 (R : Int32 → tpH → Prop) (Y : (Option Nat) → (Option Nat) → (Option Nat) → (Option Nat) → Int32 → (Option Nat) → (Option Nat) → Int32 → Int32 → Int32 → tpH → Prop) (x1 : Option Nat) (x2 : Option Nat) (x3 : Option Nat) (x4 : Option Nat) (x6 : Int32) (x7 : Option Nat) (x9 : Option Nat) (x14 : Int32) (x18 : Int32) (x21 : Int32) (h : tpH) : Prop :=
  ((40 : Int32) ≤ x21 → (tpB x18 ∧ (R x18 h))) ∧ (¬ (40 : Int32) ≤ x21 → (w_Lw_parentOf x3 x21 h (fun v4 h3 => (¬ v4 = x6 → (Y x1 x2 x3 x4 x6 x7 x9 x14 x18 (x21 + (1 : Int32)) h3)) ∧ (v4 = x6 → (w_Lw_at x9 x14 x21 h3 (fun v7 h6 => (0 ≤ v7 → (Y x1 x2 x3 x4 x6 x7 x9 x14 x18 (x21 + (1 : Int32)) h6)) ∧ (¬ 0 ≤ v7 → (w_Lw_parentOf x1 x21 h6 (fun v10 h9 => (¬ v10 = x6 → (w_Lw_orders_503 R Y x1 x2 x3 x4 x6 x7 x9 x14 x18 x21 (99 : Int32) h9)) ∧ (v10 = x6 → (w_Lw_ahead x1 x4 x6 x21 x7 h9 (fun v13 h12 => w_Lw_orders_503 R Y x1 x2 x3 x4 x6 x7 x9 x14 x18 x21 v13 h12))))))))))))
def w_Lw_orders_445 (R : Int32 → tpH → Prop) : Nat → (Option Nat) → (Option Nat) → (Option Nat) → (Option Nat) → Int32 → (Option Nat) → (Option Nat) → Int32 → Int32 → Int32 → tpH → Prop
  | 0 => fun _ _ _ _ _ _ _ _ _ _ _ => False
  | n + 1 => b_Lw_orders_445 R (w_Lw_orders_445 R n)
def b_Lw_orders_353 (R : Int32 → tpH → Prop) (Y : (Option Nat) → (Option Nat) → (Option Nat) → (Option Nat) → (Option Nat) → Int32 → (Option Nat) → (Option Nat) → Int32 → Int32 → Int32 → tpH → Prop) (x0 : Option Nat) (x1 : Option Nat) (x2 : Option Nat) (x3 : Option Nat) (x4 : Option Nat) (x6 : Int32) (x7 : Option Nat) (x9 : Option Nat) (x14 : Int32) (x18 : Int32) (x21 : Int32) (h : tpH) : Prop :=
  (x14 ≤ x21 → (∃ n, w_Lw_orders_445 R n x1 x2 x3 x4 x6 x7 x9 x14 x18 (0 : Int32) h)) ∧ (¬ x14 ≤ x21 → (∃ n, w_Lw_orders_366 R Y n x0 x1 x2 x3 x4 x6 x7 x9 x14 x18 x21 (0 : Int32) (1 : Int32) h))
def w_Lw_orders_353 (R : Int32 → tpH → Prop) : Nat → (Option Nat) → (Option Nat) → (Option Nat) → (Option Nat) → (Option Nat) → Int32 → (Option Nat) → (Option Nat) → Int32 → Int32 → Int32 → tpH → Prop
  | 0 => fun _ _ _ _ _ _ _ _ _ _ _ _ => False
  | n + 1 => b_Lw_orders_353 R (w_Lw_orders_353 R n)
def w_Lw_orders_296 (R : Int32 → tpH → Prop) (K265 : (Option Nat) → (Option Nat) → (Option Nat) → (Option Nat) → (Option Nat) → Int32 → (Option Nat) → (Option Nat) → (Option Nat) → (Option Nat) → (Option Nat) → Int32 → Int32 → Int32 → Int32 → tpH → Prop) (x0 : Option Nat) (x1 : Option Nat) (x2 : Option Nat) (x3 : Option Nat) (x4 : Option Nat) (x6 : Int32) (x7 : Option Nat) (x9 : Option Nat) (x10 : Option Nat) (x11 : Option Nat) (x12 : Option Nat) (x14 : Int32) (x18 : Int32) (x20 : Int32) (x21 : Int32) (t0 : Int32) (t1 : Int32) (h : tpH) : Prop :=
  (t0 < t1 → (∃ n, w_Lw_orders_353 R n x0 x1 x2 x3 x4 x6 x7 x9 x14 x18 (0 : Int32) h)) ∧ (¬ t0 < t1 → (∃ a2, x7 = some a2 ∧ hT h a2 = 15 ∧ (vp_in (0 : Int32) (hL h a2) ∧ (vp_in (0 : Int32) (hL h a2) ∧ (∀ h7, h7 = sI h a2 (0 : Int32).toNatClampNeg ((hI h a2 (0 : Int32).toNatClampNeg) + (1 : Int32)) → ((¬ x20 = 0 → ((¬ x20 = (1 : Int32) → (∃ a11, x11 = some a11 ∧ hT h7 a11 = 15 ∧ (vp_in x21 (hL h7 a11) ∧ (w_Lw_orders_343 R K265 x0 x1 x2 x3 x4 x6 x7 x9 x10 x11 x12 x14 x18 x20 x21 (hI h7 a11 x21.toNatClampNeg) x21 x7 h7)))) ∧ (x20 = (1 : Int32) → (∃ a15, x10 = some a15 ∧ hT h7 a15 = 15 ∧ (vp_in x21 (hL h7 a15) ∧ (w_Lw_orders_343 R K265 x0 x1 x2 x3 x4 x6 x7 x9 x10 x11 x12 x14 x18 x20 x21 (hI h7 a15 x21.toNatClampNeg) x21 x7 h7)))))) ∧ (x20 = 0 → (∃ a19, x12 = some a19 ∧ hT h7 a19 = 15 ∧ (vp_in x21 (hL h7 a19) ∧ (w_Lw_orders_343 R K265 x0 x1 x2 x3 x4 x6 x7 x9 x10 x11 x12 x14 x18 x20 x21 (hI h7 a19 x21.toNatClampNeg) x21 x7 h7))))))))))
def b_Lw_orders_265 (R : Int32 → tpH → Prop) (Y : (Option Nat) → (Option Nat) → (Option Nat) → (Option Nat) → (Option Nat) → Int32 → (Option Nat) → (Option Nat) → (Option Nat) → (Option Nat) → (Option Nat) → Int32 → Int32 → Int32 → Int32 → tpH → Prop) (x0 : Option Nat) (x1 : Option Nat) (x2 : Option Nat) (x3 : Option Nat) (x4 : Option Nat) (x6 : Int32) (x7 : Option Nat) (x9 : Option Nat) (x10 : Option Nat) (x11 : Option Nat) (x12 : Option Nat) (x14 : Int32) (x18 : Int32) (x20 : Int32) (x21 : Int32) (h : tpH) : Prop :=
  (¬ x20 = 0 → ((¬ x20 = (1 : Int32) → (∃ a3, x11 = some a3 ∧ hT h a3 = 15 ∧ (vp_in (0 : Int32) (hL h a3) ∧ (w_Lw_orders_296 R Y x0 x1 x2 x3 x4 x6 x7 x9 x10 x11 x12 x14 x18 x20 x21 (hI h a3 (0 : Int32).toNatClampNeg) x21 h)))) ∧ (x20 = (1 : Int32) → (∃ a7, x10 = some a7 ∧ hT h a7 = 15 ∧ (vp_in (0 : Int32) (hL h a7) ∧ (w_Lw_orders_296 R Y x0 x1 x2 x3 x4 x6 x7 x9 x10 x11 x12 x14 x18 x20 x21 (hI h a7 (0 : Int32).toNatClampNeg) x21 h)))))) ∧ (x20 = 0 → (∃ a11, x12 = some a11 ∧ hT h a11 = 15 ∧ (vp_in (0 : Int32) (hL h a11) ∧ (w_Lw_orders_296 R Y x0 x1 x2 x3 x4 x6 x7 x9 x10 x11 x12 x14 x18 x20 x21 (hI h a11 (0 : Int32).toNatClampNeg) x21 h))))
def w_Lw_orders_265 (R : Int32 → tpH → Prop) : Nat → (Option Nat) → (Option Nat) → (Option Nat) → (Option Nat) → (Option Nat) → Int32 → (Option Nat) → (Option Nat) → (Option Nat) → (Option Nat) → (Option Nat) → Int32 → Int32 → Int32 → Int32 → tpH → Prop
  | 0 => fun _ _ _ _ _ _ _ _ _ _ _ _ _ _ _ _ => False
  | n + 1 => b_Lw_orders_265 R (w_Lw_orders_265 R n)
def w_Lw_orders_215 (R : Int32 → tpH → Prop) (x0 : Option Nat) (x1 : Option Nat) (x2 : Option Nat) (x3 : Option Nat) (x4 : Option Nat) (x5 : Option Nat) (x6 : Int32) (x7 : Option Nat) (x9 : Option Nat) (x10 : Option Nat) (x11 : Option Nat) (x12 : Option Nat) (x14 : Int32) (x15 : Int32) (t0 : Int32) (h : tpH) : Prop :=
  w_Lw_shares x0 x4 x6 x9 x14 x12 h (fun v2 h1 => ∃ a3, x7 = some a3 ∧ hT h1 a3 = 15 ∧ (vp_in (0 : Int32) (hL h1 a3) ∧ (∀ h7, h7 = sI h1 a3 (0 : Int32).toNatClampNeg (0 : Int32) → ((t0 = 0 → ((x15 = 0 → (∃ n, w_Lw_orders_265 R n x0 x1 x2 x3 x4 x6 x7 x9 x10 x11 x12 x14 t0 (2 : Int32) (1 : Int32) h7)) ∧ (¬ x15 = 0 → (∃ n, w_Lw_orders_265 R n x0 x1 x2 x3 x4 x6 x7 x9 x10 x11 x12 x14 t0 (1 : Int32) (1 : Int32) h7)))) ∧ (¬ t0 = 0 → (∃ a11, x5 = some a11 ∧ hT h7 a11 = 15 ∧ (vp_in (5 : Int32) (hL h7 a11) ∧ (∃ n, w_Lw_orders_265 R n x0 x1 x2 x3 x4 x6 x7 x9 x10 x11 x12 x14 t0 (hI h7 a11 (5 : Int32).toNatClampNeg) (1 : Int32) h7))))))))
def b_Lw_orders_139 (R : Int32 → tpH → Prop) (Y : (Option Nat) → (Option Nat) → (Option Nat) → (Option Nat) → (Option Nat) → (Option Nat) → Int32 → (Option Nat) → (Option Nat) → (Option Nat) → (Option Nat) → (Option Nat) → Int32 → Int32 → Int32 → Int32 → Int32 → tpH → Prop) (x0 : Option Nat) (x1 : Option Nat) (x2 : Option Nat) (x3 : Option Nat) (x4 : Option Nat) (x5 : Option Nat) (x6 : Int32) (x7 : Option Nat) (x9 : Option Nat) (x10 : Option Nat) (x11 : Option Nat) (x12 : Option Nat) (x14 : Int32) (x15 : Int32) (x16 : Int32) (x17 : Int32) (x18 : Int32) (h : tpH) : Prop :=
  ((40 : Int32) ≤ x18 → ((x15 = 0 → (w_Lw_orders_215 R x0 x1 x2 x3 x4 x5 x6 x7 x9 x10 x11 x12 x14 x15 (0 : Int32) h)) ∧ (¬ x15 = 0 → ((x16 = 0 → (w_Lw_orders_215 R x0 x1 x2 x3 x4 x5 x6 x7 x9 x10 x11 x12 x14 x15 (0 : Int32) h)) ∧ (¬ x16 = 0 → ((¬ x17 = 0 → (w_Lw_orders_215 R x0 x1 x2 x3 x4 x5 x6 x7 x9 x10 x11 x12 x14 x15 (0 : Int32) h)) ∧ (x17 = 0 → (w_Lw_orders_215 R x0 x1 x2 x3 x4 x5 x6 x7 x9 x10 x11 x12 x14 x15 (1 : Int32) h)))))))) ∧ (¬ (40 : Int32) ≤ x18 → ((x17 = 0 → (Y x0 x1 x2 x3 x4 x5 x6 x7 x9 x10 x11 x12 x14 x15 x16 (0 : Int32) (x18 + (1 : Int32)) h)) ∧ (¬ x17 = 0 → (∃ a6, x10 = some a6 ∧ hT h a6 = 15 ∧ (vp_in (0 : Int32) (hL h a6) ∧ ((x18 ≤ (hI h a6 (0 : Int32).toNatClampNeg) → (w_Lw_orders_169 R Y x0 x1 x2 x3 x4 x5 x6 x7 x9 x10 x11 x12 x14 x15 x16 x18 h)) ∧ (¬ x18 ≤ (hI h a6 (0 : Int32).toNatClampNeg) → (∃ a11, x11 = some a11 ∧ hT h a11 = 15 ∧ (vp_in (0 : Int32) (hL h a11) ∧ (((hI h a11 (0 : Int32).toNatClampNeg) < x18 → (Y x0 x1 x2 x3 x4 x5 x6 x7 x9 x10 x11 x12 x14 x15 x16 (1 : Int32) (x18 + (1 : Int32)) h)) ∧ (¬ (hI h a11 (0 : Int32).toNatClampNeg) < x18 → (w_Lw_orders_169 R Y x0 x1 x2 x3 x4 x5 x6 x7 x9 x10 x11 x12 x14 x15 x16 x18 h))))))))))))
def w_Lw_orders_139 (R : Int32 → tpH → Prop) : Nat → (Option Nat) → (Option Nat) → (Option Nat) → (Option Nat) → (Option Nat) → (Option Nat) → Int32 → (Option Nat) → (Option Nat) → (Option Nat) → (Option Nat) → (Option Nat) → Int32 → Int32 → Int32 → Int32 → Int32 → tpH → Prop
  | 0 => fun _ _ _ _ _ _ _ _ _ _ _ _ _ _ _ _ _ _ => False
  | n + 1 => b_Lw_orders_139 R (w_Lw_orders_139 R n)
def b_Lw_orders_61 (R : Int32 → tpH → Prop) (Y : (Option Nat) → (Option Nat) → (Option Nat) → (Option Nat) → (Option Nat) → (Option Nat) → Int32 → (Option Nat) → (Option Nat) → (Option Nat) → (Option Nat) → (Option Nat) → (Option Nat) → Int32 → Int32 → Int32 → tpH → Prop) (x0 : Option Nat) (x1 : Option Nat) (x2 : Option Nat) (x3 : Option Nat) (x4 : Option Nat) (x5 : Option Nat) (x6 : Int32) (x7 : Option Nat) (x8 : Option Nat) (x9 : Option Nat) (x10 : Option Nat) (x11 : Option Nat) (x12 : Option Nat) (x13 : Int32) (x14 : Int32) (x15 : Int32) (h : tpH) : Prop :=
  (x13 ≤ x15 → (w_Lw_shares x1 x4 x6 x9 x14 x10 h (fun v3 h2 => w_Lw_shares x2 x4 x6 x9 x14 x11 h2 (fun v5 h4 => ∃ n, w_Lw_orders_139 R n x0 x1 x2 x3 x4 x5 x6 x7 x9 x10 x11 x12 x14 v3 v5 (1 : Int32) (0 : Int32) h4)))) ∧ (¬ x13 ≤ x15 → (∃ a6, x8 = some a6 ∧ hT h a6 = 15 ∧ (vp_in x15 (hL h a6) ∧ (w_Lw_parentOf x3 (hI h a6 x15.toNatClampNeg) h (fun v11 h10 => (¬ v11 = x6 → (Y x0 x1 x2 x3 x4 x5 x6 x7 x8 x9 x10 x11 x12 x13 x14 (x15 + (1 : Int32)) h10)) ∧ (v11 = x6 → (hT h10 a6 = 15 ∧ (vp_in x15 (hL h10 a6) ∧ (∃ a15, x9 = some a15 ∧ hT h10 a15 = 15 ∧ (vp_in x14 (hL h10 a15) ∧ (∀ h19, h19 = sI h10 a15 x14.toNatClampNeg (hI h10 a6 x15.toNatClampNeg) → (Y x0 x1 x2 x3 x4 x5 x6 x7 x8 x9 x10 x11 x12 x13 (x14 + (1 : Int32)) (x15 + (1 : Int32)) h19))))))))))))
def w_Lw_orders_61 (R : Int32 → tpH → Prop) : Nat → (Option Nat) → (Option Nat) → (Option Nat) → (Option Nat) → (Option Nat) → (Option Nat) → Int32 → (Option Nat) → (Option Nat) → (Option Nat) → (Option Nat) → (Option Nat) → (Option Nat) → Int32 → Int32 → Int32 → tpH → Prop
  | 0 => fun _ _ _ _ _ _ _ _ _ _ _ _ _ _ _ _ _ => False
  | n + 1 => b_Lw_orders_61 R (w_Lw_orders_61 R n)
def w_Lw_orders (x0 : Option Nat) (x1 : Option Nat) (x2 : Option Nat) (x3 : Option Nat) (x4 : Option Nat) (x5 : Option Nat) (x6 : Int32) (x7 : Option Nat) (h : tpH) (R : Int32 → tpH → Prop) : Prop :=
  ∀ a1 h2, a1 = hZ h → h2 = nC h 15 40 40 → (∀ a5 h6, a5 = hZ h2 → h6 = nC h2 15 40 40 → (∀ a9 h10, a9 = hZ h6 → h10 = nC h6 15 41 41 → (∀ a13 h14, a13 = hZ h10 → h14 = nC h10 15 41 41 → (∀ a17 h18, a17 = hZ h14 → h18 = nC h14 15 41 41 → (w_Lw_place x0 x6 h18 (fun v22 h21 => (0 ≤ v22 → (w_Lw_children x0 x4 x6 (some a1) h21 (fun v25 h24 => ∃ n, w_Lw_orders_61 R n x0 x1 x2 x3 x4 x5 x6 x7 (some a1) (some a5) (some a9) (some a13) (some a17) v25 (0 : Int32) (0 : Int32) h24))) ∧ (¬ 0 ≤ v22 → (∃ n, w_Lw_orders_61 R n x0 x1 x2 x3 x4 x5 x6 x7 (some a1) (some a5) (some a9) (some a13) (some a17) (0 : Int32) (0 : Int32) (0 : Int32) h21))))))))
theorem s_Lw_orders_169 {h0 : tpH} {av : List tpV} {R : Int32 → tpH → Prop} {K139 : (Option Nat) → (Option Nat) → (Option Nat) → (Option Nat) → (Option Nat) → (Option Nat) → Int32 → (Option Nat) → (Option Nat) → (Option Nat) → (Option Nat) → (Option Nat) → Int32 → Int32 → Int32 → Int32 → Int32 → tpH → Prop} (k139 : ∀ (x0 : Option Nat) (x1 : Option Nat) (x2 : Option Nat) (x3 : Option Nat) (x4 : Option Nat) (x5 : Option Nat) (x6 : Int32) (x7 : Option Nat) (x9 : Option Nat) (x10 : Option Nat) (x11 : Option Nat) (x12 : Option Nat) (x14 : Int32) (x15 : Int32) (x16 : Int32) (x17 : Int32) (x18 : Int32) (h : tpH), K139 x0 x1 x2 x3 x4 x5 x6 x7 x9 x10 x11 x12 x14 x15 x16 x17 x18 h → tpR Lw_orders 3 h0 av (tpOi R (fun _ _ => False)) 139 [some (vR x0), some (vR x1), some (vR x2), some (vR x3), some (vR x4), some (vR x5), some (vI x6), some (vR x7), none, some (vR x9), some (vR x10), some (vR x11), some (vR x12), none, some (vI x14), some (vI x15), some (vI x16), some (vI x17), some (vI x18), none, none, none, none, none] [] h) : ∀ (x0 : Option Nat) (x1 : Option Nat) (x2 : Option Nat) (x3 : Option Nat) (x4 : Option Nat) (x5 : Option Nat) (x6 : Int32) (x7 : Option Nat) (x9 : Option Nat) (x10 : Option Nat) (x11 : Option Nat) (x12 : Option Nat) (x14 : Int32) (x15 : Int32) (x16 : Int32) (x18 : Int32) (h : tpH), w_Lw_orders_169 R K139 x0 x1 x2 x3 x4 x5 x6 x7 x9 x10 x11 x12 x14 x15 x16 x18 h → tpR Lw_orders 3 h0 av (tpOi R (fun _ _ => False)) 169 [some (vR x0), some (vR x1), some (vR x2), some (vR x3), some (vR x4), some (vR x5), some (vI x6), some (vR x7), none, some (vR x9), some (vR x10), some (vR x11), some (vR x12), none, some (vI x14), some (vI x15), some (vI x16), none, some (vI x18), none, none, none, none, none] [] h := by
  intro x0 x1 x2 x3 x4 x5 x6 x7 x9 x10 x11 x12 x14 x15 x16 x18 h hw
  unfold w_Lw_orders_169 at hw
  refine tq_aload dLw_orders_169 rfl ?_
  refine tq_iload dLw_orders_171 rfl ?_
  obtain ⟨a1, e2, f3, hw⟩ := hw
  obtain ⟨f4, hw⟩ := hw
  refine te_iald dLw_orders_173 e2 (Or.inl f3) f4 ?_
  refine tq_aload dLw_orders_174 rfl ?_
  refine tq_iload dLw_orders_176 rfl ?_
  obtain ⟨a5, e6, f7, hw⟩ := hw
  obtain ⟨f8, hw⟩ := hw
  refine te_iald dLw_orders_178 e6 (Or.inl f7) f8 ?_
  refine tq_icmpne (tgt := 186) dLw_orders_179 (by decide) (fun c9 => ?_) (fun c9 => ?_)
  · have hw := hw.1 c9
    refine tq_iconst (v := (0 : Int32)) dLw_orders_186 tni_0 ?_
    refine tq_istore (ls' := [some (vR x0), some (vR x1), some (vR x2), some (vR x3), some (vR x4), some (vR x5), some (vI x6), some (vR x7), none, some (vR x9), some (vR x10), some (vR x11), some (vR x12), none, some (vI x14), some (vI x15), some (vI x16), some (vI (0 : Int32)), some (vI x18), none, none, none, none, none]) dLw_orders_187 (Nat.le_of_ble_eq_true rfl) rfl ?_
    refine tq_inc (k := (1 : Int32)) (ls' := [some (vR x0), some (vR x1), some (vR x2), some (vR x3), some (vR x4), some (vR x5), some (vI x6), some (vR x7), none, some (vR x9), some (vR x10), some (vR x11), some (vR x12), none, some (vI x14), some (vI x15), some (vI x16), some (vI (0 : Int32)), some (vI (x18 + (1 : Int32))), none, none, none, none, none]) dLw_orders_189 rfl tni_1 (Nat.le_of_ble_eq_true rfl) rfl ?_
    refine tq_goto (tgt := 139) dLw_orders_192 (by decide) ?_
    refine tpR.fo (ls' := [some (vR x0), some (vR x1), some (vR x2), some (vR x3), some (vR x4), some (vR x5), some (vI x6), some (vR x7), none, some (vR x9), some (vR x10), some (vR x11), some (vR x12), none, some (vI x14), some (vI x15), some (vI x16), some (vI (0 : Int32)), some (vI (x18 + (1 : Int32))), none, none, none, none, none]) ?_ (And.intro rfl (And.intro rfl (And.intro rfl (And.intro rfl (And.intro rfl (And.intro rfl (And.intro rfl (And.intro rfl (And.intro rfl (And.intro rfl (And.intro rfl (And.intro rfl (And.intro rfl (And.intro rfl (And.intro rfl (And.intro rfl (And.intro rfl trivial)))))))))))))))))
    exact k139 _ _ _ _ _ _ _ _ _ _ _ _ _ _ _ _ _ _ hw
  · have hw := hw.2 c9
    refine tq_iconst (v := (1 : Int32)) dLw_orders_182 tni_1 ?_
    refine tq_goto (tgt := 187) dLw_orders_183 (by decide) ?_
    refine tq_istore (ls' := [some (vR x0), some (vR x1), some (vR x2), some (vR x3), some (vR x4), some (vR x5), some (vI x6), some (vR x7), none, some (vR x9), some (vR x10), some (vR x11), some (vR x12), none, some (vI x14), some (vI x15), some (vI x16), some (vI (1 : Int32)), some (vI x18), none, none, none, none, none]) dLw_orders_187 (Nat.le_of_ble_eq_true rfl) rfl ?_
    refine tq_inc (k := (1 : Int32)) (ls' := [some (vR x0), some (vR x1), some (vR x2), some (vR x3), some (vR x4), some (vR x5), some (vI x6), some (vR x7), none, some (vR x9), some (vR x10), some (vR x11), some (vR x12), none, some (vI x14), some (vI x15), some (vI x16), some (vI (1 : Int32)), some (vI (x18 + (1 : Int32))), none, none, none, none, none]) dLw_orders_189 rfl tni_1 (Nat.le_of_ble_eq_true rfl) rfl ?_
    refine tq_goto (tgt := 139) dLw_orders_192 (by decide) ?_
    refine tpR.fo (ls' := [some (vR x0), some (vR x1), some (vR x2), some (vR x3), some (vR x4), some (vR x5), some (vI x6), some (vR x7), none, some (vR x9), some (vR x10), some (vR x11), some (vR x12), none, some (vI x14), some (vI x15), some (vI x16), some (vI (1 : Int32)), some (vI (x18 + (1 : Int32))), none, none, none, none, none]) ?_ (And.intro rfl (And.intro rfl (And.intro rfl (And.intro rfl (And.intro rfl (And.intro rfl (And.intro rfl (And.intro rfl (And.intro rfl (And.intro rfl (And.intro rfl (And.intro rfl (And.intro rfl (And.intro rfl (And.intro rfl (And.intro rfl (And.intro rfl trivial)))))))))))))))))
    exact k139 _ _ _ _ _ _ _ _ _ _ _ _ _ _ _ _ _ _ hw
theorem s_Lw_orders_343 {h0 : tpH} {av : List tpV} {R : Int32 → tpH → Prop} {K265 : (Option Nat) → (Option Nat) → (Option Nat) → (Option Nat) → (Option Nat) → Int32 → (Option Nat) → (Option Nat) → (Option Nat) → (Option Nat) → (Option Nat) → Int32 → Int32 → Int32 → Int32 → tpH → Prop} (k265 : ∀ (x0 : Option Nat) (x1 : Option Nat) (x2 : Option Nat) (x3 : Option Nat) (x4 : Option Nat) (x6 : Int32) (x7 : Option Nat) (x9 : Option Nat) (x10 : Option Nat) (x11 : Option Nat) (x12 : Option Nat) (x14 : Int32) (x18 : Int32) (x20 : Int32) (x21 : Int32) (h : tpH), K265 x0 x1 x2 x3 x4 x6 x7 x9 x10 x11 x12 x14 x18 x20 x21 h → tpR Lw_orders 3 h0 av (tpOi R (fun _ _ => False)) 265 [some (vR x0), some (vR x1), some (vR x2), some (vR x3), some (vR x4), none, some (vI x6), some (vR x7), none, some (vR x9), some (vR x10), some (vR x11), some (vR x12), none, some (vI x14), none, none, none, some (vI x18), none, some (vI x20), some (vI x21), none, none] [] h) : ∀ (x0 : Option Nat) (x1 : Option Nat) (x2 : Option Nat) (x3 : Option Nat) (x4 : Option Nat) (x6 : Int32) (x7 : Option Nat) (x9 : Option Nat) (x10 : Option Nat) (x11 : Option Nat) (x12 : Option Nat) (x14 : Int32) (x18 : Int32) (x20 : Int32) (x21 : Int32) (t0 : Int32) (t1 : Int32) (t2 : Option Nat) (h : tpH), w_Lw_orders_343 R K265 x0 x1 x2 x3 x4 x6 x7 x9 x10 x11 x12 x14 x18 x20 x21 t0 t1 t2 h → tpR Lw_orders 3 h0 av (tpOi R (fun _ _ => False)) 343 [some (vR x0), some (vR x1), some (vR x2), some (vR x3), some (vR x4), none, some (vI x6), some (vR x7), none, some (vR x9), some (vR x10), some (vR x11), some (vR x12), none, some (vI x14), none, none, none, some (vI x18), none, some (vI x20), some (vI x21), none, none] [vI t0, vI t1, vR t2] h := by
  intro x0 x1 x2 x3 x4 x6 x7 x9 x10 x11 x12 x14 x18 x20 x21 t0 t1 t2 h hw
  unfold w_Lw_orders_343 at hw
  obtain ⟨a1, e2, f3, hw⟩ := hw
  obtain ⟨f4, hw⟩ := hw
  refine te_iast dLw_orders_343 e2 f3 f4 (fun h5 e6 => ?_)
  have hw := hw h5 e6
  refine tq_inc (k := (1 : Int32)) (ls' := [some (vR x0), some (vR x1), some (vR x2), some (vR x3), some (vR x4), none, some (vI x6), some (vR x7), none, some (vR x9), some (vR x10), some (vR x11), some (vR x12), none, some (vI x14), none, none, none, some (vI x18), none, some (vI x20), some (vI (x21 + (1 : Int32))), none, none]) dLw_orders_344 rfl tni_1 (Nat.le_of_ble_eq_true rfl) rfl ?_
  refine tq_goto (tgt := 265) dLw_orders_347 (by decide) ?_
  refine tpR.fo (ls' := [some (vR x0), some (vR x1), some (vR x2), some (vR x3), some (vR x4), none, some (vI x6), some (vR x7), none, some (vR x9), some (vR x10), some (vR x11), some (vR x12), none, some (vI x14), none, none, none, some (vI x18), none, some (vI x20), some (vI (x21 + (1 : Int32))), none, none]) ?_ (And.intro rfl (And.intro rfl (And.intro rfl (And.intro rfl (And.intro rfl (And.intro rfl (And.intro rfl (And.intro rfl (And.intro rfl (And.intro rfl (And.intro rfl (And.intro rfl (And.intro rfl (And.intro rfl (And.intro rfl trivial)))))))))))))))
  exact k265 _ _ _ _ _ _ _ _ _ _ _ _ _ _ _ _ hw
theorem s_Lw_orders_366 {h0 : tpH} {av : List tpV} {R : Int32 → tpH → Prop} {K353 : (Option Nat) → (Option Nat) → (Option Nat) → (Option Nat) → (Option Nat) → Int32 → (Option Nat) → (Option Nat) → Int32 → Int32 → Int32 → tpH → Prop} (k353 : ∀ (x0 : Option Nat) (x1 : Option Nat) (x2 : Option Nat) (x3 : Option Nat) (x4 : Option Nat) (x6 : Int32) (x7 : Option Nat) (x9 : Option Nat) (x14 : Int32) (x18 : Int32) (x21 : Int32) (h : tpH), K353 x0 x1 x2 x3 x4 x6 x7 x9 x14 x18 x21 h → tpR Lw_orders 3 h0 av (tpOi R (fun _ _ => False)) 353 [some (vR x0), some (vR x1), some (vR x2), some (vR x3), some (vR x4), none, some (vI x6), some (vR x7), none, some (vR x9), none, none, none, none, some (vI x14), none, none, none, some (vI x18), none, none, some (vI x21), none, none] [] h) : ∀ (n : Nat) (x0 : Option Nat) (x1 : Option Nat) (x2 : Option Nat) (x3 : Option Nat) (x4 : Option Nat) (x6 : Int32) (x7 : Option Nat) (x9 : Option Nat) (x14 : Int32) (x18 : Int32) (x21 : Int32) (x22 : Int32) (x23 : Int32) (h : tpH), w_Lw_orders_366 R K353 n x0 x1 x2 x3 x4 x6 x7 x9 x14 x18 x21 x22 x23 h → tpR Lw_orders 3 h0 av (tpOi R (fun _ _ => False)) 366 [some (vR x0), some (vR x1), some (vR x2), some (vR x3), some (vR x4), none, some (vI x6), some (vR x7), none, some (vR x9), none, none, none, none, some (vI x14), none, none, none, some (vI x18), none, none, some (vI x21), some (vI x22), some (vI x23)] [] h := by
  intro n
  induction n with
  | zero => intro x0 x1 x2 x3 x4 x6 x7 x9 x14 x18 x21 x22 x23 h hw; exact False.elim hw
  | succ n ih =>
    intro x0 x1 x2 x3 x4 x6 x7 x9 x14 x18 x21 x22 x23 h hw
    change b_Lw_orders_366 R K353 (w_Lw_orders_366 R K353 n) x0 x1 x2 x3 x4 x6 x7 x9 x14 x18 x21 x22 x23 h at hw
    unfold b_Lw_orders_366 at hw
    refine tq_iload dLw_orders_366 rfl ?_
    refine tq_aload dLw_orders_368 rfl ?_
    refine tq_iconst (v := (0 : Int32)) dLw_orders_370 tni_0 ?_
    obtain ⟨a1, e2, f3, hw⟩ := hw
    obtain ⟨f4, hw⟩ := hw
    refine te_iald dLw_orders_371 e2 (Or.inl f3) f4 ?_
    refine tq_icmpgt (tgt := 406) dLw_orders_372 (by decide) (fun c5 => ?_) (fun c5 => ?_)
    · have hw := hw.1 c5
      refine tq_iload dLw_orders_406 rfl ?_
      refine tq_ifne (tgt := 436) dLw_orders_408 (by decide) (fun c6 => ?_) (fun c6 => ?_)
      · have hw := hw.1 c6
        refine tq_inc (k := (1 : Int32)) (ls' := [some (vR x0), some (vR x1), some (vR x2), some (vR x3), some (vR x4), none, some (vI x6), some (vR x7), none, some (vR x9), none, none, none, none, some (vI x14), none, none, none, some (vI x18), none, none, some (vI (x21 + (1 : Int32))), some (vI x22), some (vI x23)]) dLw_orders_436 rfl tni_1 (Nat.le_of_ble_eq_true rfl) rfl ?_
        refine tq_goto (tgt := 353) dLw_orders_439 (by decide) ?_
        refine tpR.fo (ls' := [some (vR x0), some (vR x1), some (vR x2), some (vR x3), some (vR x4), none, some (vI x6), some (vR x7), none, some (vR x9), none, none, none, none, some (vI x14), none, none, none, some (vI x18), none, none, some (vI (x21 + (1 : Int32))), none, none]) ?_ (And.intro rfl (And.intro rfl (And.intro rfl (And.intro rfl (And.intro rfl (And.intro rfl (And.intro rfl (And.intro rfl (And.intro rfl (And.intro rfl (And.intro rfl trivial)))))))))))
        exact k353 _ _ _ _ _ _ _ _ _ _ _ _ hw
      · have hw := hw.2 c6
        refine tq_aload dLw_orders_411 rfl ?_
        refine tq_aload dLw_orders_413 rfl ?_
        refine tq_iload dLw_orders_415 rfl ?_
        obtain ⟨a7, e8, f9, hw⟩ := hw
        obtain ⟨f10, hw⟩ := hw
        refine te_iald dLw_orders_417 e8 (Or.inl f9) f10 ?_
        refine tq_aload_n dLw_orders_418 rfl rfl ?_
        refine tq_aload dLw_orders_419 rfl ?_
        refine tq_iload dLw_orders_421 rfl ?_
        refine tq_aload dLw_orders_423 rfl ?_
        refine tq_iload dLw_orders_425 rfl ?_
        obtain ⟨f11, hw⟩ := hw
        refine te_iald dLw_orders_427 e8 (Or.inl f9) f11 ?_
        refine tq_aload dLw_orders_428 rfl ?_
        refine tq_callS ms_Lw_ahead (dc := 2) (as := [vR x0, vR x4, vI x6, vI (hI h a7 x21.toNatClampNeg), vR x7]) (rest := [vI (hI h a7 x21.toNatClampNeg), vR x7]) kLw_113 (Nat.le_of_ble_eq_true rfl) (Nat.le_of_ble_eq_true rfl) rfl rfl (Nat.le_of_ble_eq_true rfl) dLw_orders_430 (s_Lw_ahead hw) (fun _ _ hx => False.elim hx) (tk_i fun v13 h12 hw => ?_)
        refine tq_callS ms_Lw_putsBehind (dc := 0) (as := [vR x7, vI (hI h a7 x21.toNatClampNeg), vI v13]) (rest := []) kLw_117 (Nat.le_of_ble_eq_true rfl) (Nat.le_of_ble_eq_true rfl) rfl rfl (Nat.le_of_ble_eq_true rfl) dLw_orders_433 (s_Lw_putsBehind hw) (fun _ _ hx => False.elim hx) (tk_v fun h14 hw => ?_)
        refine tq_inc (k := (1 : Int32)) (ls' := [some (vR x0), some (vR x1), some (vR x2), some (vR x3), some (vR x4), none, some (vI x6), some (vR x7), none, some (vR x9), none, none, none, none, some (vI x14), none, none, none, some (vI x18), none, none, some (vI (x21 + (1 : Int32))), some (vI x22), some (vI x23)]) dLw_orders_436 rfl tni_1 (Nat.le_of_ble_eq_true rfl) rfl ?_
        refine tq_goto (tgt := 353) dLw_orders_439 (by decide) ?_
        refine tpR.fo (ls' := [some (vR x0), some (vR x1), some (vR x2), some (vR x3), some (vR x4), none, some (vI x6), some (vR x7), none, some (vR x9), none, none, none, none, some (vI x14), none, none, none, some (vI x18), none, none, some (vI (x21 + (1 : Int32))), none, none]) ?_ (And.intro rfl (And.intro rfl (And.intro rfl (And.intro rfl (And.intro rfl (And.intro rfl (And.intro rfl (And.intro rfl (And.intro rfl (And.intro rfl (And.intro rfl trivial)))))))))))
        exact k353 _ _ _ _ _ _ _ _ _ _ _ _ hw
    · have hw := hw.2 c5
      refine tq_iload dLw_orders_375 rfl ?_
      refine tq_ifne (tgt := 393) dLw_orders_377 (by decide) (fun c15 => ?_) (fun c15 => ?_)
      · have hw := hw.1 c15
        refine tq_iconst (v := (1 : Int32)) dLw_orders_393 tni_1 ?_
        refine tq_goto (tgt := 398) dLw_orders_394 (by decide) ?_
        refine tq_istore (ls' := [some (vR x0), some (vR x1), some (vR x2), some (vR x3), some (vR x4), none, some (vI x6), some (vR x7), none, some (vR x9), none, none, none, none, some (vI x14), none, none, none, some (vI x18), none, none, some (vI x21), some (vI (1 : Int32)), some (vI x23)]) dLw_orders_398 (Nat.le_of_ble_eq_true rfl) rfl ?_
        refine tq_inc (k := (1 : Int32)) (ls' := [some (vR x0), some (vR x1), some (vR x2), some (vR x3), some (vR x4), none, some (vI x6), some (vR x7), none, some (vR x9), none, none, none, none, some (vI x14), none, none, none, some (vI x18), none, none, some (vI x21), some (vI (1 : Int32)), some (vI (x23 + (1 : Int32)))]) dLw_orders_400 rfl tni_1 (Nat.le_of_ble_eq_true rfl) rfl ?_
        refine tq_goto (tgt := 366) dLw_orders_403 (by decide) ?_
        refine tpR.fo (ls' := [some (vR x0), some (vR x1), some (vR x2), some (vR x3), some (vR x4), none, some (vI x6), some (vR x7), none, some (vR x9), none, none, none, none, some (vI x14), none, none, none, some (vI x18), none, none, some (vI x21), some (vI (1 : Int32)), some (vI (x23 + (1 : Int32)))]) ?_ (And.intro rfl (And.intro rfl (And.intro rfl (And.intro rfl (And.intro rfl (And.intro rfl (And.intro rfl (And.intro rfl (And.intro rfl (And.intro rfl (And.intro rfl (And.intro rfl (And.intro rfl trivial)))))))))))))
        exact ih _ _ _ _ _ _ _ _ _ _ _ _ _ _ hw
      · have hw := hw.2 c15
        refine tq_aload dLw_orders_380 rfl ?_
        refine tq_iload dLw_orders_382 rfl ?_
        obtain ⟨f16, hw⟩ := hw
        refine te_iald dLw_orders_384 e2 (Or.inl f3) f16 ?_
        refine tq_aload dLw_orders_385 rfl ?_
        refine tq_iload dLw_orders_387 rfl ?_
        obtain ⟨a17, e18, f19, hw⟩ := hw
        obtain ⟨f20, hw⟩ := hw
        refine te_iald dLw_orders_389 e18 (Or.inl f19) f20 ?_
        refine tq_icmpne (tgt := 397) dLw_orders_390 (by decide) (fun c21 => ?_) (fun c21 => ?_)
        · have hw := hw.1 c21
          refine tq_iconst (v := (0 : Int32)) dLw_orders_397 tni_0 ?_
          refine tq_istore (ls' := [some (vR x0), some (vR x1), some (vR x2), some (vR x3), some (vR x4), none, some (vI x6), some (vR x7), none, some (vR x9), none, none, none, none, some (vI x14), none, none, none, some (vI x18), none, none, some (vI x21), some (vI (0 : Int32)), some (vI x23)]) dLw_orders_398 (Nat.le_of_ble_eq_true rfl) rfl ?_
          refine tq_inc (k := (1 : Int32)) (ls' := [some (vR x0), some (vR x1), some (vR x2), some (vR x3), some (vR x4), none, some (vI x6), some (vR x7), none, some (vR x9), none, none, none, none, some (vI x14), none, none, none, some (vI x18), none, none, some (vI x21), some (vI (0 : Int32)), some (vI (x23 + (1 : Int32)))]) dLw_orders_400 rfl tni_1 (Nat.le_of_ble_eq_true rfl) rfl ?_
          refine tq_goto (tgt := 366) dLw_orders_403 (by decide) ?_
          refine tpR.fo (ls' := [some (vR x0), some (vR x1), some (vR x2), some (vR x3), some (vR x4), none, some (vI x6), some (vR x7), none, some (vR x9), none, none, none, none, some (vI x14), none, none, none, some (vI x18), none, none, some (vI x21), some (vI (0 : Int32)), some (vI (x23 + (1 : Int32)))]) ?_ (And.intro rfl (And.intro rfl (And.intro rfl (And.intro rfl (And.intro rfl (And.intro rfl (And.intro rfl (And.intro rfl (And.intro rfl (And.intro rfl (And.intro rfl (And.intro rfl (And.intro rfl trivial)))))))))))))
          exact ih _ _ _ _ _ _ _ _ _ _ _ _ _ _ hw
        · have hw := hw.2 c21
          refine tq_iconst (v := (1 : Int32)) dLw_orders_393 tni_1 ?_
          refine tq_goto (tgt := 398) dLw_orders_394 (by decide) ?_
          refine tq_istore (ls' := [some (vR x0), some (vR x1), some (vR x2), some (vR x3), some (vR x4), none, some (vI x6), some (vR x7), none, some (vR x9), none, none, none, none, some (vI x14), none, none, none, some (vI x18), none, none, some (vI x21), some (vI (1 : Int32)), some (vI x23)]) dLw_orders_398 (Nat.le_of_ble_eq_true rfl) rfl ?_
          refine tq_inc (k := (1 : Int32)) (ls' := [some (vR x0), some (vR x1), some (vR x2), some (vR x3), some (vR x4), none, some (vI x6), some (vR x7), none, some (vR x9), none, none, none, none, some (vI x14), none, none, none, some (vI x18), none, none, some (vI x21), some (vI (1 : Int32)), some (vI (x23 + (1 : Int32)))]) dLw_orders_400 rfl tni_1 (Nat.le_of_ble_eq_true rfl) rfl ?_
          refine tq_goto (tgt := 366) dLw_orders_403 (by decide) ?_
          refine tpR.fo (ls' := [some (vR x0), some (vR x1), some (vR x2), some (vR x3), some (vR x4), none, some (vI x6), some (vR x7), none, some (vR x9), none, none, none, none, some (vI x14), none, none, none, some (vI x18), none, none, some (vI x21), some (vI (1 : Int32)), some (vI (x23 + (1 : Int32)))]) ?_ (And.intro rfl (And.intro rfl (And.intro rfl (And.intro rfl (And.intro rfl (And.intro rfl (And.intro rfl (And.intro rfl (And.intro rfl (And.intro rfl (And.intro rfl (And.intro rfl (And.intro rfl trivial)))))))))))))
          exact ih _ _ _ _ _ _ _ _ _ _ _ _ _ _ hw
theorem s_Lw_orders_553 {h0 : tpH} {av : List tpV} {R : Int32 → tpH → Prop} {K445 : (Option Nat) → (Option Nat) → (Option Nat) → (Option Nat) → Int32 → (Option Nat) → (Option Nat) → Int32 → Int32 → Int32 → tpH → Prop} (k445 : ∀ (x1 : Option Nat) (x2 : Option Nat) (x3 : Option Nat) (x4 : Option Nat) (x6 : Int32) (x7 : Option Nat) (x9 : Option Nat) (x14 : Int32) (x18 : Int32) (x21 : Int32) (h : tpH), K445 x1 x2 x3 x4 x6 x7 x9 x14 x18 x21 h → tpR Lw_orders 3 h0 av (tpOi R (fun _ _ => False)) 445 [none, some (vR x1), some (vR x2), some (vR x3), some (vR x4), none, some (vI x6), some (vR x7), none, some (vR x9), none, none, none, none, some (vI x14), none, none, none, some (vI x18), none, none, some (vI x21), none, none] [] h) : ∀ (x1 : Option Nat) (x2 : Option Nat) (x3 : Option Nat) (x4 : Option Nat) (x6 : Int32) (x7 : Option Nat) (x9 : Option Nat) (x14 : Int32) (x18 : Int32) (x21 : Int32) (t0 : Int32) (t1 : Int32) (t2 : Option Nat) (h : tpH), w_Lw_orders_553 R K445 x1 x2 x3 x4 x6 x7 x9 x14 x18 x21 t0 t1 t2 h → tpR Lw_orders 3 h0 av (tpOi R (fun _ _ => False)) 553 [none, some (vR x1), some (vR x2), some (vR x3), some (vR x4), none, some (vI x6), some (vR x7), none, some (vR x9), none, none, none, none, some (vI x14), none, none, none, some (vI x18), none, none, some (vI x21), none, none] [vI t0, vI t1, vR t2] h := by
  intro x1 x2 x3 x4 x6 x7 x9 x14 x18 x21 t0 t1 t2 h hw
  unfold w_Lw_orders_553 at hw
  refine tq_callS ms_Lw_putsBehind (dc := 0) (as := [vR t2, vI t1, vI t0]) (rest := []) kLw_117 (Nat.le_of_ble_eq_true rfl) (Nat.le_of_ble_eq_true rfl) rfl rfl (Nat.le_of_ble_eq_true rfl) dLw_orders_553 (s_Lw_putsBehind hw) (fun _ _ hx => False.elim hx) (tk_v fun h1 hw => ?_)
  refine tq_inc (k := (1 : Int32)) (ls' := [none, some (vR x1), some (vR x2), some (vR x3), some (vR x4), none, some (vI x6), some (vR x7), none, some (vR x9), none, none, none, none, some (vI x14), none, none, none, some (vI x18), none, none, some (vI (x21 + (1 : Int32))), none, none]) dLw_orders_556 rfl tni_1 (Nat.le_of_ble_eq_true rfl) rfl ?_
  refine tq_goto (tgt := 445) dLw_orders_559 (by decide) ?_
  refine tpR.fo (ls' := [none, some (vR x1), some (vR x2), some (vR x3), some (vR x4), none, some (vI x6), some (vR x7), none, some (vR x9), none, none, none, none, some (vI x14), none, none, none, some (vI x18), none, none, some (vI (x21 + (1 : Int32))), none, none]) ?_ (And.intro rfl (And.intro rfl (And.intro rfl (And.intro rfl (And.intro rfl (And.intro rfl (And.intro rfl (And.intro rfl (And.intro rfl (And.intro rfl trivial))))))))))
  exact k445 _ _ _ _ _ _ _ _ _ _ _ hw
theorem s_Lw_orders_533 {h0 : tpH} {av : List tpV} {R : Int32 → tpH → Prop} {K445 : (Option Nat) → (Option Nat) → (Option Nat) → (Option Nat) → Int32 → (Option Nat) → (Option Nat) → Int32 → Int32 → Int32 → tpH → Prop} (k445 : ∀ (x1 : Option Nat) (x2 : Option Nat) (x3 : Option Nat) (x4 : Option Nat) (x6 : Int32) (x7 : Option Nat) (x9 : Option Nat) (x14 : Int32) (x18 : Int32) (x21 : Int32) (h : tpH), K445 x1 x2 x3 x4 x6 x7 x9 x14 x18 x21 h → tpR Lw_orders 3 h0 av (tpOi R (fun _ _ => False)) 445 [none, some (vR x1), some (vR x2), some (vR x3), some (vR x4), none, some (vI x6), some (vR x7), none, some (vR x9), none, none, none, none, some (vI x14), none, none, none, some (vI x18), none, none, some (vI x21), none, none] [] h) : ∀ (x1 : Option Nat) (x2 : Option Nat) (x3 : Option Nat) (x4 : Option Nat) (x6 : Int32) (x7 : Option Nat) (x9 : Option Nat) (x14 : Int32) (x18 : Int32) (x21 : Int32) (x22 : Int32) (t0 : Int32) (h : tpH), w_Lw_orders_533 R K445 x1 x2 x3 x4 x6 x7 x9 x14 x18 x21 x22 t0 h → tpR Lw_orders 3 h0 av (tpOi R (fun _ _ => False)) 533 [none, some (vR x1), some (vR x2), some (vR x3), some (vR x4), none, some (vI x6), some (vR x7), none, some (vR x9), none, none, none, none, some (vI x14), none, none, none, some (vI x18), none, none, some (vI x21), some (vI x22), none] [vI t0] h := by
  intro x1 x2 x3 x4 x6 x7 x9 x14 x18 x21 x22 t0 h hw
  unfold w_Lw_orders_533 at hw
  refine tq_istore (ls' := [none, some (vR x1), some (vR x2), some (vR x3), some (vR x4), none, some (vI x6), some (vR x7), none, some (vR x9), none, none, none, none, some (vI x14), none, none, none, some (vI x18), none, none, some (vI x21), some (vI x22), some (vI t0)]) dLw_orders_533 (Nat.le_of_ble_eq_true rfl) rfl ?_
  refine tq_aload dLw_orders_535 rfl ?_
  refine tq_iload dLw_orders_537 rfl ?_
  refine tq_iload dLw_orders_539 rfl ?_
  refine tq_iload dLw_orders_541 rfl ?_
  refine tq_icmpge (tgt := 551) dLw_orders_543 (by decide) (fun c1 => ?_) (fun c1 => ?_)
  · have hw := hw.1 c1
    refine tq_iload dLw_orders_551 rfl ?_
    refine tpR.fo (ls' := [none, some (vR x1), some (vR x2), some (vR x3), some (vR x4), none, some (vI x6), some (vR x7), none, some (vR x9), none, none, none, none, some (vI x14), none, none, none, some (vI x18), none, none, some (vI x21), none, none]) ?_ (And.intro rfl (And.intro rfl (And.intro rfl (And.intro rfl (And.intro rfl (And.intro rfl (And.intro rfl (And.intro rfl (And.intro rfl (And.intro rfl trivial))))))))))
    exact s_Lw_orders_553 k445 _ _ _ _ _ _ _ _ _ _ _ _ _ _ hw
  · have hw := hw.2 c1
    refine tq_iload dLw_orders_546 rfl ?_
    refine tq_goto (tgt := 553) dLw_orders_548 (by decide) ?_
    refine tpR.fo (ls' := [none, some (vR x1), some (vR x2), some (vR x3), some (vR x4), none, some (vI x6), some (vR x7), none, some (vR x9), none, none, none, none, some (vI x14), none, none, none, some (vI x18), none, none, some (vI x21), none, none]) ?_ (And.intro rfl (And.intro rfl (And.intro rfl (And.intro rfl (And.intro rfl (And.intro rfl (And.intro rfl (And.intro rfl (And.intro rfl (And.intro rfl trivial))))))))))
    exact s_Lw_orders_553 k445 _ _ _ _ _ _ _ _ _ _ _ _ _ _ hw
theorem s_Lw_orders_503 {h0 : tpH} {av : List tpV} {R : Int32 → tpH → Prop} {K445 : (Option Nat) → (Option Nat) → (Option Nat) → (Option Nat) → Int32 → (Option Nat) → (Option Nat) → Int32 → Int32 → Int32 → tpH → Prop} (k445 : ∀ (x1 : Option Nat) (x2 : Option Nat) (x3 : Option Nat) (x4 : Option Nat) (x6 : Int32) (x7 : Option Nat) (x9 : Option Nat) (x14 : Int32) (x18 : Int32) (x21 : Int32) (h : tpH), K445 x1 x2 x3 x4 x6 x7 x9 x14 x18 x21 h → tpR Lw_orders 3 h0 av (tpOi R (fun _ _ => False)) 445 [none, some (vR x1), some (vR x2), some (vR x3), some (vR x4), none, some (vI x6), some (vR x7), none, some (vR x9), none, none, none, none, some (vI x14), none, none, none, some (vI x18), none, none, some (vI x21), none, none] [] h) : ∀ (x1 : Option Nat) (x2 : Option Nat) (x3 : Option Nat) (x4 : Option Nat) (x6 : Int32) (x7 : Option Nat) (x9 : Option Nat) (x14 : Int32) (x18 : Int32) (x21 : Int32) (t0 : Int32) (h : tpH), w_Lw_orders_503 R K445 x1 x2 x3 x4 x6 x7 x9 x14 x18 x21 t0 h → tpR Lw_orders 3 h0 av (tpOi R (fun _ _ => False)) 503 [none, some (vR x1), some (vR x2), some (vR x3), some (vR x4), none, some (vI x6), some (vR x7), none, some (vR x9), none, none, none, none, some (vI x14), none, none, none, some (vI x18), none, none, some (vI x21), none, none] [vI t0] h := by
  intro x1 x2 x3 x4 x6 x7 x9 x14 x18 x21 t0 h hw
  unfold w_Lw_orders_503 at hw
  refine tq_istore (ls' := [none, some (vR x1), some (vR x2), some (vR x3), some (vR x4), none, some (vI x6), some (vR x7), none, some (vR x9), none, none, none, none, some (vI x14), none, none, none, some (vI x18), none, none, some (vI x21), some (vI t0), none]) dLw_orders_503 (Nat.le_of_ble_eq_true rfl) rfl ?_
  refine tq_aload_n dLw_orders_505 rfl rfl ?_
  refine tq_iload dLw_orders_506 rfl ?_
  refine tq_callS ms_Lw_parentOf (dc := 2) (as := [vR x2, vI x21]) (rest := []) kLw_40 (Nat.le_of_ble_eq_true rfl) (Nat.le_of_ble_eq_true rfl) rfl rfl (Nat.le_of_ble_eq_true rfl) dLw_orders_508 (s_Lw_parentOf hw) (fun _ _ hx => False.elim hx) (tk_i fun v2 h1 hw => ?_)
  refine tq_iload dLw_orders_511 rfl ?_
  refine tq_icmpne (tgt := 531) dLw_orders_513 (by decide) (fun c3 => ?_) (fun c3 => ?_)
  · have hw := hw.1 c3
    refine tq_bipush (v := (99 : Int32)) dLw_orders_531 tnb_99 ?_
    refine tpR.fo (ls' := [none, some (vR x1), some (vR x2), some (vR x3), some (vR x4), none, some (vI x6), some (vR x7), none, some (vR x9), none, none, none, none, some (vI x14), none, none, none, some (vI x18), none, none, some (vI x21), some (vI t0), none]) ?_ (And.intro rfl (And.intro rfl (And.intro rfl (And.intro rfl (And.intro rfl (And.intro rfl (And.intro rfl (And.intro rfl (And.intro rfl (And.intro rfl (And.intro rfl trivial)))))))))))
    exact s_Lw_orders_533 k445 _ _ _ _ _ _ _ _ _ _ _ _ _ hw
  · have hw := hw.2 c3
    refine tq_aload_n dLw_orders_516 rfl rfl ?_
    refine tq_aload dLw_orders_517 rfl ?_
    refine tq_iload dLw_orders_519 rfl ?_
    refine tq_iload dLw_orders_521 rfl ?_
    refine tq_aload dLw_orders_523 rfl ?_
    refine tq_callS ms_Lw_ahead (dc := 2) (as := [vR x2, vR x4, vI x6, vI x21, vR x7]) (rest := []) kLw_113 (Nat.le_of_ble_eq_true rfl) (Nat.le_of_ble_eq_true rfl) rfl rfl (Nat.le_of_ble_eq_true rfl) dLw_orders_525 (s_Lw_ahead hw) (fun _ _ hx => False.elim hx) (tk_i fun v5 h4 hw => ?_)
    refine tq_goto (tgt := 533) dLw_orders_528 (by decide) ?_
    refine tpR.fo (ls' := [none, some (vR x1), some (vR x2), some (vR x3), some (vR x4), none, some (vI x6), some (vR x7), none, some (vR x9), none, none, none, none, some (vI x14), none, none, none, some (vI x18), none, none, some (vI x21), some (vI t0), none]) ?_ (And.intro rfl (And.intro rfl (And.intro rfl (And.intro rfl (And.intro rfl (And.intro rfl (And.intro rfl (And.intro rfl (And.intro rfl (And.intro rfl (And.intro rfl trivial)))))))))))
    exact s_Lw_orders_533 k445 _ _ _ _ _ _ _ _ _ _ _ _ _ hw
theorem s_Lw_orders_445 {h0 : tpH} {av : List tpV} {R : Int32 → tpH → Prop} : ∀ (n : Nat) (x1 : Option Nat) (x2 : Option Nat) (x3 : Option Nat) (x4 : Option Nat) (x6 : Int32) (x7 : Option Nat) (x9 : Option Nat) (x14 : Int32) (x18 : Int32) (x21 : Int32) (h : tpH), w_Lw_orders_445 R n x1 x2 x3 x4 x6 x7 x9 x14 x18 x21 h → tpR Lw_orders 3 h0 av (tpOi R (fun _ _ => False)) 445 [none, some (vR x1), some (vR x2), some (vR x3), some (vR x4), none, some (vI x6), some (vR x7), none, some (vR x9), none, none, none, none, some (vI x14), none, none, none, some (vI x18), none, none, some (vI x21), none, none] [] h := by
  intro n
  induction n with
  | zero => intro x1 x2 x3 x4 x6 x7 x9 x14 x18 x21 h hw; exact False.elim hw
  | succ n ih =>
    intro x1 x2 x3 x4 x6 x7 x9 x14 x18 x21 h hw
    change b_Lw_orders_445 R (w_Lw_orders_445 R n) x1 x2 x3 x4 x6 x7 x9 x14 x18 x21 h at hw
    unfold b_Lw_orders_445 at hw
    refine tq_iload dLw_orders_445 rfl ?_
    refine tq_bipush (v := (40 : Int32)) dLw_orders_447 tnb_40 ?_
    refine tq_icmpge (tgt := 562) dLw_orders_449 (by decide) (fun c1 => ?_) (fun c1 => ?_)
    · have hw := hw.1 c1
      refine tq_iload dLw_orders_562 rfl ?_
      obtain ⟨f2, hw⟩ := hw
      exact tq_iret rfl (tpB_n f2) dLw_orders_564 hw
    · have hw := hw.2 c1
      refine tq_aload_n dLw_orders_452 rfl rfl ?_
      refine tq_iload dLw_orders_453 rfl ?_
      refine tq_callS ms_Lw_parentOf (dc := 2) (as := [vR x3, vI x21]) (rest := []) kLw_40 (Nat.le_of_ble_eq_true rfl) (Nat.le_of_ble_eq_true rfl) rfl rfl (Nat.le_of_ble_eq_true rfl) dLw_orders_455 (s_Lw_parentOf hw) (fun _ _ hx => False.elim hx) (tk_i fun v4 h3 hw => ?_)
      refine tq_iload dLw_orders_458 rfl ?_
      refine tq_icmpne (tgt := 556) dLw_orders_460 (by decide) (fun c5 => ?_) (fun c5 => ?_)
      · have hw := hw.1 c5
        refine tq_inc (k := (1 : Int32)) (ls' := [none, some (vR x1), some (vR x2), some (vR x3), some (vR x4), none, some (vI x6), some (vR x7), none, some (vR x9), none, none, none, none, some (vI x14), none, none, none, some (vI x18), none, none, some (vI (x21 + (1 : Int32))), none, none]) dLw_orders_556 rfl tni_1 (Nat.le_of_ble_eq_true rfl) rfl ?_
        refine tq_goto (tgt := 445) dLw_orders_559 (by decide) ?_
        refine tpR.fo (ls' := [none, some (vR x1), some (vR x2), some (vR x3), some (vR x4), none, some (vI x6), some (vR x7), none, some (vR x9), none, none, none, none, some (vI x14), none, none, none, some (vI x18), none, none, some (vI (x21 + (1 : Int32))), none, none]) ?_ (And.intro rfl (And.intro rfl (And.intro rfl (And.intro rfl (And.intro rfl (And.intro rfl (And.intro rfl (And.intro rfl (And.intro rfl (And.intro rfl trivial))))))))))
        exact ih _ _ _ _ _ _ _ _ _ _ _ hw
      · have hw := hw.2 c5
        refine tq_aload dLw_orders_463 rfl ?_
        refine tq_iload dLw_orders_465 rfl ?_
        refine tq_iload dLw_orders_467 rfl ?_
        refine tq_callS ms_Lw_at (dc := 0) (as := [vR x9, vI x14, vI x21]) (rest := []) kLw_105 (Nat.le_of_ble_eq_true rfl) (Nat.le_of_ble_eq_true rfl) rfl rfl (Nat.le_of_ble_eq_true rfl) dLw_orders_469 (s_Lw_at hw) (fun _ _ hx => False.elim hx) (tk_i fun v7 h6 hw => ?_)
        refine tq_ifge (tgt := 556) dLw_orders_472 (by decide) (fun c8 => ?_) (fun c8 => ?_)
        · have hw := hw.1 c8
          refine tq_inc (k := (1 : Int32)) (ls' := [none, some (vR x1), some (vR x2), some (vR x3), some (vR x4), none, some (vI x6), some (vR x7), none, some (vR x9), none, none, none, none, some (vI x14), none, none, none, some (vI x18), none, none, some (vI (x21 + (1 : Int32))), none, none]) dLw_orders_556 rfl tni_1 (Nat.le_of_ble_eq_true rfl) rfl ?_
          refine tq_goto (tgt := 445) dLw_orders_559 (by decide) ?_
          refine tpR.fo (ls' := [none, some (vR x1), some (vR x2), some (vR x3), some (vR x4), none, some (vI x6), some (vR x7), none, some (vR x9), none, none, none, none, some (vI x14), none, none, none, some (vI x18), none, none, some (vI (x21 + (1 : Int32))), none, none]) ?_ (And.intro rfl (And.intro rfl (And.intro rfl (And.intro rfl (And.intro rfl (And.intro rfl (And.intro rfl (And.intro rfl (And.intro rfl (And.intro rfl trivial))))))))))
          exact ih _ _ _ _ _ _ _ _ _ _ _ hw
        · have hw := hw.2 c8
          refine tq_aload_n dLw_orders_475 rfl rfl ?_
          refine tq_iload dLw_orders_476 rfl ?_
          refine tq_callS ms_Lw_parentOf (dc := 2) (as := [vR x1, vI x21]) (rest := []) kLw_40 (Nat.le_of_ble_eq_true rfl) (Nat.le_of_ble_eq_true rfl) rfl rfl (Nat.le_of_ble_eq_true rfl) dLw_orders_478 (s_Lw_parentOf hw) (fun _ _ hx => False.elim hx) (tk_i fun v10 h9 hw => ?_)
          refine tq_iload dLw_orders_481 rfl ?_
          refine tq_icmpne (tgt := 501) dLw_orders_483 (by decide) (fun c11 => ?_) (fun c11 => ?_)
          · have hw := hw.1 c11
            refine tq_bipush (v := (99 : Int32)) dLw_orders_501 tnb_99 ?_
            refine tpR.fo (ls' := [none, some (vR x1), some (vR x2), some (vR x3), some (vR x4), none, some (vI x6), some (vR x7), none, some (vR x9), none, none, none, none, some (vI x14), none, none, none, some (vI x18), none, none, some (vI x21), none, none]) ?_ (And.intro rfl (And.intro rfl (And.intro rfl (And.intro rfl (And.intro rfl (And.intro rfl (And.intro rfl (And.intro rfl (And.intro rfl (And.intro rfl trivial))))))))))
            exact s_Lw_orders_503 ih _ _ _ _ _ _ _ _ _ _ _ _ hw
          · have hw := hw.2 c11
            refine tq_aload_n dLw_orders_486 rfl rfl ?_
            refine tq_aload dLw_orders_487 rfl ?_
            refine tq_iload dLw_orders_489 rfl ?_
            refine tq_iload dLw_orders_491 rfl ?_
            refine tq_aload dLw_orders_493 rfl ?_
            refine tq_callS ms_Lw_ahead (dc := 2) (as := [vR x1, vR x4, vI x6, vI x21, vR x7]) (rest := []) kLw_113 (Nat.le_of_ble_eq_true rfl) (Nat.le_of_ble_eq_true rfl) rfl rfl (Nat.le_of_ble_eq_true rfl) dLw_orders_495 (s_Lw_ahead hw) (fun _ _ hx => False.elim hx) (tk_i fun v13 h12 hw => ?_)
            refine tq_goto (tgt := 503) dLw_orders_498 (by decide) ?_
            refine tpR.fo (ls' := [none, some (vR x1), some (vR x2), some (vR x3), some (vR x4), none, some (vI x6), some (vR x7), none, some (vR x9), none, none, none, none, some (vI x14), none, none, none, some (vI x18), none, none, some (vI x21), none, none]) ?_ (And.intro rfl (And.intro rfl (And.intro rfl (And.intro rfl (And.intro rfl (And.intro rfl (And.intro rfl (And.intro rfl (And.intro rfl (And.intro rfl trivial))))))))))
            exact s_Lw_orders_503 ih _ _ _ _ _ _ _ _ _ _ _ _ hw
theorem s_Lw_orders_353 {h0 : tpH} {av : List tpV} {R : Int32 → tpH → Prop} : ∀ (n : Nat) (x0 : Option Nat) (x1 : Option Nat) (x2 : Option Nat) (x3 : Option Nat) (x4 : Option Nat) (x6 : Int32) (x7 : Option Nat) (x9 : Option Nat) (x14 : Int32) (x18 : Int32) (x21 : Int32) (h : tpH), w_Lw_orders_353 R n x0 x1 x2 x3 x4 x6 x7 x9 x14 x18 x21 h → tpR Lw_orders 3 h0 av (tpOi R (fun _ _ => False)) 353 [some (vR x0), some (vR x1), some (vR x2), some (vR x3), some (vR x4), none, some (vI x6), some (vR x7), none, some (vR x9), none, none, none, none, some (vI x14), none, none, none, some (vI x18), none, none, some (vI x21), none, none] [] h := by
  intro n
  induction n with
  | zero => intro x0 x1 x2 x3 x4 x6 x7 x9 x14 x18 x21 h hw; exact False.elim hw
  | succ n ih =>
    intro x0 x1 x2 x3 x4 x6 x7 x9 x14 x18 x21 h hw
    change b_Lw_orders_353 R (w_Lw_orders_353 R n) x0 x1 x2 x3 x4 x6 x7 x9 x14 x18 x21 h at hw
    unfold b_Lw_orders_353 at hw
    refine tq_iload dLw_orders_353 rfl ?_
    refine tq_iload dLw_orders_355 rfl ?_
    refine tq_icmpge (tgt := 442) dLw_orders_357 (by decide) (fun c1 => ?_) (fun c1 => ?_)
    · have hw := hw.1 c1
      refine tq_iconst (v := (0 : Int32)) dLw_orders_442 tni_0 ?_
      refine tq_istore (ls' := [some (vR x0), some (vR x1), some (vR x2), some (vR x3), some (vR x4), none, some (vI x6), some (vR x7), none, some (vR x9), none, none, none, none, some (vI x14), none, none, none, some (vI x18), none, none, some (vI (0 : Int32)), none, none]) dLw_orders_443 (Nat.le_of_ble_eq_true rfl) rfl ?_
      refine tpR.fo (ls' := [none, some (vR x1), some (vR x2), some (vR x3), some (vR x4), none, some (vI x6), some (vR x7), none, some (vR x9), none, none, none, none, some (vI x14), none, none, none, some (vI x18), none, none, some (vI (0 : Int32)), none, none]) ?_ (And.intro rfl (And.intro rfl (And.intro rfl (And.intro rfl (And.intro rfl (And.intro rfl (And.intro rfl (And.intro rfl (And.intro rfl (And.intro rfl trivial))))))))))
      obtain ⟨n, hw⟩ := hw
      exact s_Lw_orders_445 n _ _ _ _ _ _ _ _ _ _ _ hw
    · have hw := hw.2 c1
      refine tq_iconst (v := (0 : Int32)) dLw_orders_360 tni_0 ?_
      refine tq_istore (ls' := [some (vR x0), some (vR x1), some (vR x2), some (vR x3), some (vR x4), none, some (vI x6), some (vR x7), none, some (vR x9), none, none, none, none, some (vI x14), none, none, none, some (vI x18), none, none, some (vI x21), some (vI (0 : Int32)), none]) dLw_orders_361 (Nat.le_of_ble_eq_true rfl) rfl ?_
      refine tq_iconst (v := (1 : Int32)) dLw_orders_363 tni_1 ?_
      refine tq_istore (ls' := [some (vR x0), some (vR x1), some (vR x2), some (vR x3), some (vR x4), none, some (vI x6), some (vR x7), none, some (vR x9), none, none, none, none, some (vI x14), none, none, none, some (vI x18), none, none, some (vI x21), some (vI (0 : Int32)), some (vI (1 : Int32))]) dLw_orders_364 (Nat.le_of_ble_eq_true rfl) rfl ?_
      refine tpR.fo (ls' := [some (vR x0), some (vR x1), some (vR x2), some (vR x3), some (vR x4), none, some (vI x6), some (vR x7), none, some (vR x9), none, none, none, none, some (vI x14), none, none, none, some (vI x18), none, none, some (vI x21), some (vI (0 : Int32)), some (vI (1 : Int32))]) ?_ (And.intro rfl (And.intro rfl (And.intro rfl (And.intro rfl (And.intro rfl (And.intro rfl (And.intro rfl (And.intro rfl (And.intro rfl (And.intro rfl (And.intro rfl (And.intro rfl (And.intro rfl trivial)))))))))))))
      obtain ⟨n, hw⟩ := hw
      exact s_Lw_orders_366 ih n _ _ _ _ _ _ _ _ _ _ _ _ _ _ hw
theorem s_Lw_orders_296 {h0 : tpH} {av : List tpV} {R : Int32 → tpH → Prop} {K265 : (Option Nat) → (Option Nat) → (Option Nat) → (Option Nat) → (Option Nat) → Int32 → (Option Nat) → (Option Nat) → (Option Nat) → (Option Nat) → (Option Nat) → Int32 → Int32 → Int32 → Int32 → tpH → Prop} (k265 : ∀ (x0 : Option Nat) (x1 : Option Nat) (x2 : Option Nat) (x3 : Option Nat) (x4 : Option Nat) (x6 : Int32) (x7 : Option Nat) (x9 : Option Nat) (x10 : Option Nat) (x11 : Option Nat) (x12 : Option Nat) (x14 : Int32) (x18 : Int32) (x20 : Int32) (x21 : Int32) (h : tpH), K265 x0 x1 x2 x3 x4 x6 x7 x9 x10 x11 x12 x14 x18 x20 x21 h → tpR Lw_orders 3 h0 av (tpOi R (fun _ _ => False)) 265 [some (vR x0), some (vR x1), some (vR x2), some (vR x3), some (vR x4), none, some (vI x6), some (vR x7), none, some (vR x9), some (vR x10), some (vR x11), some (vR x12), none, some (vI x14), none, none, none, some (vI x18), none, some (vI x20), some (vI x21), none, none] [] h) : ∀ (x0 : Option Nat) (x1 : Option Nat) (x2 : Option Nat) (x3 : Option Nat) (x4 : Option Nat) (x6 : Int32) (x7 : Option Nat) (x9 : Option Nat) (x10 : Option Nat) (x11 : Option Nat) (x12 : Option Nat) (x14 : Int32) (x18 : Int32) (x20 : Int32) (x21 : Int32) (t0 : Int32) (t1 : Int32) (h : tpH), w_Lw_orders_296 R K265 x0 x1 x2 x3 x4 x6 x7 x9 x10 x11 x12 x14 x18 x20 x21 t0 t1 h → tpR Lw_orders 3 h0 av (tpOi R (fun _ _ => False)) 296 [some (vR x0), some (vR x1), some (vR x2), some (vR x3), some (vR x4), none, some (vI x6), some (vR x7), none, some (vR x9), some (vR x10), some (vR x11), some (vR x12), none, some (vI x14), none, none, none, some (vI x18), none, some (vI x20), some (vI x21), none, none] [vI t0, vI t1] h := by
  intro x0 x1 x2 x3 x4 x6 x7 x9 x10 x11 x12 x14 x18 x20 x21 t0 t1 h hw
  unfold w_Lw_orders_296 at hw
  refine tq_icmpgt (tgt := 350) dLw_orders_296 (by decide) (fun c1 => ?_) (fun c1 => ?_)
  · have hw := hw.1 c1
    refine tq_iconst (v := (0 : Int32)) dLw_orders_350 tni_0 ?_
    refine tq_istore (ls' := [some (vR x0), some (vR x1), some (vR x2), some (vR x3), some (vR x4), none, some (vI x6), some (vR x7), none, some (vR x9), some (vR x10), some (vR x11), some (vR x12), none, some (vI x14), none, none, none, some (vI x18), none, some (vI x20), some (vI (0 : Int32)), none, none]) dLw_orders_351 (Nat.le_of_ble_eq_true rfl) rfl ?_
    refine tpR.fo (ls' := [some (vR x0), some (vR x1), some (vR x2), some (vR x3), some (vR x4), none, some (vI x6), some (vR x7), none, some (vR x9), none, none, none, none, some (vI x14), none, none, none, some (vI x18), none, none, some (vI (0 : Int32)), none, none]) ?_ (And.intro rfl (And.intro rfl (And.intro rfl (And.intro rfl (And.intro rfl (And.intro rfl (And.intro rfl (And.intro rfl (And.intro rfl (And.intro rfl (And.intro rfl trivial)))))))))))
    obtain ⟨n, hw⟩ := hw
    exact s_Lw_orders_353 n _ _ _ _ _ _ _ _ _ _ _ _ hw
  · have hw := hw.2 c1
    refine tq_aload dLw_orders_299 rfl ?_
    refine tq_iconst (v := (0 : Int32)) dLw_orders_301 tni_0 ?_
    refine tq_dup2 dLw_orders_302 rfl rfl ?_
    obtain ⟨a2, e3, f4, hw⟩ := hw
    obtain ⟨f5, hw⟩ := hw
    refine te_iald dLw_orders_303 e3 (Or.inl f4) f5 ?_
    refine tq_iconst (v := (1 : Int32)) dLw_orders_304 tni_1 ?_
    refine tq_iadd dLw_orders_305 ?_
    obtain ⟨f6, hw⟩ := hw
    refine te_iast dLw_orders_306 e3 f4 f6 (fun h7 e8 => ?_)
    have hw := hw h7 e8
    refine tq_aload dLw_orders_307 rfl ?_
    refine tq_iload dLw_orders_309 rfl ?_
    refine tq_iload dLw_orders_311 rfl ?_
    refine tq_ifne (tgt := 324) dLw_orders_313 (by decide) (fun c9 => ?_) (fun c9 => ?_)
    · have hw := hw.1 c9
      refine tq_iload dLw_orders_324 rfl ?_
      refine tq_iconst (v := (1 : Int32)) dLw_orders_326 tni_1 ?_
      refine tq_icmpne (tgt := 338) dLw_orders_327 (by decide) (fun c10 => ?_) (fun c10 => ?_)
      · have hw := hw.1 c10
        refine tq_aload dLw_orders_338 rfl ?_
        refine tq_iload dLw_orders_340 rfl ?_
        obtain ⟨a11, e12, f13, hw⟩ := hw
        obtain ⟨f14, hw⟩ := hw
        refine te_iald dLw_orders_342 e12 (Or.inl f13) f14 ?_
        refine tpR.fo (ls' := [some (vR x0), some (vR x1), some (vR x2), some (vR x3), some (vR x4), none, some (vI x6), some (vR x7), none, some (vR x9), some (vR x10), some (vR x11), some (vR x12), none, some (vI x14), none, none, none, some (vI x18), none, some (vI x20), some (vI x21), none, none]) ?_ (And.intro rfl (And.intro rfl (And.intro rfl (And.intro rfl (And.intro rfl (And.intro rfl (And.intro rfl (And.intro rfl (And.intro rfl (And.intro rfl (And.intro rfl (And.intro rfl (And.intro rfl (And.intro rfl (And.intro rfl trivial)))))))))))))))
        exact s_Lw_orders_343 k265 _ _ _ _ _ _ _ _ _ _ _ _ _ _ _ _ _ _ _ hw
      · have hw := hw.2 c10
        refine tq_aload dLw_orders_330 rfl ?_
        refine tq_iload dLw_orders_332 rfl ?_
        obtain ⟨a15, e16, f17, hw⟩ := hw
        obtain ⟨f18, hw⟩ := hw
        refine te_iald dLw_orders_334 e16 (Or.inl f17) f18 ?_
        refine tq_goto (tgt := 343) dLw_orders_335 (by decide) ?_
        refine tpR.fo (ls' := [some (vR x0), some (vR x1), some (vR x2), some (vR x3), some (vR x4), none, some (vI x6), some (vR x7), none, some (vR x9), some (vR x10), some (vR x11), some (vR x12), none, some (vI x14), none, none, none, some (vI x18), none, some (vI x20), some (vI x21), none, none]) ?_ (And.intro rfl (And.intro rfl (And.intro rfl (And.intro rfl (And.intro rfl (And.intro rfl (And.intro rfl (And.intro rfl (And.intro rfl (And.intro rfl (And.intro rfl (And.intro rfl (And.intro rfl (And.intro rfl (And.intro rfl trivial)))))))))))))))
        exact s_Lw_orders_343 k265 _ _ _ _ _ _ _ _ _ _ _ _ _ _ _ _ _ _ _ hw
    · have hw := hw.2 c9
      refine tq_aload dLw_orders_316 rfl ?_
      refine tq_iload dLw_orders_318 rfl ?_
      obtain ⟨a19, e20, f21, hw⟩ := hw
      obtain ⟨f22, hw⟩ := hw
      refine te_iald dLw_orders_320 e20 (Or.inl f21) f22 ?_
      refine tq_goto (tgt := 343) dLw_orders_321 (by decide) ?_
      refine tpR.fo (ls' := [some (vR x0), some (vR x1), some (vR x2), some (vR x3), some (vR x4), none, some (vI x6), some (vR x7), none, some (vR x9), some (vR x10), some (vR x11), some (vR x12), none, some (vI x14), none, none, none, some (vI x18), none, some (vI x20), some (vI x21), none, none]) ?_ (And.intro rfl (And.intro rfl (And.intro rfl (And.intro rfl (And.intro rfl (And.intro rfl (And.intro rfl (And.intro rfl (And.intro rfl (And.intro rfl (And.intro rfl (And.intro rfl (And.intro rfl (And.intro rfl (And.intro rfl trivial)))))))))))))))
      exact s_Lw_orders_343 k265 _ _ _ _ _ _ _ _ _ _ _ _ _ _ _ _ _ _ _ hw
theorem s_Lw_orders_265 {h0 : tpH} {av : List tpV} {R : Int32 → tpH → Prop} : ∀ (n : Nat) (x0 : Option Nat) (x1 : Option Nat) (x2 : Option Nat) (x3 : Option Nat) (x4 : Option Nat) (x6 : Int32) (x7 : Option Nat) (x9 : Option Nat) (x10 : Option Nat) (x11 : Option Nat) (x12 : Option Nat) (x14 : Int32) (x18 : Int32) (x20 : Int32) (x21 : Int32) (h : tpH), w_Lw_orders_265 R n x0 x1 x2 x3 x4 x6 x7 x9 x10 x11 x12 x14 x18 x20 x21 h → tpR Lw_orders 3 h0 av (tpOi R (fun _ _ => False)) 265 [some (vR x0), some (vR x1), some (vR x2), some (vR x3), some (vR x4), none, some (vI x6), some (vR x7), none, some (vR x9), some (vR x10), some (vR x11), some (vR x12), none, some (vI x14), none, none, none, some (vI x18), none, some (vI x20), some (vI x21), none, none] [] h := by
  intro n
  induction n with
  | zero => intro x0 x1 x2 x3 x4 x6 x7 x9 x10 x11 x12 x14 x18 x20 x21 h hw; exact False.elim hw
  | succ n ih =>
    intro x0 x1 x2 x3 x4 x6 x7 x9 x10 x11 x12 x14 x18 x20 x21 h hw
    change b_Lw_orders_265 R (w_Lw_orders_265 R n) x0 x1 x2 x3 x4 x6 x7 x9 x10 x11 x12 x14 x18 x20 x21 h at hw
    unfold b_Lw_orders_265 at hw
    refine tq_iload dLw_orders_265 rfl ?_
    refine tq_iload dLw_orders_267 rfl ?_
    refine tq_ifne (tgt := 279) dLw_orders_269 (by decide) (fun c1 => ?_) (fun c1 => ?_)
    · have hw := hw.1 c1
      refine tq_iload dLw_orders_279 rfl ?_
      refine tq_iconst (v := (1 : Int32)) dLw_orders_281 tni_1 ?_
      refine tq_icmpne (tgt := 292) dLw_orders_282 (by decide) (fun c2 => ?_) (fun c2 => ?_)
      · have hw := hw.1 c2
        refine tq_aload dLw_orders_292 rfl ?_
        refine tq_iconst (v := (0 : Int32)) dLw_orders_294 tni_0 ?_
        obtain ⟨a3, e4, f5, hw⟩ := hw
        obtain ⟨f6, hw⟩ := hw
        refine te_iald dLw_orders_295 e4 (Or.inl f5) f6 ?_
        refine tpR.fo (ls' := [some (vR x0), some (vR x1), some (vR x2), some (vR x3), some (vR x4), none, some (vI x6), some (vR x7), none, some (vR x9), some (vR x10), some (vR x11), some (vR x12), none, some (vI x14), none, none, none, some (vI x18), none, some (vI x20), some (vI x21), none, none]) ?_ (And.intro rfl (And.intro rfl (And.intro rfl (And.intro rfl (And.intro rfl (And.intro rfl (And.intro rfl (And.intro rfl (And.intro rfl (And.intro rfl (And.intro rfl (And.intro rfl (And.intro rfl (And.intro rfl (And.intro rfl trivial)))))))))))))))
        exact s_Lw_orders_296 ih _ _ _ _ _ _ _ _ _ _ _ _ _ _ _ _ _ _ hw
      · have hw := hw.2 c2
        refine tq_aload dLw_orders_285 rfl ?_
        refine tq_iconst (v := (0 : Int32)) dLw_orders_287 tni_0 ?_
        obtain ⟨a7, e8, f9, hw⟩ := hw
        obtain ⟨f10, hw⟩ := hw
        refine te_iald dLw_orders_288 e8 (Or.inl f9) f10 ?_
        refine tq_goto (tgt := 296) dLw_orders_289 (by decide) ?_
        refine tpR.fo (ls' := [some (vR x0), some (vR x1), some (vR x2), some (vR x3), some (vR x4), none, some (vI x6), some (vR x7), none, some (vR x9), some (vR x10), some (vR x11), some (vR x12), none, some (vI x14), none, none, none, some (vI x18), none, some (vI x20), some (vI x21), none, none]) ?_ (And.intro rfl (And.intro rfl (And.intro rfl (And.intro rfl (And.intro rfl (And.intro rfl (And.intro rfl (And.intro rfl (And.intro rfl (And.intro rfl (And.intro rfl (And.intro rfl (And.intro rfl (And.intro rfl (And.intro rfl trivial)))))))))))))))
        exact s_Lw_orders_296 ih _ _ _ _ _ _ _ _ _ _ _ _ _ _ _ _ _ _ hw
    · have hw := hw.2 c1
      refine tq_aload dLw_orders_272 rfl ?_
      refine tq_iconst (v := (0 : Int32)) dLw_orders_274 tni_0 ?_
      obtain ⟨a11, e12, f13, hw⟩ := hw
      obtain ⟨f14, hw⟩ := hw
      refine te_iald dLw_orders_275 e12 (Or.inl f13) f14 ?_
      refine tq_goto (tgt := 296) dLw_orders_276 (by decide) ?_
      refine tpR.fo (ls' := [some (vR x0), some (vR x1), some (vR x2), some (vR x3), some (vR x4), none, some (vI x6), some (vR x7), none, some (vR x9), some (vR x10), some (vR x11), some (vR x12), none, some (vI x14), none, none, none, some (vI x18), none, some (vI x20), some (vI x21), none, none]) ?_ (And.intro rfl (And.intro rfl (And.intro rfl (And.intro rfl (And.intro rfl (And.intro rfl (And.intro rfl (And.intro rfl (And.intro rfl (And.intro rfl (And.intro rfl (And.intro rfl (And.intro rfl (And.intro rfl (And.intro rfl trivial)))))))))))))))
      exact s_Lw_orders_296 ih _ _ _ _ _ _ _ _ _ _ _ _ _ _ _ _ _ _ hw
theorem s_Lw_orders_215 {h0 : tpH} {av : List tpV} {R : Int32 → tpH → Prop} : ∀ (x0 : Option Nat) (x1 : Option Nat) (x2 : Option Nat) (x3 : Option Nat) (x4 : Option Nat) (x5 : Option Nat) (x6 : Int32) (x7 : Option Nat) (x9 : Option Nat) (x10 : Option Nat) (x11 : Option Nat) (x12 : Option Nat) (x14 : Int32) (x15 : Int32) (t0 : Int32) (h : tpH), w_Lw_orders_215 R x0 x1 x2 x3 x4 x5 x6 x7 x9 x10 x11 x12 x14 x15 t0 h → tpR Lw_orders 3 h0 av (tpOi R (fun _ _ => False)) 215 [some (vR x0), some (vR x1), some (vR x2), some (vR x3), some (vR x4), some (vR x5), some (vI x6), some (vR x7), none, some (vR x9), some (vR x10), some (vR x11), some (vR x12), none, some (vI x14), some (vI x15), none, none, none, none, none, none, none, none] [vI t0] h := by
  intro x0 x1 x2 x3 x4 x5 x6 x7 x9 x10 x11 x12 x14 x15 t0 h hw
  unfold w_Lw_orders_215 at hw
  refine tq_istore (ls' := [some (vR x0), some (vR x1), some (vR x2), some (vR x3), some (vR x4), some (vR x5), some (vI x6), some (vR x7), none, some (vR x9), some (vR x10), some (vR x11), some (vR x12), none, some (vI x14), some (vI x15), none, none, some (vI t0), none, none, none, none, none]) dLw_orders_215 (Nat.le_of_ble_eq_true rfl) rfl ?_
  refine tq_aload_n dLw_orders_217 rfl rfl ?_
  refine tq_aload dLw_orders_218 rfl ?_
  refine tq_iload dLw_orders_220 rfl ?_
  refine tq_aload dLw_orders_222 rfl ?_
  refine tq_iload dLw_orders_224 rfl ?_
  refine tq_aload dLw_orders_226 rfl ?_
  refine tq_callS ms_Lw_shares (dc := 2) (as := [vR x0, vR x4, vI x6, vR x9, vI x14, vR x12]) (rest := []) kLw_109 (Nat.le_of_ble_eq_true rfl) (Nat.le_of_ble_eq_true rfl) rfl rfl (Nat.le_of_ble_eq_true rfl) dLw_orders_228 (s_Lw_shares hw) (fun _ _ hx => False.elim hx) (tk_i fun v2 h1 hw => ?_)
  refine tq_istore (ls' := [some (vR x0), some (vR x1), some (vR x2), some (vR x3), some (vR x4), some (vR x5), some (vI x6), some (vR x7), none, some (vR x9), some (vR x10), some (vR x11), some (vR x12), none, some (vI x14), some (vI x15), none, none, some (vI t0), some (vI v2), none, none, none, none]) dLw_orders_231 (Nat.le_of_ble_eq_true rfl) rfl ?_
  refine tq_aload dLw_orders_233 rfl ?_
  refine tq_iconst (v := (0 : Int32)) dLw_orders_235 tni_0 ?_
  refine tq_iconst (v := (0 : Int32)) dLw_orders_236 tni_0 ?_
  obtain ⟨a3, e4, f5, hw⟩ := hw
  obtain ⟨f6, hw⟩ := hw
  refine te_iast dLw_orders_237 e4 f5 f6 (fun h7 e8 => ?_)
  have hw := hw h7 e8
  refine tq_iload dLw_orders_238 rfl ?_
  refine tq_ifeq (tgt := 250) dLw_orders_240 (by decide) (fun c9 => ?_) (fun c9 => ?_)
  · have hw := hw.1 c9
    refine tq_iload dLw_orders_250 rfl ?_
    refine tq_ifeq (tgt := 259) dLw_orders_252 (by decide) (fun c10 => ?_) (fun c10 => ?_)
    · have hw := hw.1 c10
      refine tq_iconst (v := (2 : Int32)) dLw_orders_259 tni_2 ?_
      refine tq_istore (ls' := [some (vR x0), some (vR x1), some (vR x2), some (vR x3), some (vR x4), some (vR x5), some (vI x6), some (vR x7), none, some (vR x9), some (vR x10), some (vR x11), some (vR x12), none, some (vI x14), some (vI x15), none, none, some (vI t0), some (vI v2), some (vI (2 : Int32)), none, none, none]) dLw_orders_260 (Nat.le_of_ble_eq_true rfl) rfl ?_
      refine tq_iconst (v := (1 : Int32)) dLw_orders_262 tni_1 ?_
      refine tq_istore (ls' := [some (vR x0), some (vR x1), some (vR x2), some (vR x3), some (vR x4), some (vR x5), some (vI x6), some (vR x7), none, some (vR x9), some (vR x10), some (vR x11), some (vR x12), none, some (vI x14), some (vI x15), none, none, some (vI t0), some (vI v2), some (vI (2 : Int32)), some (vI (1 : Int32)), none, none]) dLw_orders_263 (Nat.le_of_ble_eq_true rfl) rfl ?_
      refine tpR.fo (ls' := [some (vR x0), some (vR x1), some (vR x2), some (vR x3), some (vR x4), none, some (vI x6), some (vR x7), none, some (vR x9), some (vR x10), some (vR x11), some (vR x12), none, some (vI x14), none, none, none, some (vI t0), none, some (vI (2 : Int32)), some (vI (1 : Int32)), none, none]) ?_ (And.intro rfl (And.intro rfl (And.intro rfl (And.intro rfl (And.intro rfl (And.intro rfl (And.intro rfl (And.intro rfl (And.intro rfl (And.intro rfl (And.intro rfl (And.intro rfl (And.intro rfl (And.intro rfl (And.intro rfl trivial)))))))))))))))
      obtain ⟨n, hw⟩ := hw
      exact s_Lw_orders_265 n _ _ _ _ _ _ _ _ _ _ _ _ _ _ _ _ hw
    · have hw := hw.2 c10
      refine tq_iconst (v := (1 : Int32)) dLw_orders_255 tni_1 ?_
      refine tq_goto (tgt := 260) dLw_orders_256 (by decide) ?_
      refine tq_istore (ls' := [some (vR x0), some (vR x1), some (vR x2), some (vR x3), some (vR x4), some (vR x5), some (vI x6), some (vR x7), none, some (vR x9), some (vR x10), some (vR x11), some (vR x12), none, some (vI x14), some (vI x15), none, none, some (vI t0), some (vI v2), some (vI (1 : Int32)), none, none, none]) dLw_orders_260 (Nat.le_of_ble_eq_true rfl) rfl ?_
      refine tq_iconst (v := (1 : Int32)) dLw_orders_262 tni_1 ?_
      refine tq_istore (ls' := [some (vR x0), some (vR x1), some (vR x2), some (vR x3), some (vR x4), some (vR x5), some (vI x6), some (vR x7), none, some (vR x9), some (vR x10), some (vR x11), some (vR x12), none, some (vI x14), some (vI x15), none, none, some (vI t0), some (vI v2), some (vI (1 : Int32)), some (vI (1 : Int32)), none, none]) dLw_orders_263 (Nat.le_of_ble_eq_true rfl) rfl ?_
      refine tpR.fo (ls' := [some (vR x0), some (vR x1), some (vR x2), some (vR x3), some (vR x4), none, some (vI x6), some (vR x7), none, some (vR x9), some (vR x10), some (vR x11), some (vR x12), none, some (vI x14), none, none, none, some (vI t0), none, some (vI (1 : Int32)), some (vI (1 : Int32)), none, none]) ?_ (And.intro rfl (And.intro rfl (And.intro rfl (And.intro rfl (And.intro rfl (And.intro rfl (And.intro rfl (And.intro rfl (And.intro rfl (And.intro rfl (And.intro rfl (And.intro rfl (And.intro rfl (And.intro rfl (And.intro rfl trivial)))))))))))))))
      obtain ⟨n, hw⟩ := hw
      exact s_Lw_orders_265 n _ _ _ _ _ _ _ _ _ _ _ _ _ _ _ _ hw
  · have hw := hw.2 c9
    refine tq_aload dLw_orders_243 rfl ?_
    refine tq_iconst (v := (5 : Int32)) dLw_orders_245 tni_5 ?_
    obtain ⟨a11, e12, f13, hw⟩ := hw
    obtain ⟨f14, hw⟩ := hw
    refine te_iald dLw_orders_246 e12 (Or.inl f13) f14 ?_
    refine tq_goto (tgt := 260) dLw_orders_247 (by decide) ?_
    refine tq_istore (ls' := [some (vR x0), some (vR x1), some (vR x2), some (vR x3), some (vR x4), some (vR x5), some (vI x6), some (vR x7), none, some (vR x9), some (vR x10), some (vR x11), some (vR x12), none, some (vI x14), some (vI x15), none, none, some (vI t0), some (vI v2), some (vI (hI h7 a11 (5 : Int32).toNatClampNeg)), none, none, none]) dLw_orders_260 (Nat.le_of_ble_eq_true rfl) rfl ?_
    refine tq_iconst (v := (1 : Int32)) dLw_orders_262 tni_1 ?_
    refine tq_istore (ls' := [some (vR x0), some (vR x1), some (vR x2), some (vR x3), some (vR x4), some (vR x5), some (vI x6), some (vR x7), none, some (vR x9), some (vR x10), some (vR x11), some (vR x12), none, some (vI x14), some (vI x15), none, none, some (vI t0), some (vI v2), some (vI (hI h7 a11 (5 : Int32).toNatClampNeg)), some (vI (1 : Int32)), none, none]) dLw_orders_263 (Nat.le_of_ble_eq_true rfl) rfl ?_
    refine tpR.fo (ls' := [some (vR x0), some (vR x1), some (vR x2), some (vR x3), some (vR x4), none, some (vI x6), some (vR x7), none, some (vR x9), some (vR x10), some (vR x11), some (vR x12), none, some (vI x14), none, none, none, some (vI t0), none, some (vI (hI h7 a11 (5 : Int32).toNatClampNeg)), some (vI (1 : Int32)), none, none]) ?_ (And.intro rfl (And.intro rfl (And.intro rfl (And.intro rfl (And.intro rfl (And.intro rfl (And.intro rfl (And.intro rfl (And.intro rfl (And.intro rfl (And.intro rfl (And.intro rfl (And.intro rfl (And.intro rfl (And.intro rfl trivial)))))))))))))))
    obtain ⟨n, hw⟩ := hw
    exact s_Lw_orders_265 n _ _ _ _ _ _ _ _ _ _ _ _ _ _ _ _ hw
theorem s_Lw_orders_139 {h0 : tpH} {av : List tpV} {R : Int32 → tpH → Prop} : ∀ (n : Nat) (x0 : Option Nat) (x1 : Option Nat) (x2 : Option Nat) (x3 : Option Nat) (x4 : Option Nat) (x5 : Option Nat) (x6 : Int32) (x7 : Option Nat) (x9 : Option Nat) (x10 : Option Nat) (x11 : Option Nat) (x12 : Option Nat) (x14 : Int32) (x15 : Int32) (x16 : Int32) (x17 : Int32) (x18 : Int32) (h : tpH), w_Lw_orders_139 R n x0 x1 x2 x3 x4 x5 x6 x7 x9 x10 x11 x12 x14 x15 x16 x17 x18 h → tpR Lw_orders 3 h0 av (tpOi R (fun _ _ => False)) 139 [some (vR x0), some (vR x1), some (vR x2), some (vR x3), some (vR x4), some (vR x5), some (vI x6), some (vR x7), none, some (vR x9), some (vR x10), some (vR x11), some (vR x12), none, some (vI x14), some (vI x15), some (vI x16), some (vI x17), some (vI x18), none, none, none, none, none] [] h := by
  intro n
  induction n with
  | zero => intro x0 x1 x2 x3 x4 x5 x6 x7 x9 x10 x11 x12 x14 x15 x16 x17 x18 h hw; exact False.elim hw
  | succ n ih =>
    intro x0 x1 x2 x3 x4 x5 x6 x7 x9 x10 x11 x12 x14 x15 x16 x17 x18 h hw
    change b_Lw_orders_139 R (w_Lw_orders_139 R n) x0 x1 x2 x3 x4 x5 x6 x7 x9 x10 x11 x12 x14 x15 x16 x17 x18 h at hw
    unfold b_Lw_orders_139 at hw
    refine tq_iload dLw_orders_139 rfl ?_
    refine tq_bipush (v := (40 : Int32)) dLw_orders_141 tnb_40 ?_
    refine tq_icmpge (tgt := 195) dLw_orders_143 (by decide) (fun c1 => ?_) (fun c1 => ?_)
    · have hw := hw.1 c1
      refine tq_iload dLw_orders_195 rfl ?_
      refine tq_ifeq (tgt := 214) dLw_orders_197 (by decide) (fun c2 => ?_) (fun c2 => ?_)
      · have hw := hw.1 c2
        refine tq_iconst (v := (0 : Int32)) dLw_orders_214 tni_0 ?_
        refine tpR.fo (ls' := [some (vR x0), some (vR x1), some (vR x2), some (vR x3), some (vR x4), some (vR x5), some (vI x6), some (vR x7), none, some (vR x9), some (vR x10), some (vR x11), some (vR x12), none, some (vI x14), some (vI x15), none, none, none, none, none, none, none, none]) ?_ (And.intro rfl (And.intro rfl (And.intro rfl (And.intro rfl (And.intro rfl (And.intro rfl (And.intro rfl (And.intro rfl (And.intro rfl (And.intro rfl (And.intro rfl (And.intro rfl (And.intro rfl (And.intro rfl trivial))))))))))))))
        exact s_Lw_orders_215 _ _ _ _ _ _ _ _ _ _ _ _ _ _ _ _ hw
      · have hw := hw.2 c2
        refine tq_iload dLw_orders_200 rfl ?_
        refine tq_ifeq (tgt := 214) dLw_orders_202 (by decide) (fun c3 => ?_) (fun c3 => ?_)
        · have hw := hw.1 c3
          refine tq_iconst (v := (0 : Int32)) dLw_orders_214 tni_0 ?_
          refine tpR.fo (ls' := [some (vR x0), some (vR x1), some (vR x2), some (vR x3), some (vR x4), some (vR x5), some (vI x6), some (vR x7), none, some (vR x9), some (vR x10), some (vR x11), some (vR x12), none, some (vI x14), some (vI x15), none, none, none, none, none, none, none, none]) ?_ (And.intro rfl (And.intro rfl (And.intro rfl (And.intro rfl (And.intro rfl (And.intro rfl (And.intro rfl (And.intro rfl (And.intro rfl (And.intro rfl (And.intro rfl (And.intro rfl (And.intro rfl (And.intro rfl trivial))))))))))))))
          exact s_Lw_orders_215 _ _ _ _ _ _ _ _ _ _ _ _ _ _ _ _ hw
        · have hw := hw.2 c3
          refine tq_iload dLw_orders_205 rfl ?_
          refine tq_ifne (tgt := 214) dLw_orders_207 (by decide) (fun c4 => ?_) (fun c4 => ?_)
          · have hw := hw.1 c4
            refine tq_iconst (v := (0 : Int32)) dLw_orders_214 tni_0 ?_
            refine tpR.fo (ls' := [some (vR x0), some (vR x1), some (vR x2), some (vR x3), some (vR x4), some (vR x5), some (vI x6), some (vR x7), none, some (vR x9), some (vR x10), some (vR x11), some (vR x12), none, some (vI x14), some (vI x15), none, none, none, none, none, none, none, none]) ?_ (And.intro rfl (And.intro rfl (And.intro rfl (And.intro rfl (And.intro rfl (And.intro rfl (And.intro rfl (And.intro rfl (And.intro rfl (And.intro rfl (And.intro rfl (And.intro rfl (And.intro rfl (And.intro rfl trivial))))))))))))))
            exact s_Lw_orders_215 _ _ _ _ _ _ _ _ _ _ _ _ _ _ _ _ hw
          · have hw := hw.2 c4
            refine tq_iconst (v := (1 : Int32)) dLw_orders_210 tni_1 ?_
            refine tq_goto (tgt := 215) dLw_orders_211 (by decide) ?_
            refine tpR.fo (ls' := [some (vR x0), some (vR x1), some (vR x2), some (vR x3), some (vR x4), some (vR x5), some (vI x6), some (vR x7), none, some (vR x9), some (vR x10), some (vR x11), some (vR x12), none, some (vI x14), some (vI x15), none, none, none, none, none, none, none, none]) ?_ (And.intro rfl (And.intro rfl (And.intro rfl (And.intro rfl (And.intro rfl (And.intro rfl (And.intro rfl (And.intro rfl (And.intro rfl (And.intro rfl (And.intro rfl (And.intro rfl (And.intro rfl (And.intro rfl trivial))))))))))))))
            exact s_Lw_orders_215 _ _ _ _ _ _ _ _ _ _ _ _ _ _ _ _ hw
    · have hw := hw.2 c1
      refine tq_iload dLw_orders_146 rfl ?_
      refine tq_ifeq (tgt := 186) dLw_orders_148 (by decide) (fun c5 => ?_) (fun c5 => ?_)
      · have hw := hw.1 c5
        refine tq_iconst (v := (0 : Int32)) dLw_orders_186 tni_0 ?_
        refine tq_istore (ls' := [some (vR x0), some (vR x1), some (vR x2), some (vR x3), some (vR x4), some (vR x5), some (vI x6), some (vR x7), none, some (vR x9), some (vR x10), some (vR x11), some (vR x12), none, some (vI x14), some (vI x15), some (vI x16), some (vI (0 : Int32)), some (vI x18), none, none, none, none, none]) dLw_orders_187 (Nat.le_of_ble_eq_true rfl) rfl ?_
        refine tq_inc (k := (1 : Int32)) (ls' := [some (vR x0), some (vR x1), some (vR x2), some (vR x3), some (vR x4), some (vR x5), some (vI x6), some (vR x7), none, some (vR x9), some (vR x10), some (vR x11), some (vR x12), none, some (vI x14), some (vI x15), some (vI x16), some (vI (0 : Int32)), some (vI (x18 + (1 : Int32))), none, none, none, none, none]) dLw_orders_189 rfl tni_1 (Nat.le_of_ble_eq_true rfl) rfl ?_
        refine tq_goto (tgt := 139) dLw_orders_192 (by decide) ?_
        refine tpR.fo (ls' := [some (vR x0), some (vR x1), some (vR x2), some (vR x3), some (vR x4), some (vR x5), some (vI x6), some (vR x7), none, some (vR x9), some (vR x10), some (vR x11), some (vR x12), none, some (vI x14), some (vI x15), some (vI x16), some (vI (0 : Int32)), some (vI (x18 + (1 : Int32))), none, none, none, none, none]) ?_ (And.intro rfl (And.intro rfl (And.intro rfl (And.intro rfl (And.intro rfl (And.intro rfl (And.intro rfl (And.intro rfl (And.intro rfl (And.intro rfl (And.intro rfl (And.intro rfl (And.intro rfl (And.intro rfl (And.intro rfl (And.intro rfl (And.intro rfl trivial)))))))))))))))))
        exact ih _ _ _ _ _ _ _ _ _ _ _ _ _ _ _ _ _ _ hw
      · have hw := hw.2 c5
        refine tq_iload dLw_orders_151 rfl ?_
        refine tq_aload dLw_orders_153 rfl ?_
        refine tq_iconst (v := (0 : Int32)) dLw_orders_155 tni_0 ?_
        obtain ⟨a6, e7, f8, hw⟩ := hw
        obtain ⟨f9, hw⟩ := hw
        refine te_iald dLw_orders_156 e7 (Or.inl f8) f9 ?_
        refine tq_icmple (tgt := 169) dLw_orders_157 (by decide) (fun c10 => ?_) (fun c10 => ?_)
        · have hw := hw.1 c10
          refine tpR.fo (ls' := [some (vR x0), some (vR x1), some (vR x2), some (vR x3), some (vR x4), some (vR x5), some (vI x6), some (vR x7), none, some (vR x9), some (vR x10), some (vR x11), some (vR x12), none, some (vI x14), some (vI x15), some (vI x16), none, some (vI x18), none, none, none, none, none]) ?_ (And.intro rfl (And.intro rfl (And.intro rfl (And.intro rfl (And.intro rfl (And.intro rfl (And.intro rfl (And.intro rfl (And.intro rfl (And.intro rfl (And.intro rfl (And.intro rfl (And.intro rfl (And.intro rfl (And.intro rfl (And.intro rfl trivial))))))))))))))))
          exact s_Lw_orders_169 ih _ _ _ _ _ _ _ _ _ _ _ _ _ _ _ _ _ hw
        · have hw := hw.2 c10
          refine tq_iload dLw_orders_160 rfl ?_
          refine tq_aload dLw_orders_162 rfl ?_
          refine tq_iconst (v := (0 : Int32)) dLw_orders_164 tni_0 ?_
          obtain ⟨a11, e12, f13, hw⟩ := hw
          obtain ⟨f14, hw⟩ := hw
          refine te_iald dLw_orders_165 e12 (Or.inl f13) f14 ?_
          refine tq_icmpgt (tgt := 182) dLw_orders_166 (by decide) (fun c15 => ?_) (fun c15 => ?_)
          · have hw := hw.1 c15
            refine tq_iconst (v := (1 : Int32)) dLw_orders_182 tni_1 ?_
            refine tq_goto (tgt := 187) dLw_orders_183 (by decide) ?_
            refine tq_istore (ls' := [some (vR x0), some (vR x1), some (vR x2), some (vR x3), some (vR x4), some (vR x5), some (vI x6), some (vR x7), none, some (vR x9), some (vR x10), some (vR x11), some (vR x12), none, some (vI x14), some (vI x15), some (vI x16), some (vI (1 : Int32)), some (vI x18), none, none, none, none, none]) dLw_orders_187 (Nat.le_of_ble_eq_true rfl) rfl ?_
            refine tq_inc (k := (1 : Int32)) (ls' := [some (vR x0), some (vR x1), some (vR x2), some (vR x3), some (vR x4), some (vR x5), some (vI x6), some (vR x7), none, some (vR x9), some (vR x10), some (vR x11), some (vR x12), none, some (vI x14), some (vI x15), some (vI x16), some (vI (1 : Int32)), some (vI (x18 + (1 : Int32))), none, none, none, none, none]) dLw_orders_189 rfl tni_1 (Nat.le_of_ble_eq_true rfl) rfl ?_
            refine tq_goto (tgt := 139) dLw_orders_192 (by decide) ?_
            refine tpR.fo (ls' := [some (vR x0), some (vR x1), some (vR x2), some (vR x3), some (vR x4), some (vR x5), some (vI x6), some (vR x7), none, some (vR x9), some (vR x10), some (vR x11), some (vR x12), none, some (vI x14), some (vI x15), some (vI x16), some (vI (1 : Int32)), some (vI (x18 + (1 : Int32))), none, none, none, none, none]) ?_ (And.intro rfl (And.intro rfl (And.intro rfl (And.intro rfl (And.intro rfl (And.intro rfl (And.intro rfl (And.intro rfl (And.intro rfl (And.intro rfl (And.intro rfl (And.intro rfl (And.intro rfl (And.intro rfl (And.intro rfl (And.intro rfl (And.intro rfl trivial)))))))))))))))))
            exact ih _ _ _ _ _ _ _ _ _ _ _ _ _ _ _ _ _ _ hw
          · have hw := hw.2 c15
            refine tpR.fo (ls' := [some (vR x0), some (vR x1), some (vR x2), some (vR x3), some (vR x4), some (vR x5), some (vI x6), some (vR x7), none, some (vR x9), some (vR x10), some (vR x11), some (vR x12), none, some (vI x14), some (vI x15), some (vI x16), none, some (vI x18), none, none, none, none, none]) ?_ (And.intro rfl (And.intro rfl (And.intro rfl (And.intro rfl (And.intro rfl (And.intro rfl (And.intro rfl (And.intro rfl (And.intro rfl (And.intro rfl (And.intro rfl (And.intro rfl (And.intro rfl (And.intro rfl (And.intro rfl (And.intro rfl trivial))))))))))))))))
            exact s_Lw_orders_169 ih _ _ _ _ _ _ _ _ _ _ _ _ _ _ _ _ _ hw
theorem s_Lw_orders_61 {h0 : tpH} {av : List tpV} {R : Int32 → tpH → Prop} : ∀ (n : Nat) (x0 : Option Nat) (x1 : Option Nat) (x2 : Option Nat) (x3 : Option Nat) (x4 : Option Nat) (x5 : Option Nat) (x6 : Int32) (x7 : Option Nat) (x8 : Option Nat) (x9 : Option Nat) (x10 : Option Nat) (x11 : Option Nat) (x12 : Option Nat) (x13 : Int32) (x14 : Int32) (x15 : Int32) (h : tpH), w_Lw_orders_61 R n x0 x1 x2 x3 x4 x5 x6 x7 x8 x9 x10 x11 x12 x13 x14 x15 h → tpR Lw_orders 3 h0 av (tpOi R (fun _ _ => False)) 61 [some (vR x0), some (vR x1), some (vR x2), some (vR x3), some (vR x4), some (vR x5), some (vI x6), some (vR x7), some (vR x8), some (vR x9), some (vR x10), some (vR x11), some (vR x12), some (vI x13), some (vI x14), some (vI x15), none, none, none, none, none, none, none, none] [] h := by
  intro n
  induction n with
  | zero => intro x0 x1 x2 x3 x4 x5 x6 x7 x8 x9 x10 x11 x12 x13 x14 x15 h hw; exact False.elim hw
  | succ n ih =>
    intro x0 x1 x2 x3 x4 x5 x6 x7 x8 x9 x10 x11 x12 x13 x14 x15 h hw
    change b_Lw_orders_61 R (w_Lw_orders_61 R n) x0 x1 x2 x3 x4 x5 x6 x7 x8 x9 x10 x11 x12 x13 x14 x15 h at hw
    unfold b_Lw_orders_61 at hw
    refine tq_iload dLw_orders_61 rfl ?_
    refine tq_iload dLw_orders_63 rfl ?_
    refine tq_icmpge (tgt := 101) dLw_orders_65 (by decide) (fun c1 => ?_) (fun c1 => ?_)
    · have hw := hw.1 c1
      refine tq_aload_n dLw_orders_101 rfl rfl ?_
      refine tq_aload dLw_orders_102 rfl ?_
      refine tq_iload dLw_orders_104 rfl ?_
      refine tq_aload dLw_orders_106 rfl ?_
      refine tq_iload dLw_orders_108 rfl ?_
      refine tq_aload dLw_orders_110 rfl ?_
      refine tq_callS ms_Lw_shares (dc := 2) (as := [vR x1, vR x4, vI x6, vR x9, vI x14, vR x10]) (rest := []) kLw_109 (Nat.le_of_ble_eq_true rfl) (Nat.le_of_ble_eq_true rfl) rfl rfl (Nat.le_of_ble_eq_true rfl) dLw_orders_112 (s_Lw_shares hw) (fun _ _ hx => False.elim hx) (tk_i fun v3 h2 hw => ?_)
      refine tq_istore (ls' := [some (vR x0), some (vR x1), some (vR x2), some (vR x3), some (vR x4), some (vR x5), some (vI x6), some (vR x7), some (vR x8), some (vR x9), some (vR x10), some (vR x11), some (vR x12), some (vI x13), some (vI x14), some (vI v3), none, none, none, none, none, none, none, none]) dLw_orders_115 (Nat.le_of_ble_eq_true rfl) rfl ?_
      refine tq_aload_n dLw_orders_117 rfl rfl ?_
      refine tq_aload dLw_orders_118 rfl ?_
      refine tq_iload dLw_orders_120 rfl ?_
      refine tq_aload dLw_orders_122 rfl ?_
      refine tq_iload dLw_orders_124 rfl ?_
      refine tq_aload dLw_orders_126 rfl ?_
      refine tq_callS ms_Lw_shares (dc := 2) (as := [vR x2, vR x4, vI x6, vR x9, vI x14, vR x11]) (rest := []) kLw_109 (Nat.le_of_ble_eq_true rfl) (Nat.le_of_ble_eq_true rfl) rfl rfl (Nat.le_of_ble_eq_true rfl) dLw_orders_128 (s_Lw_shares hw) (fun _ _ hx => False.elim hx) (tk_i fun v5 h4 hw => ?_)
      refine tq_istore (ls' := [some (vR x0), some (vR x1), some (vR x2), some (vR x3), some (vR x4), some (vR x5), some (vI x6), some (vR x7), some (vR x8), some (vR x9), some (vR x10), some (vR x11), some (vR x12), some (vI x13), some (vI x14), some (vI v3), some (vI v5), none, none, none, none, none, none, none]) dLw_orders_131 (Nat.le_of_ble_eq_true rfl) rfl ?_
      refine tq_iconst (v := (1 : Int32)) dLw_orders_133 tni_1 ?_
      refine tq_istore (ls' := [some (vR x0), some (vR x1), some (vR x2), some (vR x3), some (vR x4), some (vR x5), some (vI x6), some (vR x7), some (vR x8), some (vR x9), some (vR x10), some (vR x11), some (vR x12), some (vI x13), some (vI x14), some (vI v3), some (vI v5), some (vI (1 : Int32)), none, none, none, none, none, none]) dLw_orders_134 (Nat.le_of_ble_eq_true rfl) rfl ?_
      refine tq_iconst (v := (0 : Int32)) dLw_orders_136 tni_0 ?_
      refine tq_istore (ls' := [some (vR x0), some (vR x1), some (vR x2), some (vR x3), some (vR x4), some (vR x5), some (vI x6), some (vR x7), some (vR x8), some (vR x9), some (vR x10), some (vR x11), some (vR x12), some (vI x13), some (vI x14), some (vI v3), some (vI v5), some (vI (1 : Int32)), some (vI (0 : Int32)), none, none, none, none, none]) dLw_orders_137 (Nat.le_of_ble_eq_true rfl) rfl ?_
      refine tpR.fo (ls' := [some (vR x0), some (vR x1), some (vR x2), some (vR x3), some (vR x4), some (vR x5), some (vI x6), some (vR x7), none, some (vR x9), some (vR x10), some (vR x11), some (vR x12), none, some (vI x14), some (vI v3), some (vI v5), some (vI (1 : Int32)), some (vI (0 : Int32)), none, none, none, none, none]) ?_ (And.intro rfl (And.intro rfl (And.intro rfl (And.intro rfl (And.intro rfl (And.intro rfl (And.intro rfl (And.intro rfl (And.intro rfl (And.intro rfl (And.intro rfl (And.intro rfl (And.intro rfl (And.intro rfl (And.intro rfl (And.intro rfl (And.intro rfl trivial)))))))))))))))))
      obtain ⟨n, hw⟩ := hw
      exact s_Lw_orders_139 n _ _ _ _ _ _ _ _ _ _ _ _ _ _ _ _ _ _ hw
    · have hw := hw.2 c1
      refine tq_aload_n dLw_orders_68 rfl rfl ?_
      refine tq_aload dLw_orders_69 rfl ?_
      refine tq_iload dLw_orders_71 rfl ?_
      obtain ⟨a6, e7, f8, hw⟩ := hw
      obtain ⟨f9, hw⟩ := hw
      refine te_iald dLw_orders_73 e7 (Or.inl f8) f9 ?_
      refine tq_callS ms_Lw_parentOf (dc := 2) (as := [vR x3, vI (hI h a6 x15.toNatClampNeg)]) (rest := []) kLw_40 (Nat.le_of_ble_eq_true rfl) (Nat.le_of_ble_eq_true rfl) rfl rfl (Nat.le_of_ble_eq_true rfl) dLw_orders_74 (s_Lw_parentOf hw) (fun _ _ hx => False.elim hx) (tk_i fun v11 h10 hw => ?_)
      refine tq_iload dLw_orders_77 rfl ?_
      refine tq_icmpne (tgt := 95) dLw_orders_79 (by decide) (fun c12 => ?_) (fun c12 => ?_)
      · have hw := hw.1 c12
        refine tq_inc (k := (1 : Int32)) (ls' := [some (vR x0), some (vR x1), some (vR x2), some (vR x3), some (vR x4), some (vR x5), some (vI x6), some (vR x7), some (vR x8), some (vR x9), some (vR x10), some (vR x11), some (vR x12), some (vI x13), some (vI x14), some (vI (x15 + (1 : Int32))), none, none, none, none, none, none, none, none]) dLw_orders_95 rfl tni_1 (Nat.le_of_ble_eq_true rfl) rfl ?_
        refine tq_goto (tgt := 61) dLw_orders_98 (by decide) ?_
        refine tpR.fo (ls' := [some (vR x0), some (vR x1), some (vR x2), some (vR x3), some (vR x4), some (vR x5), some (vI x6), some (vR x7), some (vR x8), some (vR x9), some (vR x10), some (vR x11), some (vR x12), some (vI x13), some (vI x14), some (vI (x15 + (1 : Int32))), none, none, none, none, none, none, none, none]) ?_ (And.intro rfl (And.intro rfl (And.intro rfl (And.intro rfl (And.intro rfl (And.intro rfl (And.intro rfl (And.intro rfl (And.intro rfl (And.intro rfl (And.intro rfl (And.intro rfl (And.intro rfl (And.intro rfl (And.intro rfl (And.intro rfl trivial))))))))))))))))
        exact ih _ _ _ _ _ _ _ _ _ _ _ _ _ _ _ _ _ hw
      · have hw := hw.2 c12
        refine tq_aload dLw_orders_82 rfl ?_
        refine tq_iload dLw_orders_84 rfl ?_
        refine tq_aload dLw_orders_86 rfl ?_
        refine tq_iload dLw_orders_88 rfl ?_
        obtain ⟨f13, hw⟩ := hw
        obtain ⟨f14, hw⟩ := hw
        refine te_iald dLw_orders_90 e7 (Or.inl f13) f14 ?_
        obtain ⟨a15, e16, f17, hw⟩ := hw
        obtain ⟨f18, hw⟩ := hw
        refine te_iast dLw_orders_91 e16 f17 f18 (fun h19 e20 => ?_)
        have hw := hw h19 e20
        refine tq_inc (k := (1 : Int32)) (ls' := [some (vR x0), some (vR x1), some (vR x2), some (vR x3), some (vR x4), some (vR x5), some (vI x6), some (vR x7), some (vR x8), some (vR x9), some (vR x10), some (vR x11), some (vR x12), some (vI x13), some (vI (x14 + (1 : Int32))), some (vI x15), none, none, none, none, none, none, none, none]) dLw_orders_92 rfl tni_1 (Nat.le_of_ble_eq_true rfl) rfl ?_
        refine tq_inc (k := (1 : Int32)) (ls' := [some (vR x0), some (vR x1), some (vR x2), some (vR x3), some (vR x4), some (vR x5), some (vI x6), some (vR x7), some (vR x8), some (vR x9), some (vR x10), some (vR x11), some (vR x12), some (vI x13), some (vI (x14 + (1 : Int32))), some (vI (x15 + (1 : Int32))), none, none, none, none, none, none, none, none]) dLw_orders_95 rfl tni_1 (Nat.le_of_ble_eq_true rfl) rfl ?_
        refine tq_goto (tgt := 61) dLw_orders_98 (by decide) ?_
        refine tpR.fo (ls' := [some (vR x0), some (vR x1), some (vR x2), some (vR x3), some (vR x4), some (vR x5), some (vI x6), some (vR x7), some (vR x8), some (vR x9), some (vR x10), some (vR x11), some (vR x12), some (vI x13), some (vI (x14 + (1 : Int32))), some (vI (x15 + (1 : Int32))), none, none, none, none, none, none, none, none]) ?_ (And.intro rfl (And.intro rfl (And.intro rfl (And.intro rfl (And.intro rfl (And.intro rfl (And.intro rfl (And.intro rfl (And.intro rfl (And.intro rfl (And.intro rfl (And.intro rfl (And.intro rfl (And.intro rfl (And.intro rfl (And.intro rfl trivial))))))))))))))))
        exact ih _ _ _ _ _ _ _ _ _ _ _ _ _ _ _ _ _ hw
theorem s_Lw_orders {x0 : Option Nat} {x1 : Option Nat} {x2 : Option Nat} {x3 : Option Nat} {x4 : Option Nat} {x5 : Option Nat} {x6 : Int32} {x7 : Option Nat} {h : tpH} {R : Int32 → tpH → Prop} (hw : w_Lw_orders x0 x1 x2 x3 x4 x5 x6 x7 h R) : tpC Lw_orders 3 [vR x0, vR x1, vR x2, vR x3, vR x4, vR x5, vI x6, vR x7] h (tpOi R (fun _ _ => False)) := by
  refine tpC_of ms_Lw_orders.2.2.2.1 rfl rfl (Nat.le_of_ble_eq_true rfl) ?_
  show tpR Lw_orders 3 h _ _ 0 [some (vR x0), some (vR x1), some (vR x2), some (vR x3), some (vR x4), some (vR x5), some (vI x6), some (vR x7), none, none, none, none, none, none, none, none, none, none, none, none, none, none, none, none] [] h
  unfold w_Lw_orders at hw
  refine tq_bipush (v := (40 : Int32)) dLw_orders_0 tnb_40 ?_
  refine tq_newa tpN_int (N := 40) dLw_orders_2 (by decide) (by decide) (Nat.le_of_ble_eq_true rfl) (fun a1 h2 e3 e4 => ?_)
  have hw := hw a1 h2 e3 e4
  refine tq_astore (ls' := [some (vR x0), some (vR x1), some (vR x2), some (vR x3), some (vR x4), some (vR x5), some (vI x6), some (vR x7), some (vR (some a1)), none, none, none, none, none, none, none, none, none, none, none, none, none, none, none]) dLw_orders_4 (Nat.le_of_ble_eq_true rfl) rfl ?_
  refine tq_bipush (v := (40 : Int32)) dLw_orders_6 tnb_40 ?_
  refine tq_newa tpN_int (N := 40) dLw_orders_8 (by decide) (by decide) (Nat.le_of_ble_eq_true rfl) (fun a5 h6 e7 e8 => ?_)
  have hw := hw a5 h6 e7 e8
  refine tq_astore (ls' := [some (vR x0), some (vR x1), some (vR x2), some (vR x3), some (vR x4), some (vR x5), some (vI x6), some (vR x7), some (vR (some a1)), some (vR (some a5)), none, none, none, none, none, none, none, none, none, none, none, none, none, none]) dLw_orders_10 (Nat.le_of_ble_eq_true rfl) rfl ?_
  refine tq_bipush (v := (41 : Int32)) dLw_orders_12 tnb_41 ?_
  refine tq_newa tpN_int (N := 41) dLw_orders_14 (by decide) (by decide) (Nat.le_of_ble_eq_true rfl) (fun a9 h10 e11 e12 => ?_)
  have hw := hw a9 h10 e11 e12
  refine tq_astore (ls' := [some (vR x0), some (vR x1), some (vR x2), some (vR x3), some (vR x4), some (vR x5), some (vI x6), some (vR x7), some (vR (some a1)), some (vR (some a5)), some (vR (some a9)), none, none, none, none, none, none, none, none, none, none, none, none, none]) dLw_orders_16 (Nat.le_of_ble_eq_true rfl) rfl ?_
  refine tq_bipush (v := (41 : Int32)) dLw_orders_18 tnb_41 ?_
  refine tq_newa tpN_int (N := 41) dLw_orders_20 (by decide) (by decide) (Nat.le_of_ble_eq_true rfl) (fun a13 h14 e15 e16 => ?_)
  have hw := hw a13 h14 e15 e16
  refine tq_astore (ls' := [some (vR x0), some (vR x1), some (vR x2), some (vR x3), some (vR x4), some (vR x5), some (vI x6), some (vR x7), some (vR (some a1)), some (vR (some a5)), some (vR (some a9)), some (vR (some a13)), none, none, none, none, none, none, none, none, none, none, none, none]) dLw_orders_22 (Nat.le_of_ble_eq_true rfl) rfl ?_
  refine tq_bipush (v := (41 : Int32)) dLw_orders_24 tnb_41 ?_
  refine tq_newa tpN_int (N := 41) dLw_orders_26 (by decide) (by decide) (Nat.le_of_ble_eq_true rfl) (fun a17 h18 e19 e20 => ?_)
  have hw := hw a17 h18 e19 e20
  refine tq_astore (ls' := [some (vR x0), some (vR x1), some (vR x2), some (vR x3), some (vR x4), some (vR x5), some (vI x6), some (vR x7), some (vR (some a1)), some (vR (some a5)), some (vR (some a9)), some (vR (some a13)), some (vR (some a17)), none, none, none, none, none, none, none, none, none, none, none]) dLw_orders_28 (Nat.le_of_ble_eq_true rfl) rfl ?_
  refine tq_aload_n dLw_orders_30 rfl rfl ?_
  refine tq_iload dLw_orders_31 rfl ?_
  refine tq_callS ms_Lw_place (dc := 1) (as := [vR x0, vI x6]) (rest := []) kLw_13 (Nat.le_of_ble_eq_true rfl) (Nat.le_of_ble_eq_true rfl) rfl rfl (Nat.le_of_ble_eq_true rfl) dLw_orders_33 (s_Lw_place hw) (fun _ _ hx => False.elim hx) (tk_i fun v22 h21 hw => ?_)
  refine tq_ifge (tgt := 43) dLw_orders_36 (by decide) (fun c23 => ?_) (fun c23 => ?_)
  · have hw := hw.1 c23
    refine tq_aload_n dLw_orders_43 rfl rfl ?_
    refine tq_aload dLw_orders_44 rfl ?_
    refine tq_iload dLw_orders_46 rfl ?_
    refine tq_aload dLw_orders_48 rfl ?_
    refine tq_callS ms_Lw_children (dc := 1) (as := [vR x0, vR x4, vI x6, vR (some a1)]) (rest := []) kLw_36 (Nat.le_of_ble_eq_true rfl) (Nat.le_of_ble_eq_true rfl) rfl rfl (Nat.le_of_ble_eq_true rfl) dLw_orders_50 (s_Lw_children hw) (fun _ _ hx => False.elim hx) (tk_i fun v25 h24 hw => ?_)
    refine tq_istore (ls' := [some (vR x0), some (vR x1), some (vR x2), some (vR x3), some (vR x4), some (vR x5), some (vI x6), some (vR x7), some (vR (some a1)), some (vR (some a5)), some (vR (some a9)), some (vR (some a13)), some (vR (some a17)), some (vI v25), none, none, none, none, none, none, none, none, none, none]) dLw_orders_53 (Nat.le_of_ble_eq_true rfl) rfl ?_
    refine tq_iconst (v := (0 : Int32)) dLw_orders_55 tni_0 ?_
    refine tq_istore (ls' := [some (vR x0), some (vR x1), some (vR x2), some (vR x3), some (vR x4), some (vR x5), some (vI x6), some (vR x7), some (vR (some a1)), some (vR (some a5)), some (vR (some a9)), some (vR (some a13)), some (vR (some a17)), some (vI v25), some (vI (0 : Int32)), none, none, none, none, none, none, none, none, none]) dLw_orders_56 (Nat.le_of_ble_eq_true rfl) rfl ?_
    refine tq_iconst (v := (0 : Int32)) dLw_orders_58 tni_0 ?_
    refine tq_istore (ls' := [some (vR x0), some (vR x1), some (vR x2), some (vR x3), some (vR x4), some (vR x5), some (vI x6), some (vR x7), some (vR (some a1)), some (vR (some a5)), some (vR (some a9)), some (vR (some a13)), some (vR (some a17)), some (vI v25), some (vI (0 : Int32)), some (vI (0 : Int32)), none, none, none, none, none, none, none, none]) dLw_orders_59 (Nat.le_of_ble_eq_true rfl) rfl ?_
    refine tpR.fo (ls' := [some (vR x0), some (vR x1), some (vR x2), some (vR x3), some (vR x4), some (vR x5), some (vI x6), some (vR x7), some (vR (some a1)), some (vR (some a5)), some (vR (some a9)), some (vR (some a13)), some (vR (some a17)), some (vI v25), some (vI (0 : Int32)), some (vI (0 : Int32)), none, none, none, none, none, none, none, none]) ?_ (And.intro rfl (And.intro rfl (And.intro rfl (And.intro rfl (And.intro rfl (And.intro rfl (And.intro rfl (And.intro rfl (And.intro rfl (And.intro rfl (And.intro rfl (And.intro rfl (And.intro rfl (And.intro rfl (And.intro rfl (And.intro rfl trivial))))))))))))))))
    obtain ⟨n, hw⟩ := hw
    exact s_Lw_orders_61 n _ _ _ _ _ _ _ _ _ _ _ _ _ _ _ _ _ hw
  · have hw := hw.2 c23
    refine tq_iconst (v := (0 : Int32)) dLw_orders_39 tni_0 ?_
    refine tq_goto (tgt := 53) dLw_orders_40 (by decide) ?_
    refine tq_istore (ls' := [some (vR x0), some (vR x1), some (vR x2), some (vR x3), some (vR x4), some (vR x5), some (vI x6), some (vR x7), some (vR (some a1)), some (vR (some a5)), some (vR (some a9)), some (vR (some a13)), some (vR (some a17)), some (vI (0 : Int32)), none, none, none, none, none, none, none, none, none, none]) dLw_orders_53 (Nat.le_of_ble_eq_true rfl) rfl ?_
    refine tq_iconst (v := (0 : Int32)) dLw_orders_55 tni_0 ?_
    refine tq_istore (ls' := [some (vR x0), some (vR x1), some (vR x2), some (vR x3), some (vR x4), some (vR x5), some (vI x6), some (vR x7), some (vR (some a1)), some (vR (some a5)), some (vR (some a9)), some (vR (some a13)), some (vR (some a17)), some (vI (0 : Int32)), some (vI (0 : Int32)), none, none, none, none, none, none, none, none, none]) dLw_orders_56 (Nat.le_of_ble_eq_true rfl) rfl ?_
    refine tq_iconst (v := (0 : Int32)) dLw_orders_58 tni_0 ?_
    refine tq_istore (ls' := [some (vR x0), some (vR x1), some (vR x2), some (vR x3), some (vR x4), some (vR x5), some (vI x6), some (vR x7), some (vR (some a1)), some (vR (some a5)), some (vR (some a9)), some (vR (some a13)), some (vR (some a17)), some (vI (0 : Int32)), some (vI (0 : Int32)), some (vI (0 : Int32)), none, none, none, none, none, none, none, none]) dLw_orders_59 (Nat.le_of_ble_eq_true rfl) rfl ?_
    refine tpR.fo (ls' := [some (vR x0), some (vR x1), some (vR x2), some (vR x3), some (vR x4), some (vR x5), some (vI x6), some (vR x7), some (vR (some a1)), some (vR (some a5)), some (vR (some a9)), some (vR (some a13)), some (vR (some a17)), some (vI (0 : Int32)), some (vI (0 : Int32)), some (vI (0 : Int32)), none, none, none, none, none, none, none, none]) ?_ (And.intro rfl (And.intro rfl (And.intro rfl (And.intro rfl (And.intro rfl (And.intro rfl (And.intro rfl (And.intro rfl (And.intro rfl (And.intro rfl (And.intro rfl (And.intro rfl (And.intro rfl (And.intro rfl (And.intro rfl (And.intro rfl trivial))))))))))))))))
    obtain ⟨n, hw⟩ := hw
    exact s_Lw_orders_61 n _ _ _ _ _ _ _ _ _ _ _ _ _ _ _ _ _ hw
