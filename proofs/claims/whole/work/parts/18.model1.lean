/-! TModel.<init> -/
theorem dMd_init_0 : decode (mB Md_init) 0 = .ok (.aload_n 0, 1) := by decide +kernel
theorem dMd_init_1 : decode (mB Md_init) 1 = .ok (.invokespecial 1, 3) := by decide +kernel
theorem dMd_init_4 : decode (mB Md_init) 4 = .ok (.aload_n 0, 1) := by decide +kernel
theorem dMd_init_5 : decode (mB Md_init) 5 = .ok (.sipush 300, 3) := by decide +kernel
theorem dMd_init_8 : decode (mB Md_init) 8 = .ok (.newarray .int, 2) := by decide +kernel
theorem dMd_init_10 : decode (mB Md_init) 10 = .ok (.putfield 7, 3) := by decide +kernel
theorem dMd_init_13 : decode (mB Md_init) 13 = .ok (.aload_n 0, 1) := by decide +kernel
theorem dMd_init_14 : decode (mB Md_init) 14 = .ok (.sipush 300, 3) := by decide +kernel
theorem dMd_init_17 : decode (mB Md_init) 17 = .ok (.newarray .int, 2) := by decide +kernel
theorem dMd_init_19 : decode (mB Md_init) 19 = .ok (.putfield 13, 3) := by decide +kernel
theorem dMd_init_22 : decode (mB Md_init) 22 = .ok (.aload_n 0, 1) := by decide +kernel
theorem dMd_init_23 : decode (mB Md_init) 23 = .ok (.bipush 42, 2) := by decide +kernel
theorem dMd_init_25 : decode (mB Md_init) 25 = .ok (.newarray .int, 2) := by decide +kernel
theorem dMd_init_27 : decode (mB Md_init) 27 = .ok (.putfield 16, 3) := by decide +kernel
theorem dMd_init_30 : decode (mB Md_init) 30 = .ok (.aload_n 0, 1) := by decide +kernel
theorem dMd_init_31 : decode (mB Md_init) 31 = .ok (.sipush 12600, 3) := by decide +kernel
theorem dMd_init_34 : decode (mB Md_init) 34 = .ok (.newarray .int, 2) := by decide +kernel
theorem dMd_init_36 : decode (mB Md_init) 36 = .ok (.putfield 19, 3) := by decide +kernel
theorem dMd_init_39 : decode (mB Md_init) 39 = .ok (.aload_n 0, 1) := by decide +kernel
theorem dMd_init_40 : decode (mB Md_init) 40 = .ok (.sipush 12600, 3) := by decide +kernel
theorem dMd_init_43 : decode (mB Md_init) 43 = .ok (.newarray .int, 2) := by decide +kernel
theorem dMd_init_45 : decode (mB Md_init) 45 = .ok (.putfield 22, 3) := by decide +kernel
theorem dMd_init_48 : decode (mB Md_init) 48 = .ok (.aload_n 0, 1) := by decide +kernel
theorem dMd_init_49 : decode (mB Md_init) 49 = .ok (.sipush 12600, 3) := by decide +kernel
theorem dMd_init_52 : decode (mB Md_init) 52 = .ok (.newarray .int, 2) := by decide +kernel
theorem dMd_init_54 : decode (mB Md_init) 54 = .ok (.putfield 25, 3) := by decide +kernel
theorem dMd_init_57 : decode (mB Md_init) 57 = .ok (.aload_n 0, 1) := by decide +kernel
theorem dMd_init_58 : decode (mB Md_init) 58 = .ok (.sipush 12600, 3) := by decide +kernel
theorem dMd_init_61 : decode (mB Md_init) 61 = .ok (.newarray .int, 2) := by decide +kernel
theorem dMd_init_63 : decode (mB Md_init) 63 = .ok (.putfield 28, 3) := by decide +kernel
theorem dMd_init_66 : decode (mB Md_init) 66 = .ok (.aload_n 0, 1) := by decide +kernel
theorem dMd_init_67 : decode (mB Md_init) 67 = .ok (.bipush 41, 2) := by decide +kernel
theorem dMd_init_69 : decode (mB Md_init) 69 = .ok (.newarray .int, 2) := by decide +kernel
theorem dMd_init_71 : decode (mB Md_init) 71 = .ok (.putfield 31, 3) := by decide +kernel
theorem dMd_init_74 : decode (mB Md_init) 74 = .ok (.aload_n 0, 1) := by decide +kernel
theorem dMd_init_75 : decode (mB Md_init) 75 = .ok (.sipush 4100, 3) := by decide +kernel
theorem dMd_init_78 : decode (mB Md_init) 78 = .ok (.newarray .int, 2) := by decide +kernel
theorem dMd_init_80 : decode (mB Md_init) 80 = .ok (.putfield 34, 3) := by decide +kernel
theorem dMd_init_83 : decode (mB Md_init) 83 = .ok (.aload_n 0, 1) := by decide +kernel
theorem dMd_init_84 : decode (mB Md_init) 84 = .ok (.sipush 4100, 3) := by decide +kernel
theorem dMd_init_87 : decode (mB Md_init) 87 = .ok (.newarray .int, 2) := by decide +kernel
theorem dMd_init_89 : decode (mB Md_init) 89 = .ok (.putfield 37, 3) := by decide +kernel
theorem dMd_init_92 : decode (mB Md_init) 92 = .ok (.aload_n 0, 1) := by decide +kernel
theorem dMd_init_93 : decode (mB Md_init) 93 = .ok (.sipush 4100, 3) := by decide +kernel
theorem dMd_init_96 : decode (mB Md_init) 96 = .ok (.newarray .int, 2) := by decide +kernel
theorem dMd_init_98 : decode (mB Md_init) 98 = .ok (.putfield 40, 3) := by decide +kernel
theorem dMd_init_101 : decode (mB Md_init) 101 = .ok (.aload_n 0, 1) := by decide +kernel
theorem dMd_init_102 : decode (mB Md_init) 102 = .ok (.sipush 4100, 3) := by decide +kernel
theorem dMd_init_105 : decode (mB Md_init) 105 = .ok (.newarray .int, 2) := by decide +kernel
theorem dMd_init_107 : decode (mB Md_init) 107 = .ok (.putfield 43, 3) := by decide +kernel
theorem dMd_init_110 : decode (mB Md_init) 110 = .ok (.aload_n 0, 1) := by decide +kernel
theorem dMd_init_111 : decode (mB Md_init) 111 = .ok (.sipush 4100, 3) := by decide +kernel
theorem dMd_init_114 : decode (mB Md_init) 114 = .ok (.newarray .int, 2) := by decide +kernel
theorem dMd_init_116 : decode (mB Md_init) 116 = .ok (.putfield 46, 3) := by decide +kernel
theorem dMd_init_119 : decode (mB Md_init) 119 = .ok (.aload_n 0, 1) := by decide +kernel
theorem dMd_init_120 : decode (mB Md_init) 120 = .ok (.sipush 4100, 3) := by decide +kernel
theorem dMd_init_123 : decode (mB Md_init) 123 = .ok (.newarray .int, 2) := by decide +kernel
theorem dMd_init_125 : decode (mB Md_init) 125 = .ok (.putfield 49, 3) := by decide +kernel
theorem dMd_init_128 : decode (mB Md_init) 128 = .ok (.aload_n 0, 1) := by decide +kernel
theorem dMd_init_129 : decode (mB Md_init) 129 = .ok (.sipush 4100, 3) := by decide +kernel
theorem dMd_init_132 : decode (mB Md_init) 132 = .ok (.newarray .int, 2) := by decide +kernel
theorem dMd_init_134 : decode (mB Md_init) 134 = .ok (.putfield 52, 3) := by decide +kernel
theorem dMd_init_137 : decode (mB Md_init) 137 = .ok (.aload_n 0, 1) := by decide +kernel
theorem dMd_init_138 : decode (mB Md_init) 138 = .ok (.sipush 4100, 3) := by decide +kernel
theorem dMd_init_141 : decode (mB Md_init) 141 = .ok (.newarray .int, 2) := by decide +kernel
theorem dMd_init_143 : decode (mB Md_init) 143 = .ok (.putfield 55, 3) := by decide +kernel
theorem dMd_init_146 : decode (mB Md_init) 146 = .ok (.aload_n 0, 1) := by decide +kernel
theorem dMd_init_147 : decode (mB Md_init) 147 = .ok (.sipush 4100, 3) := by decide +kernel
theorem dMd_init_150 : decode (mB Md_init) 150 = .ok (.newarray .int, 2) := by decide +kernel
theorem dMd_init_152 : decode (mB Md_init) 152 = .ok (.putfield 58, 3) := by decide +kernel
theorem dMd_init_155 : decode (mB Md_init) 155 = .ok (.aload_n 0, 1) := by decide +kernel
theorem dMd_init_156 : decode (mB Md_init) 156 = .ok (.sipush 4100, 3) := by decide +kernel
theorem dMd_init_159 : decode (mB Md_init) 159 = .ok (.newarray .int, 2) := by decide +kernel
theorem dMd_init_161 : decode (mB Md_init) 161 = .ok (.putfield 61, 3) := by decide +kernel
theorem dMd_init_164 : decode (mB Md_init) 164 = .ok (.aload_n 0, 1) := by decide +kernel
theorem dMd_init_165 : decode (mB Md_init) 165 = .ok (.bipush 6, 2) := by decide +kernel
theorem dMd_init_167 : decode (mB Md_init) 167 = .ok (.newarray .int, 2) := by decide +kernel
theorem dMd_init_169 : decode (mB Md_init) 169 = .ok (.putfield 64, 3) := by decide +kernel
theorem dMd_init_172 : decode (mB Md_init) 172 = .ok (.aload_n 0, 1) := by decide +kernel
theorem dMd_init_173 : decode (mB Md_init) 173 = .ok (.ldc 67, 2) := by decide +kernel
theorem dMd_init_175 : decode (mB Md_init) 175 = .ok (.newarray .int, 2) := by decide +kernel
theorem dMd_init_177 : decode (mB Md_init) 177 = .ok (.putfield 68, 3) := by decide +kernel
theorem dMd_init_180 : decode (mB Md_init) 180 = .ok (.aload_n 0, 1) := by decide +kernel
theorem dMd_init_181 : decode (mB Md_init) 181 = .ok (.bipush 30, 2) := by decide +kernel
theorem dMd_init_183 : decode (mB Md_init) 183 = .ok (.newarray .int, 2) := by decide +kernel
theorem dMd_init_185 : decode (mB Md_init) 185 = .ok (.putfield 71, 3) := by decide +kernel
theorem dMd_init_188 : decode (mB Md_init) 188 = .ok (.aload_n 0, 1) := by decide +kernel
theorem dMd_init_189 : decode (mB Md_init) 189 = .ok (.bipush 30, 2) := by decide +kernel
theorem dMd_init_191 : decode (mB Md_init) 191 = .ok (.newarray .int, 2) := by decide +kernel
theorem dMd_init_193 : decode (mB Md_init) 193 = .ok (.putfield 74, 3) := by decide +kernel
theorem dMd_init_196 : decode (mB Md_init) 196 = .ok (.aload_n 0, 1) := by decide +kernel
theorem dMd_init_197 : decode (mB Md_init) 197 = .ok (.bipush 30, 2) := by decide +kernel
theorem dMd_init_199 : decode (mB Md_init) 199 = .ok (.newarray .int, 2) := by decide +kernel
theorem dMd_init_201 : decode (mB Md_init) 201 = .ok (.putfield 77, 3) := by decide +kernel
theorem dMd_init_204 : decode (mB Md_init) 204 = .ok (.aload_n 0, 1) := by decide +kernel
theorem dMd_init_205 : decode (mB Md_init) 205 = .ok (.bipush 30, 2) := by decide +kernel
theorem dMd_init_207 : decode (mB Md_init) 207 = .ok (.newarray .int, 2) := by decide +kernel
theorem dMd_init_209 : decode (mB Md_init) 209 = .ok (.putfield 80, 3) := by decide +kernel
theorem dMd_init_212 : decode (mB Md_init) 212 = .ok (.aload_n 0, 1) := by decide +kernel
theorem dMd_init_213 : decode (mB Md_init) 213 = .ok (.sipush 300, 3) := by decide +kernel
theorem dMd_init_216 : decode (mB Md_init) 216 = .ok (.newarray .int, 2) := by decide +kernel
theorem dMd_init_218 : decode (mB Md_init) 218 = .ok (.putfield 83, 3) := by decide +kernel
theorem dMd_init_221 : decode (mB Md_init) 221 = .ok (.aload_n 0, 1) := by decide +kernel
theorem dMd_init_222 : decode (mB Md_init) 222 = .ok (.sipush 300, 3) := by decide +kernel
theorem dMd_init_225 : decode (mB Md_init) 225 = .ok (.newarray .int, 2) := by decide +kernel
theorem dMd_init_227 : decode (mB Md_init) 227 = .ok (.putfield 86, 3) := by decide +kernel
theorem dMd_init_230 : decode (mB Md_init) 230 = .ok (.aload_n 0, 1) := by decide +kernel
theorem dMd_init_231 : decode (mB Md_init) 231 = .ok (.sipush 300, 3) := by decide +kernel
theorem dMd_init_234 : decode (mB Md_init) 234 = .ok (.newarray .boolean, 2) := by decide +kernel
theorem dMd_init_236 : decode (mB Md_init) 236 = .ok (.putfield 89, 3) := by decide +kernel
theorem dMd_init_239 : decode (mB Md_init) 239 = .ok (.aload_n 0, 1) := by decide +kernel
theorem dMd_init_240 : decode (mB Md_init) 240 = .ok (.ldc 93, 2) := by decide +kernel
theorem dMd_init_242 : decode (mB Md_init) 242 = .ok (.newarray .boolean, 2) := by decide +kernel
theorem dMd_init_244 : decode (mB Md_init) 244 = .ok (.putfield 94, 3) := by decide +kernel
theorem dMd_init_247 : decode (mB Md_init) 247 = .ok (.aload_n 0, 1) := by decide +kernel
theorem dMd_init_248 : decode (mB Md_init) 248 = .ok (.sipush 300, 3) := by decide +kernel
theorem dMd_init_251 : decode (mB Md_init) 251 = .ok (.newarray .int, 2) := by decide +kernel
theorem dMd_init_253 : decode (mB Md_init) 253 = .ok (.putfield 97, 3) := by decide +kernel
theorem dMd_init_256 : decode (mB Md_init) 256 = .ok (.aload_n 0, 1) := by decide +kernel
theorem dMd_init_257 : decode (mB Md_init) 257 = .ok (.sipush 300, 3) := by decide +kernel
theorem dMd_init_260 : decode (mB Md_init) 260 = .ok (.newarray .int, 2) := by decide +kernel
theorem dMd_init_262 : decode (mB Md_init) 262 = .ok (.putfield 100, 3) := by decide +kernel
theorem dMd_init_265 : decode (mB Md_init) 265 = .ok (.aload_n 0, 1) := by decide +kernel
theorem dMd_init_266 : decode (mB Md_init) 266 = .ok (.sipush 300, 3) := by decide +kernel
theorem dMd_init_269 : decode (mB Md_init) 269 = .ok (.newarray .boolean, 2) := by decide +kernel
theorem dMd_init_271 : decode (mB Md_init) 271 = .ok (.putfield 103, 3) := by decide +kernel
theorem dMd_init_274 : decode (mB Md_init) 274 = .ok (.aload_n 0, 1) := by decide +kernel
theorem dMd_init_275 : decode (mB Md_init) 275 = .ok (.sipush 300, 3) := by decide +kernel
theorem dMd_init_278 : decode (mB Md_init) 278 = .ok (.newarray .int, 2) := by decide +kernel
theorem dMd_init_280 : decode (mB Md_init) 280 = .ok (.putfield 106, 3) := by decide +kernel
theorem dMd_init_283 : decode (mB Md_init) 283 = .ok (.aload_n 0, 1) := by decide +kernel
theorem dMd_init_284 : decode (mB Md_init) 284 = .ok (.sipush 300, 3) := by decide +kernel
theorem dMd_init_287 : decode (mB Md_init) 287 = .ok (.newarray .int, 2) := by decide +kernel
theorem dMd_init_289 : decode (mB Md_init) 289 = .ok (.putfield 109, 3) := by decide +kernel
theorem dMd_init_292 : decode (mB Md_init) 292 = .ok (.aload_n 0, 1) := by decide +kernel
theorem dMd_init_293 : decode (mB Md_init) 293 = .ok (.sipush 300, 3) := by decide +kernel
theorem dMd_init_296 : decode (mB Md_init) 296 = .ok (.newarray .boolean, 2) := by decide +kernel
theorem dMd_init_298 : decode (mB Md_init) 298 = .ok (.putfield 112, 3) := by decide +kernel
theorem dMd_init_301 : decode (mB Md_init) 301 = .ok (.aload_n 0, 1) := by decide +kernel
theorem dMd_init_302 : decode (mB Md_init) 302 = .ok (.sipush 300, 3) := by decide +kernel
theorem dMd_init_305 : decode (mB Md_init) 305 = .ok (.newarray .boolean, 2) := by decide +kernel
theorem dMd_init_307 : decode (mB Md_init) 307 = .ok (.putfield 115, 3) := by decide +kernel
theorem dMd_init_310 : decode (mB Md_init) 310 = .ok (.aload_n 0, 1) := by decide +kernel
theorem dMd_init_311 : decode (mB Md_init) 311 = .ok (.sipush 300, 3) := by decide +kernel
theorem dMd_init_314 : decode (mB Md_init) 314 = .ok (.newarray .int, 2) := by decide +kernel
theorem dMd_init_316 : decode (mB Md_init) 316 = .ok (.putfield 118, 3) := by decide +kernel
theorem dMd_init_319 : decode (mB Md_init) 319 = .ok (.aload_n 0, 1) := by decide +kernel
theorem dMd_init_320 : decode (mB Md_init) 320 = .ok (.sipush 300, 3) := by decide +kernel
theorem dMd_init_323 : decode (mB Md_init) 323 = .ok (.newarray .int, 2) := by decide +kernel
theorem dMd_init_325 : decode (mB Md_init) 325 = .ok (.putfield 121, 3) := by decide +kernel
theorem dMd_init_328 : decode (mB Md_init) 328 = .ok (.aload_n 0, 1) := by decide +kernel
theorem dMd_init_329 : decode (mB Md_init) 329 = .ok (.sipush 300, 3) := by decide +kernel
theorem dMd_init_332 : decode (mB Md_init) 332 = .ok (.newarray .boolean, 2) := by decide +kernel
theorem dMd_init_334 : decode (mB Md_init) 334 = .ok (.putfield 124, 3) := by decide +kernel
theorem dMd_init_337 : decode (mB Md_init) 337 = .ok (.aload_n 0, 1) := by decide +kernel
theorem dMd_init_338 : decode (mB Md_init) 338 = .ok (.sipush 300, 3) := by decide +kernel
theorem dMd_init_341 : decode (mB Md_init) 341 = .ok (.newarray .int, 2) := by decide +kernel
theorem dMd_init_343 : decode (mB Md_init) 343 = .ok (.putfield 127, 3) := by decide +kernel
theorem dMd_init_346 : decode (mB Md_init) 346 = .ok (.aload_n 0, 1) := by decide +kernel
theorem dMd_init_347 : decode (mB Md_init) 347 = .ok (.sipush 300, 3) := by decide +kernel
theorem dMd_init_350 : decode (mB Md_init) 350 = .ok (.newarray .int, 2) := by decide +kernel
theorem dMd_init_352 : decode (mB Md_init) 352 = .ok (.putfield 130, 3) := by decide +kernel
theorem dMd_init_355 : decode (mB Md_init) 355 = .ok (.aload_n 0, 1) := by decide +kernel
theorem dMd_init_356 : decode (mB Md_init) 356 = .ok (.sipush 300, 3) := by decide +kernel
theorem dMd_init_359 : decode (mB Md_init) 359 = .ok (.newarray .boolean, 2) := by decide +kernel
theorem dMd_init_361 : decode (mB Md_init) 361 = .ok (.putfield 133, 3) := by decide +kernel
theorem dMd_init_364 : decode (mB Md_init) 364 = .ok (.aload_n 0, 1) := by decide +kernel
theorem dMd_init_365 : decode (mB Md_init) 365 = .ok (.sipush 300, 3) := by decide +kernel
theorem dMd_init_368 : decode (mB Md_init) 368 = .ok (.newarray .int, 2) := by decide +kernel
theorem dMd_init_370 : decode (mB Md_init) 370 = .ok (.putfield 136, 3) := by decide +kernel
theorem dMd_init_373 : decode (mB Md_init) 373 = .ok (.aload_n 0, 1) := by decide +kernel
theorem dMd_init_374 : decode (mB Md_init) 374 = .ok (.sipush 300, 3) := by decide +kernel
theorem dMd_init_377 : decode (mB Md_init) 377 = .ok (.newarray .int, 2) := by decide +kernel
theorem dMd_init_379 : decode (mB Md_init) 379 = .ok (.putfield 139, 3) := by decide +kernel
theorem dMd_init_382 : decode (mB Md_init) 382 = .ok (.aload_n 0, 1) := by decide +kernel
theorem dMd_init_383 : decode (mB Md_init) 383 = .ok (.sipush 300, 3) := by decide +kernel
theorem dMd_init_386 : decode (mB Md_init) 386 = .ok (.newarray .int, 2) := by decide +kernel
theorem dMd_init_388 : decode (mB Md_init) 388 = .ok (.putfield 142, 3) := by decide +kernel
theorem dMd_init_391 : decode (mB Md_init) 391 = .ok (.aload_n 0, 1) := by decide +kernel
theorem dMd_init_392 : decode (mB Md_init) 392 = .ok (.sipush 300, 3) := by decide +kernel
theorem dMd_init_395 : decode (mB Md_init) 395 = .ok (.newarray .boolean, 2) := by decide +kernel
theorem dMd_init_397 : decode (mB Md_init) 397 = .ok (.putfield 145, 3) := by decide +kernel
theorem dMd_init_400 : decode (mB Md_init) 400 = .ok (.aload_n 0, 1) := by decide +kernel
theorem dMd_init_401 : decode (mB Md_init) 401 = .ok (.bipush 30, 2) := by decide +kernel
theorem dMd_init_403 : decode (mB Md_init) 403 = .ok (.newarray .int, 2) := by decide +kernel
theorem dMd_init_405 : decode (mB Md_init) 405 = .ok (.putfield 148, 3) := by decide +kernel
theorem dMd_init_408 : decode (mB Md_init) 408 = .ok (.iconst 0, 1) := by decide +kernel
theorem dMd_init_409 : decode (mB Md_init) 409 = .ok (.istore_n 1, 1) := by decide +kernel
theorem dMd_init_410 : decode (mB Md_init) 410 = .ok (.iload_n 1, 1) := by decide +kernel
theorem dMd_init_411 : decode (mB Md_init) 411 = .ok (.sipush 12600, 3) := by decide +kernel
theorem dMd_init_414 : decode (mB Md_init) 414 = .ok (.if_icmp .ge 17, 3) := by decide +kernel
theorem dMd_init_417 : decode (mB Md_init) 417 = .ok (.aload_n 0, 1) := by decide +kernel
theorem dMd_init_418 : decode (mB Md_init) 418 = .ok (.getfield 19, 3) := by decide +kernel
theorem dMd_init_421 : decode (mB Md_init) 421 = .ok (.iload_n 1, 1) := by decide +kernel
theorem dMd_init_422 : decode (mB Md_init) 422 = .ok (.bipush (-2), 2) := by decide +kernel
theorem dMd_init_424 : decode (mB Md_init) 424 = .ok (.iastore, 1) := by decide +kernel
theorem dMd_init_425 : decode (mB Md_init) 425 = .ok (.iinc 1 1, 3) := by decide +kernel
theorem dMd_init_428 : decode (mB Md_init) 428 = .ok (.goto (-18), 3) := by decide +kernel
theorem dMd_init_431 : decode (mB Md_init) 431 = .ok (.return_, 1) := by decide +kernel
def b_Md_init_410 (R : tpH → Prop) (Y : Nat → Int32 → tpH → Prop) (o : Nat) (x1 : Int32) (h : tpH) : Prop :=
  ((12600 : Int32) ≤ x1 → (R h)) ∧ (¬ (12600 : Int32) ≤ x1 → (hT h o = 14 ∧ (∃ a3, (hR h o 6) = some a3 ∧ hT h a3 = 15 ∧ (vp_in x1 (hL h a3) ∧ (∀ h7, h7 = sI h a3 x1.toNatClampNeg (-2 : Int32) → (Y o (x1 + (1 : Int32)) h7))))))
def w_Md_init_410 (R : tpH → Prop) : Nat → Nat → Int32 → tpH → Prop
  | 0 => fun _ _ _ => False
  | n + 1 => b_Md_init_410 R (w_Md_init_410 R n)
def w_Md_init (o : Nat) (h : tpH) (R : tpH → Prop) : Prop :=
  ∀ a1 h2, a1 = hZ h → h2 = nC h 15 300 300 → (hT h2 o = 14 ∧ (∀ h6, h6 = sR h2 o 1 (some a1) → (∀ a8 h9, a8 = hZ h6 → h9 = nC h6 15 300 300 → (hT h9 o = 14 ∧ (∀ h13, h13 = sR h9 o 2 (some a8) → (∀ a15 h16, a15 = hZ h13 → h16 = nC h13 15 42 42 → (hT h16 o = 14 ∧ (∀ h20, h20 = sR h16 o 5 (some a15) → (∀ a22 h23, a22 = hZ h20 → h23 = nC h20 15 12600 12600 → (hT h23 o = 14 ∧ (∀ h27, h27 = sR h23 o 6 (some a22) → (∀ a29 h30, a29 = hZ h27 → h30 = nC h27 15 12600 12600 → (hT h30 o = 14 ∧ (∀ h34, h34 = sR h30 o 7 (some a29) → (∀ a36 h37, a36 = hZ h34 → h37 = nC h34 15 12600 12600 → (hT h37 o = 14 ∧ (∀ h41, h41 = sR h37 o 8 (some a36) → (∀ a43 h44, a43 = hZ h41 → h44 = nC h41 15 12600 12600 → (hT h44 o = 14 ∧ (∀ h48, h48 = sR h44 o 9 (some a43) → (∀ a50 h51, a50 = hZ h48 → h51 = nC h48 15 41 41 → (hT h51 o = 14 ∧ (∀ h55, h55 = sR h51 o 11 (some a50) → (∀ a57 h58, a57 = hZ h55 → h58 = nC h55 15 4100 4100 → (hT h58 o = 14 ∧ (∀ h62, h62 = sR h58 o 12 (some a57) → (∀ a64 h65, a64 = hZ h62 → h65 = nC h62 15 4100 4100 → (hT h65 o = 14 ∧ (∀ h69, h69 = sR h65 o 13 (some a64) → (∀ a71 h72, a71 = hZ h69 → h72 = nC h69 15 4100 4100 → (hT h72 o = 14 ∧ (∀ h76, h76 = sR h72 o 14 (some a71) → (∀ a78 h79, a78 = hZ h76 → h79 = nC h76 15 4100 4100 → (hT h79 o = 14 ∧ (∀ h83, h83 = sR h79 o 15 (some a78) → (∀ a85 h86, a85 = hZ h83 → h86 = nC h83 15 4100 4100 → (hT h86 o = 14 ∧ (∀ h90, h90 = sR h86 o 16 (some a85) → (∀ a92 h93, a92 = hZ h90 → h93 = nC h90 15 4100 4100 → (hT h93 o = 14 ∧ (∀ h97, h97 = sR h93 o 17 (some a92) → (∀ a99 h100, a99 = hZ h97 → h100 = nC h97 15 4100 4100 → (hT h100 o = 14 ∧ (∀ h104, h104 = sR h100 o 18 (some a99) → (∀ a106 h107, a106 = hZ h104 → h107 = nC h104 15 4100 4100 → (hT h107 o = 14 ∧ (∀ h111, h111 = sR h107 o 19 (some a106) → (∀ a113 h114, a113 = hZ h111 → h114 = nC h111 15 4100 4100 → (hT h114 o = 14 ∧ (∀ h118, h118 = sR h114 o 20 (some a113) → (∀ a120 h121, a120 = hZ h118 → h121 = nC h118 15 4100 4100 → (hT h121 o = 14 ∧ (∀ h125, h125 = sR h121 o 21 (some a120) → (∀ a127 h128, a127 = hZ h125 → h128 = nC h125 15 6 6 → (hT h128 o = 14 ∧ (∀ h132, h132 = sR h128 o 23 (some a127) → (∀ a134 h135, a134 = hZ h132 → h135 = nC h132 15 92000 92000 → (hT h135 o = 14 ∧ (∀ h139, h139 = sR h135 o 25 (some a134) → (∀ a141 h142, a141 = hZ h139 → h142 = nC h139 15 30 30 → (hT h142 o = 14 ∧ (∀ h146, h146 = sR h142 o 27 (some a141) → (∀ a148 h149, a148 = hZ h146 → h149 = nC h146 15 30 30 → (hT h149 o = 14 ∧ (∀ h153, h153 = sR h149 o 28 (some a148) → (∀ a155 h156, a155 = hZ h153 → h156 = nC h153 15 30 30 → (hT h156 o = 14 ∧ (∀ h160, h160 = sR h156 o 29 (some a155) → (∀ a162 h163, a162 = hZ h160 → h163 = nC h160 15 30 30 → (hT h163 o = 14 ∧ (∀ h167, h167 = sR h163 o 30 (some a162) → (∀ a169 h170, a169 = hZ h167 → h170 = nC h167 15 300 300 → (hT h170 o = 14 ∧ (∀ h174, h174 = sR h170 o 32 (some a169) → (∀ a176 h177, a176 = hZ h174 → h177 = nC h174 15 300 300 → (hT h177 o = 14 ∧ (∀ h181, h181 = sR h177 o 33 (some a176) → (∀ a183 h184, a183 = hZ h181 → h184 = nC h181 16 300 300 → (hT h184 o = 14 ∧ (∀ h188, h188 = sR h184 o 36 (some a183) → (∀ a190 h191, a190 = hZ h188 → h191 = nC h188 16 90000 90000 → (hT h191 o = 14 ∧ (∀ h195, h195 = sR h191 o 37 (some a190) → (∀ a197 h198, a197 = hZ h195 → h198 = nC h195 15 300 300 → (hT h198 o = 14 ∧ (∀ h202, h202 = sR h198 o 38 (some a197) → (∀ a204 h205, a204 = hZ h202 → h205 = nC h202 15 300 300 → (hT h205 o = 14 ∧ (∀ h209, h209 = sR h205 o 39 (some a204) → (∀ a211 h212, a211 = hZ h209 → h212 = nC h209 16 300 300 → (hT h212 o = 14 ∧ (∀ h216, h216 = sR h212 o 40 (some a211) → (∀ a218 h219, a218 = hZ h216 → h219 = nC h216 15 300 300 → (hT h219 o = 14 ∧ (∀ h223, h223 = sR h219 o 41 (some a218) → (∀ a225 h226, a225 = hZ h223 → h226 = nC h223 15 300 300 → (hT h226 o = 14 ∧ (∀ h230, h230 = sR h226 o 42 (some a225) → (∀ a232 h233, a232 = hZ h230 → h233 = nC h230 16 300 300 → (hT h233 o = 14 ∧ (∀ h237, h237 = sR h233 o 43 (some a232) → (∀ a239 h240, a239 = hZ h237 → h240 = nC h237 16 300 300 → (hT h240 o = 14 ∧ (∀ h244, h244 = sR h240 o 44 (some a239) → (∀ a246 h247, a246 = hZ h244 → h247 = nC h244 15 300 300 → (hT h247 o = 14 ∧ (∀ h251, h251 = sR h247 o 45 (some a246) → (∀ a253 h254, a253 = hZ h251 → h254 = nC h251 15 300 300 → (hT h254 o = 14 ∧ (∀ h258, h258 = sR h254 o 46 (some a253) → (∀ a260 h261, a260 = hZ h258 → h261 = nC h258 16 300 300 → (hT h261 o = 14 ∧ (∀ h265, h265 = sR h261 o 47 (some a260) → (∀ a267 h268, a267 = hZ h265 → h268 = nC h265 15 300 300 → (hT h268 o = 14 ∧ (∀ h272, h272 = sR h268 o 48 (some a267) → (∀ a274 h275, a274 = hZ h272 → h275 = nC h272 15 300 300 → (hT h275 o = 14 ∧ (∀ h279, h279 = sR h275 o 49 (some a274) → (∀ a281 h282, a281 = hZ h279 → h282 = nC h279 16 300 300 → (hT h282 o = 14 ∧ (∀ h286, h286 = sR h282 o 50 (some a281) → (∀ a288 h289, a288 = hZ h286 → h289 = nC h286 15 300 300 → (hT h289 o = 14 ∧ (∀ h293, h293 = sR h289 o 51 (some a288) → (∀ a295 h296, a295 = hZ h293 → h296 = nC h293 15 300 300 → (hT h296 o = 14 ∧ (∀ h300, h300 = sR h296 o 53 (some a295) → (∀ a302 h303, a302 = hZ h300 → h303 = nC h300 15 300 300 → (hT h303 o = 14 ∧ (∀ h307, h307 = sR h303 o 55 (some a302) → (∀ a309 h310, a309 = hZ h307 → h310 = nC h307 16 300 300 → (hT h310 o = 14 ∧ (∀ h314, h314 = sR h310 o 56 (some a309) → (∀ a316 h317, a316 = hZ h314 → h317 = nC h314 15 30 30 → (hT h317 o = 14 ∧ (∀ h321, h321 = sR h317 o 57 (some a316) → (∃ n, w_Md_init_410 R n o (0 : Int32) h321))))))))))))))))))))))))))))))))))))))))))))))))))))))))))))))))))))))))))))))))))))))))))))))))))))))))))))))))))))))))))))))))))))))))))
theorem s_Md_init_410 {h0 : tpH} {av : List tpV} {R : tpH → Prop} : ∀ (n : Nat) (o : Nat) (x1 : Int32) (h : tpH), w_Md_init_410 R n o x1 h → tpR Md_init 1 h0 av (tpOv R (fun _ _ => False)) 410 [some (vR (some o)), some (vI x1)] [] h := by
  intro n
  induction n with
  | zero => intro o x1 h hw; exact False.elim hw
  | succ n ih =>
    intro o x1 h hw
    change b_Md_init_410 R (w_Md_init_410 R n) o x1 h at hw
    unfold b_Md_init_410 at hw
    refine tq_iload_n dMd_init_410 rfl rfl ?_
    refine tq_sipush (v := (12600 : Int32)) dMd_init_411 tns_12600 ?_
    refine tq_icmpge (tgt := 431) dMd_init_414 (by decide) (fun c1 => ?_) (fun c1 => ?_)
    · have hw := hw.1 c1
      exact tq_vret rfl dMd_init_431 hw
    · have hw := hw.2 c1
      refine tq_aload_n dMd_init_417 rfl rfl ?_
      obtain ⟨f2, hw⟩ := hw
      refine te_getr dMd_init_418 fMd_19 rfl rfl f2 ?_
      refine tq_iload_n dMd_init_421 rfl rfl ?_
      refine tq_bipush (v := (-2 : Int32)) dMd_init_422 tnb_m2 ?_
      obtain ⟨a3, e4, f5, hw⟩ := hw
      obtain ⟨f6, hw⟩ := hw
      refine te_iast dMd_init_424 e4 f5 f6 (fun h7 e8 => ?_)
      have hw := hw h7 e8
      refine tq_inc (k := (1 : Int32)) (ls' := [some (vR (some o)), some (vI (x1 + (1 : Int32)))]) dMd_init_425 rfl tni_1 (Nat.le_of_ble_eq_true rfl) rfl ?_
      refine tq_goto (tgt := 410) dMd_init_428 (by decide) ?_
      refine tpR.fo (ls' := [some (vR (some o)), some (vI (x1 + (1 : Int32)))]) ?_ (And.intro rfl (And.intro rfl trivial))
      exact ih _ _ _ hw
theorem s_Md_init {o : Nat} {h : tpH} {R : tpH → Prop} (hw : w_Md_init o h R) : tpC Md_init 1 [vR (some o)] h (tpOv R (fun _ _ => False)) := by
  refine tpC_of mi_Md_init.2.2.2.1 rfl rfl (Nat.le_of_ble_eq_true rfl) ?_
  show tpR Md_init 1 h _ _ 0 [some (vR (some o)), none] [] h
  unfold w_Md_init at hw
  refine tq_aload_n dMd_init_0 rfl rfl ?_
  refine tq_obj oMd_1 (Nat.le_of_ble_eq_true rfl) (Nat.le_of_ble_eq_true rfl) dMd_init_1 ?_
  refine tq_aload_n dMd_init_4 rfl rfl ?_
  refine tq_sipush (v := (300 : Int32)) dMd_init_5 tns_300 ?_
  refine tq_newa tpN_int (N := 300) dMd_init_8 (by decide) (by decide) (Nat.le_of_ble_eq_true rfl) (fun a1 h2 e3 e4 => ?_)
  have hw := hw a1 h2 e3 e4
  obtain ⟨f5, hw⟩ := hw
  refine te_putr dMd_init_10 pMd_7 rfl rfl rfl f5 (fun h6 e7 => ?_)
  have hw := hw h6 e7
  refine tq_aload_n dMd_init_13 rfl rfl ?_
  refine tq_sipush (v := (300 : Int32)) dMd_init_14 tns_300 ?_
  refine tq_newa tpN_int (N := 300) dMd_init_17 (by decide) (by decide) (Nat.le_of_ble_eq_true rfl) (fun a8 h9 e10 e11 => ?_)
  have hw := hw a8 h9 e10 e11
  obtain ⟨f12, hw⟩ := hw
  refine te_putr dMd_init_19 pMd_13 rfl rfl rfl f12 (fun h13 e14 => ?_)
  have hw := hw h13 e14
  refine tq_aload_n dMd_init_22 rfl rfl ?_
  refine tq_bipush (v := (42 : Int32)) dMd_init_23 tnb_42 ?_
  refine tq_newa tpN_int (N := 42) dMd_init_25 (by decide) (by decide) (Nat.le_of_ble_eq_true rfl) (fun a15 h16 e17 e18 => ?_)
  have hw := hw a15 h16 e17 e18
  obtain ⟨f19, hw⟩ := hw
  refine te_putr dMd_init_27 pMd_16 rfl rfl rfl f19 (fun h20 e21 => ?_)
  have hw := hw h20 e21
  refine tq_aload_n dMd_init_30 rfl rfl ?_
  refine tq_sipush (v := (12600 : Int32)) dMd_init_31 tns_12600 ?_
  refine tq_newa tpN_int (N := 12600) dMd_init_34 (by decide) (by decide) (Nat.le_of_ble_eq_true rfl) (fun a22 h23 e24 e25 => ?_)
  have hw := hw a22 h23 e24 e25
  obtain ⟨f26, hw⟩ := hw
  refine te_putr dMd_init_36 pMd_19 rfl rfl rfl f26 (fun h27 e28 => ?_)
  have hw := hw h27 e28
  refine tq_aload_n dMd_init_39 rfl rfl ?_
  refine tq_sipush (v := (12600 : Int32)) dMd_init_40 tns_12600 ?_
  refine tq_newa tpN_int (N := 12600) dMd_init_43 (by decide) (by decide) (Nat.le_of_ble_eq_true rfl) (fun a29 h30 e31 e32 => ?_)
  have hw := hw a29 h30 e31 e32
  obtain ⟨f33, hw⟩ := hw
  refine te_putr dMd_init_45 pMd_22 rfl rfl rfl f33 (fun h34 e35 => ?_)
  have hw := hw h34 e35
  refine tq_aload_n dMd_init_48 rfl rfl ?_
  refine tq_sipush (v := (12600 : Int32)) dMd_init_49 tns_12600 ?_
  refine tq_newa tpN_int (N := 12600) dMd_init_52 (by decide) (by decide) (Nat.le_of_ble_eq_true rfl) (fun a36 h37 e38 e39 => ?_)
  have hw := hw a36 h37 e38 e39
  obtain ⟨f40, hw⟩ := hw
  refine te_putr dMd_init_54 pMd_25 rfl rfl rfl f40 (fun h41 e42 => ?_)
  have hw := hw h41 e42
  refine tq_aload_n dMd_init_57 rfl rfl ?_
  refine tq_sipush (v := (12600 : Int32)) dMd_init_58 tns_12600 ?_
  refine tq_newa tpN_int (N := 12600) dMd_init_61 (by decide) (by decide) (Nat.le_of_ble_eq_true rfl) (fun a43 h44 e45 e46 => ?_)
  have hw := hw a43 h44 e45 e46
  obtain ⟨f47, hw⟩ := hw
  refine te_putr dMd_init_63 pMd_28 rfl rfl rfl f47 (fun h48 e49 => ?_)
  have hw := hw h48 e49
  refine tq_aload_n dMd_init_66 rfl rfl ?_
  refine tq_bipush (v := (41 : Int32)) dMd_init_67 tnb_41 ?_
  refine tq_newa tpN_int (N := 41) dMd_init_69 (by decide) (by decide) (Nat.le_of_ble_eq_true rfl) (fun a50 h51 e52 e53 => ?_)
  have hw := hw a50 h51 e52 e53
  obtain ⟨f54, hw⟩ := hw
  refine te_putr dMd_init_71 pMd_31 rfl rfl rfl f54 (fun h55 e56 => ?_)
  have hw := hw h55 e56
  refine tq_aload_n dMd_init_74 rfl rfl ?_
  refine tq_sipush (v := (4100 : Int32)) dMd_init_75 tns_4100 ?_
  refine tq_newa tpN_int (N := 4100) dMd_init_78 (by decide) (by decide) (Nat.le_of_ble_eq_true rfl) (fun a57 h58 e59 e60 => ?_)
  have hw := hw a57 h58 e59 e60
  obtain ⟨f61, hw⟩ := hw
  refine te_putr dMd_init_80 pMd_34 rfl rfl rfl f61 (fun h62 e63 => ?_)
  have hw := hw h62 e63
  refine tq_aload_n dMd_init_83 rfl rfl ?_
  refine tq_sipush (v := (4100 : Int32)) dMd_init_84 tns_4100 ?_
  refine tq_newa tpN_int (N := 4100) dMd_init_87 (by decide) (by decide) (Nat.le_of_ble_eq_true rfl) (fun a64 h65 e66 e67 => ?_)
  have hw := hw a64 h65 e66 e67
  obtain ⟨f68, hw⟩ := hw
  refine te_putr dMd_init_89 pMd_37 rfl rfl rfl f68 (fun h69 e70 => ?_)
  have hw := hw h69 e70
  refine tq_aload_n dMd_init_92 rfl rfl ?_
  refine tq_sipush (v := (4100 : Int32)) dMd_init_93 tns_4100 ?_
  refine tq_newa tpN_int (N := 4100) dMd_init_96 (by decide) (by decide) (Nat.le_of_ble_eq_true rfl) (fun a71 h72 e73 e74 => ?_)
  have hw := hw a71 h72 e73 e74
  obtain ⟨f75, hw⟩ := hw
  refine te_putr dMd_init_98 pMd_40 rfl rfl rfl f75 (fun h76 e77 => ?_)
  have hw := hw h76 e77
  refine tq_aload_n dMd_init_101 rfl rfl ?_
  refine tq_sipush (v := (4100 : Int32)) dMd_init_102 tns_4100 ?_
  refine tq_newa tpN_int (N := 4100) dMd_init_105 (by decide) (by decide) (Nat.le_of_ble_eq_true rfl) (fun a78 h79 e80 e81 => ?_)
  have hw := hw a78 h79 e80 e81
  obtain ⟨f82, hw⟩ := hw
  refine te_putr dMd_init_107 pMd_43 rfl rfl rfl f82 (fun h83 e84 => ?_)
  have hw := hw h83 e84
  refine tq_aload_n dMd_init_110 rfl rfl ?_
  refine tq_sipush (v := (4100 : Int32)) dMd_init_111 tns_4100 ?_
  refine tq_newa tpN_int (N := 4100) dMd_init_114 (by decide) (by decide) (Nat.le_of_ble_eq_true rfl) (fun a85 h86 e87 e88 => ?_)
  have hw := hw a85 h86 e87 e88
  obtain ⟨f89, hw⟩ := hw
  refine te_putr dMd_init_116 pMd_46 rfl rfl rfl f89 (fun h90 e91 => ?_)
  have hw := hw h90 e91
  refine tq_aload_n dMd_init_119 rfl rfl ?_
  refine tq_sipush (v := (4100 : Int32)) dMd_init_120 tns_4100 ?_
  refine tq_newa tpN_int (N := 4100) dMd_init_123 (by decide) (by decide) (Nat.le_of_ble_eq_true rfl) (fun a92 h93 e94 e95 => ?_)
  have hw := hw a92 h93 e94 e95
  obtain ⟨f96, hw⟩ := hw
  refine te_putr dMd_init_125 pMd_49 rfl rfl rfl f96 (fun h97 e98 => ?_)
  have hw := hw h97 e98
  refine tq_aload_n dMd_init_128 rfl rfl ?_
  refine tq_sipush (v := (4100 : Int32)) dMd_init_129 tns_4100 ?_
  refine tq_newa tpN_int (N := 4100) dMd_init_132 (by decide) (by decide) (Nat.le_of_ble_eq_true rfl) (fun a99 h100 e101 e102 => ?_)
  have hw := hw a99 h100 e101 e102
  obtain ⟨f103, hw⟩ := hw
  refine te_putr dMd_init_134 pMd_52 rfl rfl rfl f103 (fun h104 e105 => ?_)
  have hw := hw h104 e105
  refine tq_aload_n dMd_init_137 rfl rfl ?_
  refine tq_sipush (v := (4100 : Int32)) dMd_init_138 tns_4100 ?_
  refine tq_newa tpN_int (N := 4100) dMd_init_141 (by decide) (by decide) (Nat.le_of_ble_eq_true rfl) (fun a106 h107 e108 e109 => ?_)
  have hw := hw a106 h107 e108 e109
  obtain ⟨f110, hw⟩ := hw
  refine te_putr dMd_init_143 pMd_55 rfl rfl rfl f110 (fun h111 e112 => ?_)
  have hw := hw h111 e112
  refine tq_aload_n dMd_init_146 rfl rfl ?_
  refine tq_sipush (v := (4100 : Int32)) dMd_init_147 tns_4100 ?_
  refine tq_newa tpN_int (N := 4100) dMd_init_150 (by decide) (by decide) (Nat.le_of_ble_eq_true rfl) (fun a113 h114 e115 e116 => ?_)
  have hw := hw a113 h114 e115 e116
  obtain ⟨f117, hw⟩ := hw
  refine te_putr dMd_init_152 pMd_58 rfl rfl rfl f117 (fun h118 e119 => ?_)
  have hw := hw h118 e119
  refine tq_aload_n dMd_init_155 rfl rfl ?_
  refine tq_sipush (v := (4100 : Int32)) dMd_init_156 tns_4100 ?_
  refine tq_newa tpN_int (N := 4100) dMd_init_159 (by decide) (by decide) (Nat.le_of_ble_eq_true rfl) (fun a120 h121 e122 e123 => ?_)
  have hw := hw a120 h121 e122 e123
  obtain ⟨f124, hw⟩ := hw
  refine te_putr dMd_init_161 pMd_61 rfl rfl rfl f124 (fun h125 e126 => ?_)
  have hw := hw h125 e126
  refine tq_aload_n dMd_init_164 rfl rfl ?_
  refine tq_bipush (v := (6 : Int32)) dMd_init_165 tnb_6 ?_
  refine tq_newa tpN_int (N := 6) dMd_init_167 (by decide) (by decide) (Nat.le_of_ble_eq_true rfl) (fun a127 h128 e129 e130 => ?_)
  have hw := hw a127 h128 e129 e130
  obtain ⟨f131, hw⟩ := hw
  refine te_putr dMd_init_169 pMd_64 rfl rfl rfl f131 (fun h132 e133 => ?_)
  have hw := hw h132 e133
  refine tq_aload_n dMd_init_172 rfl rfl ?_
  refine tq_ldci dMd_init_173 nMd_67 ?_
  refine tq_newa tpN_int (N := 92000) dMd_init_175 (by decide) (by decide) (Nat.le_of_ble_eq_true rfl) (fun a134 h135 e136 e137 => ?_)
  have hw := hw a134 h135 e136 e137
  obtain ⟨f138, hw⟩ := hw
  refine te_putr dMd_init_177 pMd_68 rfl rfl rfl f138 (fun h139 e140 => ?_)
  have hw := hw h139 e140
  refine tq_aload_n dMd_init_180 rfl rfl ?_
  refine tq_bipush (v := (30 : Int32)) dMd_init_181 tnb_30 ?_
  refine tq_newa tpN_int (N := 30) dMd_init_183 (by decide) (by decide) (Nat.le_of_ble_eq_true rfl) (fun a141 h142 e143 e144 => ?_)
  have hw := hw a141 h142 e143 e144
  obtain ⟨f145, hw⟩ := hw
  refine te_putr dMd_init_185 pMd_71 rfl rfl rfl f145 (fun h146 e147 => ?_)
  have hw := hw h146 e147
  refine tq_aload_n dMd_init_188 rfl rfl ?_
  refine tq_bipush (v := (30 : Int32)) dMd_init_189 tnb_30 ?_
  refine tq_newa tpN_int (N := 30) dMd_init_191 (by decide) (by decide) (Nat.le_of_ble_eq_true rfl) (fun a148 h149 e150 e151 => ?_)
  have hw := hw a148 h149 e150 e151
  obtain ⟨f152, hw⟩ := hw
  refine te_putr dMd_init_193 pMd_74 rfl rfl rfl f152 (fun h153 e154 => ?_)
  have hw := hw h153 e154
  refine tq_aload_n dMd_init_196 rfl rfl ?_
  refine tq_bipush (v := (30 : Int32)) dMd_init_197 tnb_30 ?_
  refine tq_newa tpN_int (N := 30) dMd_init_199 (by decide) (by decide) (Nat.le_of_ble_eq_true rfl) (fun a155 h156 e157 e158 => ?_)
  have hw := hw a155 h156 e157 e158
  obtain ⟨f159, hw⟩ := hw
  refine te_putr dMd_init_201 pMd_77 rfl rfl rfl f159 (fun h160 e161 => ?_)
  have hw := hw h160 e161
  refine tq_aload_n dMd_init_204 rfl rfl ?_
  refine tq_bipush (v := (30 : Int32)) dMd_init_205 tnb_30 ?_
  refine tq_newa tpN_int (N := 30) dMd_init_207 (by decide) (by decide) (Nat.le_of_ble_eq_true rfl) (fun a162 h163 e164 e165 => ?_)
  have hw := hw a162 h163 e164 e165
  obtain ⟨f166, hw⟩ := hw
  refine te_putr dMd_init_209 pMd_80 rfl rfl rfl f166 (fun h167 e168 => ?_)
  have hw := hw h167 e168
  refine tq_aload_n dMd_init_212 rfl rfl ?_
  refine tq_sipush (v := (300 : Int32)) dMd_init_213 tns_300 ?_
  refine tq_newa tpN_int (N := 300) dMd_init_216 (by decide) (by decide) (Nat.le_of_ble_eq_true rfl) (fun a169 h170 e171 e172 => ?_)
  have hw := hw a169 h170 e171 e172
  obtain ⟨f173, hw⟩ := hw
  refine te_putr dMd_init_218 pMd_83 rfl rfl rfl f173 (fun h174 e175 => ?_)
  have hw := hw h174 e175
  refine tq_aload_n dMd_init_221 rfl rfl ?_
  refine tq_sipush (v := (300 : Int32)) dMd_init_222 tns_300 ?_
  refine tq_newa tpN_int (N := 300) dMd_init_225 (by decide) (by decide) (Nat.le_of_ble_eq_true rfl) (fun a176 h177 e178 e179 => ?_)
  have hw := hw a176 h177 e178 e179
  obtain ⟨f180, hw⟩ := hw
  refine te_putr dMd_init_227 pMd_86 rfl rfl rfl f180 (fun h181 e182 => ?_)
  have hw := hw h181 e182
  refine tq_aload_n dMd_init_230 rfl rfl ?_
  refine tq_sipush (v := (300 : Int32)) dMd_init_231 tns_300 ?_
  refine tq_newa tpN_bool (N := 300) dMd_init_234 (by decide) (by decide) (Nat.le_of_ble_eq_true rfl) (fun a183 h184 e185 e186 => ?_)
  have hw := hw a183 h184 e185 e186
  obtain ⟨f187, hw⟩ := hw
  refine te_putr dMd_init_236 pMd_89 rfl rfl rfl f187 (fun h188 e189 => ?_)
  have hw := hw h188 e189
  refine tq_aload_n dMd_init_239 rfl rfl ?_
  refine tq_ldci dMd_init_240 nMd_93 ?_
  refine tq_newa tpN_bool (N := 90000) dMd_init_242 (by decide) (by decide) (Nat.le_of_ble_eq_true rfl) (fun a190 h191 e192 e193 => ?_)
  have hw := hw a190 h191 e192 e193
  obtain ⟨f194, hw⟩ := hw
  refine te_putr dMd_init_244 pMd_94 rfl rfl rfl f194 (fun h195 e196 => ?_)
  have hw := hw h195 e196
  refine tq_aload_n dMd_init_247 rfl rfl ?_
  refine tq_sipush (v := (300 : Int32)) dMd_init_248 tns_300 ?_
  refine tq_newa tpN_int (N := 300) dMd_init_251 (by decide) (by decide) (Nat.le_of_ble_eq_true rfl) (fun a197 h198 e199 e200 => ?_)
  have hw := hw a197 h198 e199 e200
  obtain ⟨f201, hw⟩ := hw
  refine te_putr dMd_init_253 pMd_97 rfl rfl rfl f201 (fun h202 e203 => ?_)
  have hw := hw h202 e203
  refine tq_aload_n dMd_init_256 rfl rfl ?_
  refine tq_sipush (v := (300 : Int32)) dMd_init_257 tns_300 ?_
  refine tq_newa tpN_int (N := 300) dMd_init_260 (by decide) (by decide) (Nat.le_of_ble_eq_true rfl) (fun a204 h205 e206 e207 => ?_)
  have hw := hw a204 h205 e206 e207
  obtain ⟨f208, hw⟩ := hw
  refine te_putr dMd_init_262 pMd_100 rfl rfl rfl f208 (fun h209 e210 => ?_)
  have hw := hw h209 e210
  refine tq_aload_n dMd_init_265 rfl rfl ?_
  refine tq_sipush (v := (300 : Int32)) dMd_init_266 tns_300 ?_
  refine tq_newa tpN_bool (N := 300) dMd_init_269 (by decide) (by decide) (Nat.le_of_ble_eq_true rfl) (fun a211 h212 e213 e214 => ?_)
  have hw := hw a211 h212 e213 e214
  obtain ⟨f215, hw⟩ := hw
  refine te_putr dMd_init_271 pMd_103 rfl rfl rfl f215 (fun h216 e217 => ?_)
  have hw := hw h216 e217
  refine tq_aload_n dMd_init_274 rfl rfl ?_
  refine tq_sipush (v := (300 : Int32)) dMd_init_275 tns_300 ?_
  refine tq_newa tpN_int (N := 300) dMd_init_278 (by decide) (by decide) (Nat.le_of_ble_eq_true rfl) (fun a218 h219 e220 e221 => ?_)
  have hw := hw a218 h219 e220 e221
  obtain ⟨f222, hw⟩ := hw
  refine te_putr dMd_init_280 pMd_106 rfl rfl rfl f222 (fun h223 e224 => ?_)
  have hw := hw h223 e224
  refine tq_aload_n dMd_init_283 rfl rfl ?_
  refine tq_sipush (v := (300 : Int32)) dMd_init_284 tns_300 ?_
  refine tq_newa tpN_int (N := 300) dMd_init_287 (by decide) (by decide) (Nat.le_of_ble_eq_true rfl) (fun a225 h226 e227 e228 => ?_)
  have hw := hw a225 h226 e227 e228
  obtain ⟨f229, hw⟩ := hw
  refine te_putr dMd_init_289 pMd_109 rfl rfl rfl f229 (fun h230 e231 => ?_)
  have hw := hw h230 e231
  refine tq_aload_n dMd_init_292 rfl rfl ?_
  refine tq_sipush (v := (300 : Int32)) dMd_init_293 tns_300 ?_
  refine tq_newa tpN_bool (N := 300) dMd_init_296 (by decide) (by decide) (Nat.le_of_ble_eq_true rfl) (fun a232 h233 e234 e235 => ?_)
  have hw := hw a232 h233 e234 e235
  obtain ⟨f236, hw⟩ := hw
  refine te_putr dMd_init_298 pMd_112 rfl rfl rfl f236 (fun h237 e238 => ?_)
  have hw := hw h237 e238
  refine tq_aload_n dMd_init_301 rfl rfl ?_
  refine tq_sipush (v := (300 : Int32)) dMd_init_302 tns_300 ?_
  refine tq_newa tpN_bool (N := 300) dMd_init_305 (by decide) (by decide) (Nat.le_of_ble_eq_true rfl) (fun a239 h240 e241 e242 => ?_)
  have hw := hw a239 h240 e241 e242
  obtain ⟨f243, hw⟩ := hw
  refine te_putr dMd_init_307 pMd_115 rfl rfl rfl f243 (fun h244 e245 => ?_)
  have hw := hw h244 e245
  refine tq_aload_n dMd_init_310 rfl rfl ?_
  refine tq_sipush (v := (300 : Int32)) dMd_init_311 tns_300 ?_
  refine tq_newa tpN_int (N := 300) dMd_init_314 (by decide) (by decide) (Nat.le_of_ble_eq_true rfl) (fun a246 h247 e248 e249 => ?_)
  have hw := hw a246 h247 e248 e249
  obtain ⟨f250, hw⟩ := hw
  refine te_putr dMd_init_316 pMd_118 rfl rfl rfl f250 (fun h251 e252 => ?_)
  have hw := hw h251 e252
  refine tq_aload_n dMd_init_319 rfl rfl ?_
  refine tq_sipush (v := (300 : Int32)) dMd_init_320 tns_300 ?_
  refine tq_newa tpN_int (N := 300) dMd_init_323 (by decide) (by decide) (Nat.le_of_ble_eq_true rfl) (fun a253 h254 e255 e256 => ?_)
  have hw := hw a253 h254 e255 e256
  obtain ⟨f257, hw⟩ := hw
  refine te_putr dMd_init_325 pMd_121 rfl rfl rfl f257 (fun h258 e259 => ?_)
  have hw := hw h258 e259
  refine tq_aload_n dMd_init_328 rfl rfl ?_
  refine tq_sipush (v := (300 : Int32)) dMd_init_329 tns_300 ?_
  refine tq_newa tpN_bool (N := 300) dMd_init_332 (by decide) (by decide) (Nat.le_of_ble_eq_true rfl) (fun a260 h261 e262 e263 => ?_)
  have hw := hw a260 h261 e262 e263
  obtain ⟨f264, hw⟩ := hw
  refine te_putr dMd_init_334 pMd_124 rfl rfl rfl f264 (fun h265 e266 => ?_)
  have hw := hw h265 e266
  refine tq_aload_n dMd_init_337 rfl rfl ?_
  refine tq_sipush (v := (300 : Int32)) dMd_init_338 tns_300 ?_
  refine tq_newa tpN_int (N := 300) dMd_init_341 (by decide) (by decide) (Nat.le_of_ble_eq_true rfl) (fun a267 h268 e269 e270 => ?_)
  have hw := hw a267 h268 e269 e270
  obtain ⟨f271, hw⟩ := hw
  refine te_putr dMd_init_343 pMd_127 rfl rfl rfl f271 (fun h272 e273 => ?_)
  have hw := hw h272 e273
  refine tq_aload_n dMd_init_346 rfl rfl ?_
  refine tq_sipush (v := (300 : Int32)) dMd_init_347 tns_300 ?_
  refine tq_newa tpN_int (N := 300) dMd_init_350 (by decide) (by decide) (Nat.le_of_ble_eq_true rfl) (fun a274 h275 e276 e277 => ?_)
  have hw := hw a274 h275 e276 e277
  obtain ⟨f278, hw⟩ := hw
  refine te_putr dMd_init_352 pMd_130 rfl rfl rfl f278 (fun h279 e280 => ?_)
  have hw := hw h279 e280
  refine tq_aload_n dMd_init_355 rfl rfl ?_
  refine tq_sipush (v := (300 : Int32)) dMd_init_356 tns_300 ?_
  refine tq_newa tpN_bool (N := 300) dMd_init_359 (by decide) (by decide) (Nat.le_of_ble_eq_true rfl) (fun a281 h282 e283 e284 => ?_)
  have hw := hw a281 h282 e283 e284
  obtain ⟨f285, hw⟩ := hw
  refine te_putr dMd_init_361 pMd_133 rfl rfl rfl f285 (fun h286 e287 => ?_)
  have hw := hw h286 e287
  refine tq_aload_n dMd_init_364 rfl rfl ?_
  refine tq_sipush (v := (300 : Int32)) dMd_init_365 tns_300 ?_
  refine tq_newa tpN_int (N := 300) dMd_init_368 (by decide) (by decide) (Nat.le_of_ble_eq_true rfl) (fun a288 h289 e290 e291 => ?_)
  have hw := hw a288 h289 e290 e291
  obtain ⟨f292, hw⟩ := hw
  refine te_putr dMd_init_370 pMd_136 rfl rfl rfl f292 (fun h293 e294 => ?_)
  have hw := hw h293 e294
  refine tq_aload_n dMd_init_373 rfl rfl ?_
  refine tq_sipush (v := (300 : Int32)) dMd_init_374 tns_300 ?_
  refine tq_newa tpN_int (N := 300) dMd_init_377 (by decide) (by decide) (Nat.le_of_ble_eq_true rfl) (fun a295 h296 e297 e298 => ?_)
  have hw := hw a295 h296 e297 e298
  obtain ⟨f299, hw⟩ := hw
  refine te_putr dMd_init_379 pMd_139 rfl rfl rfl f299 (fun h300 e301 => ?_)
  have hw := hw h300 e301
  refine tq_aload_n dMd_init_382 rfl rfl ?_
  refine tq_sipush (v := (300 : Int32)) dMd_init_383 tns_300 ?_
  refine tq_newa tpN_int (N := 300) dMd_init_386 (by decide) (by decide) (Nat.le_of_ble_eq_true rfl) (fun a302 h303 e304 e305 => ?_)
  have hw := hw a302 h303 e304 e305
  obtain ⟨f306, hw⟩ := hw
  refine te_putr dMd_init_388 pMd_142 rfl rfl rfl f306 (fun h307 e308 => ?_)
  have hw := hw h307 e308
  refine tq_aload_n dMd_init_391 rfl rfl ?_
  refine tq_sipush (v := (300 : Int32)) dMd_init_392 tns_300 ?_
  refine tq_newa tpN_bool (N := 300) dMd_init_395 (by decide) (by decide) (Nat.le_of_ble_eq_true rfl) (fun a309 h310 e311 e312 => ?_)
  have hw := hw a309 h310 e311 e312
  obtain ⟨f313, hw⟩ := hw
  refine te_putr dMd_init_397 pMd_145 rfl rfl rfl f313 (fun h314 e315 => ?_)
  have hw := hw h314 e315
  refine tq_aload_n dMd_init_400 rfl rfl ?_
  refine tq_bipush (v := (30 : Int32)) dMd_init_401 tnb_30 ?_
  refine tq_newa tpN_int (N := 30) dMd_init_403 (by decide) (by decide) (Nat.le_of_ble_eq_true rfl) (fun a316 h317 e318 e319 => ?_)
  have hw := hw a316 h317 e318 e319
  obtain ⟨f320, hw⟩ := hw
  refine te_putr dMd_init_405 pMd_148 rfl rfl rfl f320 (fun h321 e322 => ?_)
  have hw := hw h321 e322
  refine tq_iconst (v := (0 : Int32)) dMd_init_408 tni_0 ?_
  refine tq_istore_n (ls' := [some (vR (some o)), some (vI (0 : Int32))]) dMd_init_409 rfl (Nat.le_of_ble_eq_true rfl) rfl ?_
  refine tpR.fo (ls' := [some (vR (some o)), some (vI (0 : Int32))]) ?_ (And.intro rfl (And.intro rfl trivial))
  obtain ⟨n, hw⟩ := hw
  exact s_Md_init_410 n _ _ _ hw
/-! TModel.thrown -/
theorem dMd_thrown_0 : decode (mB Md_thrown) 0 = .ok (.aload_n 0, 1) := by decide +kernel
theorem dMd_thrown_1 : decode (mB Md_thrown) 1 = .ok (.getfield 151, 3) := by decide +kernel
theorem dMd_thrown_4 : decode (mB Md_thrown) 4 = .ok (.ireturn, 1) := by decide +kernel
def w_Md_thrown (o : Nat) (h : tpH) (R : Int32 → tpH → Prop) : Prop :=
  hT h o = 14 ∧ (R (hI h o 31) h)
theorem s_Md_thrown {o : Nat} {h : tpH} {R : Int32 → tpH → Prop} (hw : w_Md_thrown o h R) : tpC Md_thrown 0 [vR (some o)] h (tpOi R (fun _ _ => False)) := by
  refine tpC_of mv_Md_thrown.2.2.2.1 rfl rfl (Nat.le_of_ble_eq_true rfl) ?_
  show tpR Md_thrown 0 h _ _ 0 [some (vR (some o))] [] h
  unfold w_Md_thrown at hw
  refine tq_aload_n dMd_thrown_0 rfl rfl ?_
  obtain ⟨f1, hw⟩ := hw
  refine te_geti dMd_thrown_1 fMd_151 rfl rfl f1 ?_
  exact tq_iret rfl rfl dMd_thrown_4 hw
/-! TModel.in -/
theorem dMd_in_0 : decode (mB Md_in) 0 = .ok (.iload_n 0, 1) := by decide +kernel
theorem dMd_in_1 : decode (mB Md_in) 1 = .ok (.iload_n 1, 1) := by decide +kernel
theorem dMd_in_2 : decode (mB Md_in) 2 = .ok (.if_icmp .lt 12, 3) := by decide +kernel
theorem dMd_in_5 : decode (mB Md_in) 5 = .ok (.iload_n 0, 1) := by decide +kernel
theorem dMd_in_6 : decode (mB Md_in) 6 = .ok (.iload_n 2, 1) := by decide +kernel
theorem dMd_in_7 : decode (mB Md_in) 7 = .ok (.if_icmp .gt 7, 3) := by decide +kernel
theorem dMd_in_10 : decode (mB Md_in) 10 = .ok (.iconst 1, 1) := by decide +kernel
theorem dMd_in_11 : decode (mB Md_in) 11 = .ok (.goto 4, 3) := by decide +kernel
theorem dMd_in_14 : decode (mB Md_in) 14 = .ok (.iconst 0, 1) := by decide +kernel
theorem dMd_in_15 : decode (mB Md_in) 15 = .ok (.ireturn, 1) := by decide +kernel
def w_Md_in (x0 : Int32) (x1 : Int32) (x2 : Int32) (h : tpH) (R : Int32 → tpH → Prop) : Prop :=
  (x0 < x1 → (R (0 : Int32) h)) ∧ (¬ x0 < x1 → ((x2 < x0 → (R (0 : Int32) h)) ∧ (¬ x2 < x0 → (R (1 : Int32) h))))
theorem s_Md_in {x0 : Int32} {x1 : Int32} {x2 : Int32} {h : tpH} {R : Int32 → tpH → Prop} (hw : w_Md_in x0 x1 x2 h R) : tpC Md_in 0 [vI x0, vI x1, vI x2] h (tpOi R (fun _ _ => False)) := by
  refine tpC_of ms_Md_in.2.2.2.1 rfl rfl (Nat.le_of_ble_eq_true rfl) ?_
  show tpR Md_in 0 h _ _ 0 [some (vI x0), some (vI x1), some (vI x2)] [] h
  unfold w_Md_in at hw
  refine tq_iload_n dMd_in_0 rfl rfl ?_
  refine tq_iload_n dMd_in_1 rfl rfl ?_
  refine tq_icmplt (tgt := 14) dMd_in_2 (by decide) (fun c1 => ?_) (fun c1 => ?_)
  · have hw := hw.1 c1
    refine tq_iconst (v := (0 : Int32)) dMd_in_14 tni_0 ?_
    exact tq_iret rfl (by decide) dMd_in_15 hw
  · have hw := hw.2 c1
    refine tq_iload_n dMd_in_5 rfl rfl ?_
    refine tq_iload_n dMd_in_6 rfl rfl ?_
    refine tq_icmpgt (tgt := 14) dMd_in_7 (by decide) (fun c2 => ?_) (fun c2 => ?_)
    · have hw := hw.1 c2
      refine tq_iconst (v := (0 : Int32)) dMd_in_14 tni_0 ?_
      exact tq_iret rfl (by decide) dMd_in_15 hw
    · have hw := hw.2 c2
      refine tq_iconst (v := (1 : Int32)) dMd_in_10 tni_1 ?_
      refine tq_goto (tgt := 15) dMd_in_11 (by decide) ?_
      exact tq_iret rfl (by decide) dMd_in_15 hw
/-! TModel.isTree -/
theorem dMd_isTree_0 : decode (mB Md_isTree) 0 = .ok (.iload_n 1, 1) := by decide +kernel
theorem dMd_isTree_1 : decode (mB Md_isTree) 1 = .ok (.iconst 0, 1) := by decide +kernel
theorem dMd_isTree_2 : decode (mB Md_isTree) 2 = .ok (.aload_n 0, 1) := by decide +kernel
theorem dMd_isTree_3 : decode (mB Md_isTree) 3 = .ok (.getfield 155, 3) := by decide +kernel
theorem dMd_isTree_6 : decode (mB Md_isTree) 6 = .ok (.iconst 1, 1) := by decide +kernel
theorem dMd_isTree_7 : decode (mB Md_isTree) 7 = .ok (.isub, 1) := by decide +kernel
theorem dMd_isTree_8 : decode (mB Md_isTree) 8 = .ok (.invokestatic 158, 3) := by decide +kernel
theorem dMd_isTree_11 : decode (mB Md_isTree) 11 = .ok (.ireturn, 1) := by decide +kernel
def w_Md_isTree (o : Nat) (x1 : Int32) (h : tpH) (R : Int32 → tpH → Prop) : Prop :=
  hT h o = 14 ∧ (w_Md_in x1 (0 : Int32) ((hI h o 3) - (1 : Int32)) h (fun v3 h2 => tpB v3 ∧ (R v3 h2)))
theorem s_Md_isTree {o : Nat} {x1 : Int32} {h : tpH} {R : Int32 → tpH → Prop} (hw : w_Md_isTree o x1 h R) : tpC Md_isTree 1 [vR (some o), vI x1] h (tpOi R (fun _ _ => False)) := by
  refine tpC_of mv_Md_isTree.2.2.2.1 rfl rfl (Nat.le_of_ble_eq_true rfl) ?_
  show tpR Md_isTree 1 h _ _ 0 [some (vR (some o)), some (vI x1)] [] h
  unfold w_Md_isTree at hw
  refine tq_iload_n dMd_isTree_0 rfl rfl ?_
  refine tq_iconst (v := (0 : Int32)) dMd_isTree_1 tni_0 ?_
  refine tq_aload_n dMd_isTree_2 rfl rfl ?_
  obtain ⟨f1, hw⟩ := hw
  refine te_geti dMd_isTree_3 fMd_155 rfl rfl f1 ?_
  refine tq_iconst (v := (1 : Int32)) dMd_isTree_6 tni_1 ?_
  refine tq_isub dMd_isTree_7 ?_
  refine tq_callS ms_Md_in (dc := 0) (as := [vI x1, vI (0 : Int32), vI ((hI h o 3) - (1 : Int32))]) (rest := []) kMd_158 (Nat.le_of_ble_eq_true rfl) (Nat.le_of_ble_eq_true rfl) rfl rfl (Nat.le_of_ble_eq_true rfl) dMd_isTree_8 (s_Md_in hw) (fun _ _ hx => False.elim hx) (tk_i fun v3 h2 hw => ?_)
  obtain ⟨f4, hw⟩ := hw
  exact tq_iret rfl (tpB_n f4) dMd_isTree_11 hw
/-! TModel.isMark -/
theorem dMd_isMark_0 : decode (mB Md_isMark) 0 = .ok (.iload_n 1, 1) := by decide +kernel
theorem dMd_isMark_1 : decode (mB Md_isMark) 1 = .ok (.iconst 0, 1) := by decide +kernel
theorem dMd_isMark_2 : decode (mB Md_isMark) 2 = .ok (.aload_n 0, 1) := by decide +kernel
theorem dMd_isMark_3 : decode (mB Md_isMark) 3 = .ok (.getfield 162, 3) := by decide +kernel
theorem dMd_isMark_6 : decode (mB Md_isMark) 6 = .ok (.iconst 1, 1) := by decide +kernel
theorem dMd_isMark_7 : decode (mB Md_isMark) 7 = .ok (.isub, 1) := by decide +kernel
theorem dMd_isMark_8 : decode (mB Md_isMark) 8 = .ok (.invokestatic 158, 3) := by decide +kernel
theorem dMd_isMark_11 : decode (mB Md_isMark) 11 = .ok (.ireturn, 1) := by decide +kernel
def w_Md_isMark (o : Nat) (x1 : Int32) (h : tpH) (R : Int32 → tpH → Prop) : Prop :=
  hT h o = 14 ∧ (w_Md_in x1 (0 : Int32) ((hI h o 0) - (1 : Int32)) h (fun v3 h2 => tpB v3 ∧ (R v3 h2)))
theorem s_Md_isMark {o : Nat} {x1 : Int32} {h : tpH} {R : Int32 → tpH → Prop} (hw : w_Md_isMark o x1 h R) : tpC Md_isMark 1 [vR (some o), vI x1] h (tpOi R (fun _ _ => False)) := by
  refine tpC_of mv_Md_isMark.2.2.2.1 rfl rfl (Nat.le_of_ble_eq_true rfl) ?_
  show tpR Md_isMark 1 h _ _ 0 [some (vR (some o)), some (vI x1)] [] h
  unfold w_Md_isMark at hw
  refine tq_iload_n dMd_isMark_0 rfl rfl ?_
  refine tq_iconst (v := (0 : Int32)) dMd_isMark_1 tni_0 ?_
  refine tq_aload_n dMd_isMark_2 rfl rfl ?_
  obtain ⟨f1, hw⟩ := hw
  refine te_geti dMd_isMark_3 fMd_162 rfl rfl f1 ?_
  refine tq_iconst (v := (1 : Int32)) dMd_isMark_6 tni_1 ?_
  refine tq_isub dMd_isMark_7 ?_
  refine tq_callS ms_Md_in (dc := 0) (as := [vI x1, vI (0 : Int32), vI ((hI h o 0) - (1 : Int32))]) (rest := []) kMd_158 (Nat.le_of_ble_eq_true rfl) (Nat.le_of_ble_eq_true rfl) rfl rfl (Nat.le_of_ble_eq_true rfl) dMd_isMark_8 (s_Md_in hw) (fun _ _ hx => False.elim hx) (tk_i fun v3 h2 hw => ?_)
  obtain ⟨f4, hw⟩ := hw
  exact tq_iret rfl (tpB_n f4) dMd_isMark_11 hw
/-! TModel.has -/
theorem dMd_has_0 : decode (mB Md_has) 0 = .ok (.aload_n 0, 1) := by decide +kernel
theorem dMd_has_1 : decode (mB Md_has) 1 = .ok (.iload_n 2, 1) := by decide +kernel
theorem dMd_has_2 : decode (mB Md_has) 2 = .ok (.invokevirtual 165, 3) := by decide +kernel
theorem dMd_has_5 : decode (mB Md_has) 5 = .ok (.ifCond .eq 24, 3) := by decide +kernel
theorem dMd_has_8 : decode (mB Md_has) 8 = .ok (.aload_n 0, 1) := by decide +kernel
theorem dMd_has_9 : decode (mB Md_has) 9 = .ok (.getfield 19, 3) := by decide +kernel
theorem dMd_has_12 : decode (mB Md_has) 12 = .ok (.sipush 300, 3) := by decide +kernel
theorem dMd_has_15 : decode (mB Md_has) 15 = .ok (.iload_n 1, 1) := by decide +kernel
theorem dMd_has_16 : decode (mB Md_has) 16 = .ok (.imul, 1) := by decide +kernel
theorem dMd_has_17 : decode (mB Md_has) 17 = .ok (.iload_n 2, 1) := by decide +kernel
theorem dMd_has_18 : decode (mB Md_has) 18 = .ok (.iadd, 1) := by decide +kernel
theorem dMd_has_19 : decode (mB Md_has) 19 = .ok (.iaload, 1) := by decide +kernel
theorem dMd_has_20 : decode (mB Md_has) 20 = .ok (.bipush (-2), 2) := by decide +kernel
theorem dMd_has_22 : decode (mB Md_has) 22 = .ok (.if_icmp .eq 7, 3) := by decide +kernel
theorem dMd_has_25 : decode (mB Md_has) 25 = .ok (.iconst 1, 1) := by decide +kernel
theorem dMd_has_26 : decode (mB Md_has) 26 = .ok (.goto 4, 3) := by decide +kernel
theorem dMd_has_29 : decode (mB Md_has) 29 = .ok (.iconst 0, 1) := by decide +kernel
theorem dMd_has_30 : decode (mB Md_has) 30 = .ok (.ireturn, 1) := by decide +kernel
def w_Md_has (o : Nat) (x1 : Int32) (x2 : Int32) (h : tpH) (R : Int32 → tpH → Prop) : Prop :=
  hT h o = 14 ∧ (w_Md_isMark o x2 h (fun v3 h2 => (v3 = 0 → (R (0 : Int32) h2)) ∧ (¬ v3 = 0 → (hT h2 o = 14 ∧ (∃ a6, (hR h2 o 6) = some a6 ∧ hT h2 a6 = 15 ∧ (vp_in (((300 : Int32) * x1) + x2) (hL h2 a6) ∧ (((hI h2 a6 (((300 : Int32) * x1) + x2).toNatClampNeg) = (-2 : Int32) → (R (0 : Int32) h2)) ∧ (¬ (hI h2 a6 (((300 : Int32) * x1) + x2).toNatClampNeg) = (-2 : Int32) → (R (1 : Int32) h2)))))))))
theorem s_Md_has {o : Nat} {x1 : Int32} {x2 : Int32} {h : tpH} {R : Int32 → tpH → Prop} (hw : w_Md_has o x1 x2 h R) : tpC Md_has 2 [vR (some o), vI x1, vI x2] h (tpOi R (fun _ _ => False)) := by
  refine tpC_of mv_Md_has.2.2.2.1 rfl rfl (Nat.le_of_ble_eq_true rfl) ?_
  show tpR Md_has 2 h _ _ 0 [some (vR (some o)), some (vI x1), some (vI x2)] [] h
  unfold w_Md_has at hw
  refine tq_aload_n dMd_has_0 rfl rfl ?_
  refine tq_iload_n dMd_has_1 rfl rfl ?_
  obtain ⟨f1, hw⟩ := hw
  refine te_callV mv_Md_isMark (ci := 13) (dc := 1) (as := [vI x2]) (rest := []) kMd_165 rfl (Nat.le_of_ble_eq_true rfl) (Nat.le_of_ble_eq_true rfl) rfl rfl rfl f1 (Nat.le_of_ble_eq_true rfl) dMd_has_2 (s_Md_isMark hw) (fun _ _ hx => False.elim hx) (tk_i fun v3 h2 hw => ?_)
  refine tq_ifeq (tgt := 29) dMd_has_5 (by decide) (fun c4 => ?_) (fun c4 => ?_)
  · have hw := hw.1 c4
    refine tq_iconst (v := (0 : Int32)) dMd_has_29 tni_0 ?_
    exact tq_iret rfl (by decide) dMd_has_30 hw
  · have hw := hw.2 c4
    refine tq_aload_n dMd_has_8 rfl rfl ?_
    obtain ⟨f5, hw⟩ := hw
    refine te_getr dMd_has_9 fMd_19 rfl rfl f5 ?_
    refine tq_sipush (v := (300 : Int32)) dMd_has_12 tns_300 ?_
    refine tq_iload_n dMd_has_15 rfl rfl ?_
    refine tq_imul dMd_has_16 ?_
    refine tq_iload_n dMd_has_17 rfl rfl ?_
    refine tq_iadd dMd_has_18 ?_
    obtain ⟨a6, e7, f8, hw⟩ := hw
    obtain ⟨f9, hw⟩ := hw
    refine te_iald dMd_has_19 e7 (Or.inl f8) f9 ?_
    refine tq_bipush (v := (-2 : Int32)) dMd_has_20 tnb_m2 ?_
    refine tq_icmpeq (tgt := 29) dMd_has_22 (by decide) (fun c10 => ?_) (fun c10 => ?_)
    · have hw := hw.1 c10
      refine tq_iconst (v := (0 : Int32)) dMd_has_29 tni_0 ?_
      exact tq_iret rfl (by decide) dMd_has_30 hw
    · have hw := hw.2 c10
      refine tq_iconst (v := (1 : Int32)) dMd_has_25 tni_1 ?_
      refine tq_goto (tgt := 30) dMd_has_26 (by decide) ?_
      exact tq_iret rfl (by decide) dMd_has_30 hw
/-! TModel.parentIn -/
theorem dMd_parentIn_0 : decode (mB Md_parentIn) 0 = .ok (.aload_n 0, 1) := by decide +kernel
theorem dMd_parentIn_1 : decode (mB Md_parentIn) 1 = .ok (.getfield 19, 3) := by decide +kernel
theorem dMd_parentIn_4 : decode (mB Md_parentIn) 4 = .ok (.sipush 300, 3) := by decide +kernel
theorem dMd_parentIn_7 : decode (mB Md_parentIn) 7 = .ok (.iload_n 1, 1) := by decide +kernel
theorem dMd_parentIn_8 : decode (mB Md_parentIn) 8 = .ok (.imul, 1) := by decide +kernel
theorem dMd_parentIn_9 : decode (mB Md_parentIn) 9 = .ok (.iload_n 2, 1) := by decide +kernel
theorem dMd_parentIn_10 : decode (mB Md_parentIn) 10 = .ok (.iadd, 1) := by decide +kernel
theorem dMd_parentIn_11 : decode (mB Md_parentIn) 11 = .ok (.iaload, 1) := by decide +kernel
theorem dMd_parentIn_12 : decode (mB Md_parentIn) 12 = .ok (.ireturn, 1) := by decide +kernel
def w_Md_parentIn (o : Nat) (x1 : Int32) (x2 : Int32) (h : tpH) (R : Int32 → tpH → Prop) : Prop :=
  hT h o = 14 ∧ (∃ a2, (hR h o 6) = some a2 ∧ hT h a2 = 15 ∧ (vp_in (((300 : Int32) * x1) + x2) (hL h a2) ∧ (R (hI h a2 (((300 : Int32) * x1) + x2).toNatClampNeg) h)))
theorem s_Md_parentIn {o : Nat} {x1 : Int32} {x2 : Int32} {h : tpH} {R : Int32 → tpH → Prop} (hw : w_Md_parentIn o x1 x2 h R) : tpC Md_parentIn 0 [vR (some o), vI x1, vI x2] h (tpOi R (fun _ _ => False)) := by
  refine tpC_of mv_Md_parentIn.2.2.2.1 rfl rfl (Nat.le_of_ble_eq_true rfl) ?_
  show tpR Md_parentIn 0 h _ _ 0 [some (vR (some o)), some (vI x1), some (vI x2)] [] h
  unfold w_Md_parentIn at hw
  refine tq_aload_n dMd_parentIn_0 rfl rfl ?_
  obtain ⟨f1, hw⟩ := hw
  refine te_getr dMd_parentIn_1 fMd_19 rfl rfl f1 ?_
  refine tq_sipush (v := (300 : Int32)) dMd_parentIn_4 tns_300 ?_
  refine tq_iload_n dMd_parentIn_7 rfl rfl ?_
  refine tq_imul dMd_parentIn_8 ?_
  refine tq_iload_n dMd_parentIn_9 rfl rfl ?_
  refine tq_iadd dMd_parentIn_10 ?_
  obtain ⟨a2, e3, f4, hw⟩ := hw
  obtain ⟨f5, hw⟩ := hw
  refine te_iald dMd_parentIn_11 e3 (Or.inl f4) f5 ?_
  exact tq_iret rfl rfl dMd_parentIn_12 hw
/-! TModel.valueIn -/
theorem dMd_valueIn_0 : decode (mB Md_valueIn) 0 = .ok (.aload_n 0, 1) := by decide +kernel
theorem dMd_valueIn_1 : decode (mB Md_valueIn) 1 = .ok (.getfield 22, 3) := by decide +kernel
theorem dMd_valueIn_4 : decode (mB Md_valueIn) 4 = .ok (.sipush 300, 3) := by decide +kernel
theorem dMd_valueIn_7 : decode (mB Md_valueIn) 7 = .ok (.iload_n 1, 1) := by decide +kernel
theorem dMd_valueIn_8 : decode (mB Md_valueIn) 8 = .ok (.imul, 1) := by decide +kernel
theorem dMd_valueIn_9 : decode (mB Md_valueIn) 9 = .ok (.iload_n 2, 1) := by decide +kernel
theorem dMd_valueIn_10 : decode (mB Md_valueIn) 10 = .ok (.iadd, 1) := by decide +kernel
theorem dMd_valueIn_11 : decode (mB Md_valueIn) 11 = .ok (.iaload, 1) := by decide +kernel
theorem dMd_valueIn_12 : decode (mB Md_valueIn) 12 = .ok (.ireturn, 1) := by decide +kernel
def w_Md_valueIn (o : Nat) (x1 : Int32) (x2 : Int32) (h : tpH) (R : Int32 → tpH → Prop) : Prop :=
  hT h o = 14 ∧ (∃ a2, (hR h o 7) = some a2 ∧ hT h a2 = 15 ∧ (vp_in (((300 : Int32) * x1) + x2) (hL h a2) ∧ (R (hI h a2 (((300 : Int32) * x1) + x2).toNatClampNeg) h)))
theorem s_Md_valueIn {o : Nat} {x1 : Int32} {x2 : Int32} {h : tpH} {R : Int32 → tpH → Prop} (hw : w_Md_valueIn o x1 x2 h R) : tpC Md_valueIn 0 [vR (some o), vI x1, vI x2] h (tpOi R (fun _ _ => False)) := by
  refine tpC_of mv_Md_valueIn.2.2.2.1 rfl rfl (Nat.le_of_ble_eq_true rfl) ?_
  show tpR Md_valueIn 0 h _ _ 0 [some (vR (some o)), some (vI x1), some (vI x2)] [] h
  unfold w_Md_valueIn at hw
  refine tq_aload_n dMd_valueIn_0 rfl rfl ?_
  obtain ⟨f1, hw⟩ := hw
  refine te_getr dMd_valueIn_1 fMd_22 rfl rfl f1 ?_
  refine tq_sipush (v := (300 : Int32)) dMd_valueIn_4 tns_300 ?_
  refine tq_iload_n dMd_valueIn_7 rfl rfl ?_
  refine tq_imul dMd_valueIn_8 ?_
  refine tq_iload_n dMd_valueIn_9 rfl rfl ?_
  refine tq_iadd dMd_valueIn_10 ?_
  obtain ⟨a2, e3, f4, hw⟩ := hw
  obtain ⟨f5, hw⟩ := hw
  refine te_iald dMd_valueIn_11 e3 (Or.inl f4) f5 ?_
  exact tq_iret rfl rfl dMd_valueIn_12 hw
/-! TModel.firstIn -/
theorem dMd_firstIn_0 : decode (mB Md_firstIn) 0 = .ok (.aload_n 0, 1) := by decide +kernel
theorem dMd_firstIn_1 : decode (mB Md_firstIn) 1 = .ok (.getfield 25, 3) := by decide +kernel
theorem dMd_firstIn_4 : decode (mB Md_firstIn) 4 = .ok (.sipush 300, 3) := by decide +kernel
theorem dMd_firstIn_7 : decode (mB Md_firstIn) 7 = .ok (.iload_n 1, 1) := by decide +kernel
theorem dMd_firstIn_8 : decode (mB Md_firstIn) 8 = .ok (.imul, 1) := by decide +kernel
theorem dMd_firstIn_9 : decode (mB Md_firstIn) 9 = .ok (.iload_n 2, 1) := by decide +kernel
theorem dMd_firstIn_10 : decode (mB Md_firstIn) 10 = .ok (.iadd, 1) := by decide +kernel
theorem dMd_firstIn_11 : decode (mB Md_firstIn) 11 = .ok (.iaload, 1) := by decide +kernel
theorem dMd_firstIn_12 : decode (mB Md_firstIn) 12 = .ok (.ireturn, 1) := by decide +kernel
def w_Md_firstIn (o : Nat) (x1 : Int32) (x2 : Int32) (h : tpH) (R : Int32 → tpH → Prop) : Prop :=
  hT h o = 14 ∧ (∃ a2, (hR h o 8) = some a2 ∧ hT h a2 = 15 ∧ (vp_in (((300 : Int32) * x1) + x2) (hL h a2) ∧ (R (hI h a2 (((300 : Int32) * x1) + x2).toNatClampNeg) h)))
theorem s_Md_firstIn {o : Nat} {x1 : Int32} {x2 : Int32} {h : tpH} {R : Int32 → tpH → Prop} (hw : w_Md_firstIn o x1 x2 h R) : tpC Md_firstIn 0 [vR (some o), vI x1, vI x2] h (tpOi R (fun _ _ => False)) := by
  refine tpC_of mv_Md_firstIn.2.2.2.1 rfl rfl (Nat.le_of_ble_eq_true rfl) ?_
  show tpR Md_firstIn 0 h _ _ 0 [some (vR (some o)), some (vI x1), some (vI x2)] [] h
  unfold w_Md_firstIn at hw
  refine tq_aload_n dMd_firstIn_0 rfl rfl ?_
  obtain ⟨f1, hw⟩ := hw
  refine te_getr dMd_firstIn_1 fMd_25 rfl rfl f1 ?_
  refine tq_sipush (v := (300 : Int32)) dMd_firstIn_4 tns_300 ?_
  refine tq_iload_n dMd_firstIn_7 rfl rfl ?_
  refine tq_imul dMd_firstIn_8 ?_
  refine tq_iload_n dMd_firstIn_9 rfl rfl ?_
  refine tq_iadd dMd_firstIn_10 ?_
  obtain ⟨a2, e3, f4, hw⟩ := hw
  obtain ⟨f5, hw⟩ := hw
  refine te_iald dMd_firstIn_11 e3 (Or.inl f4) f5 ?_
  exact tq_iret rfl rfl dMd_firstIn_12 hw
/-! TModel.nextIn -/
theorem dMd_nextIn_0 : decode (mB Md_nextIn) 0 = .ok (.aload_n 0, 1) := by decide +kernel
theorem dMd_nextIn_1 : decode (mB Md_nextIn) 1 = .ok (.getfield 28, 3) := by decide +kernel
theorem dMd_nextIn_4 : decode (mB Md_nextIn) 4 = .ok (.sipush 300, 3) := by decide +kernel
theorem dMd_nextIn_7 : decode (mB Md_nextIn) 7 = .ok (.iload_n 1, 1) := by decide +kernel
theorem dMd_nextIn_8 : decode (mB Md_nextIn) 8 = .ok (.imul, 1) := by decide +kernel
theorem dMd_nextIn_9 : decode (mB Md_nextIn) 9 = .ok (.iload_n 2, 1) := by decide +kernel
theorem dMd_nextIn_10 : decode (mB Md_nextIn) 10 = .ok (.iadd, 1) := by decide +kernel
theorem dMd_nextIn_11 : decode (mB Md_nextIn) 11 = .ok (.iaload, 1) := by decide +kernel
theorem dMd_nextIn_12 : decode (mB Md_nextIn) 12 = .ok (.ireturn, 1) := by decide +kernel
def w_Md_nextIn (o : Nat) (x1 : Int32) (x2 : Int32) (h : tpH) (R : Int32 → tpH → Prop) : Prop :=
  hT h o = 14 ∧ (∃ a2, (hR h o 9) = some a2 ∧ hT h a2 = 15 ∧ (vp_in (((300 : Int32) * x1) + x2) (hL h a2) ∧ (R (hI h a2 (((300 : Int32) * x1) + x2).toNatClampNeg) h)))
theorem s_Md_nextIn {o : Nat} {x1 : Int32} {x2 : Int32} {h : tpH} {R : Int32 → tpH → Prop} (hw : w_Md_nextIn o x1 x2 h R) : tpC Md_nextIn 0 [vR (some o), vI x1, vI x2] h (tpOi R (fun _ _ => False)) := by
  refine tpC_of mv_Md_nextIn.2.2.2.1 rfl rfl (Nat.le_of_ble_eq_true rfl) ?_
  show tpR Md_nextIn 0 h _ _ 0 [some (vR (some o)), some (vI x1), some (vI x2)] [] h
  unfold w_Md_nextIn at hw
  refine tq_aload_n dMd_nextIn_0 rfl rfl ?_
  obtain ⟨f1, hw⟩ := hw
  refine te_getr dMd_nextIn_1 fMd_28 rfl rfl f1 ?_
  refine tq_sipush (v := (300 : Int32)) dMd_nextIn_4 tns_300 ?_
  refine tq_iload_n dMd_nextIn_7 rfl rfl ?_
  refine tq_imul dMd_nextIn_8 ?_
  refine tq_iload_n dMd_nextIn_9 rfl rfl ?_
  refine tq_iadd dMd_nextIn_10 ?_
  obtain ⟨a2, e3, f4, hw⟩ := hw
  obtain ⟨f5, hw⟩ := hw
  refine te_iald dMd_nextIn_11 e3 (Or.inl f4) f5 ?_
  exact tq_iret rfl rfl dMd_nextIn_12 hw
/-! TModel.isOrdered -/
theorem dMd_isOrdered_0 : decode (mB Md_isOrdered) 0 = .ok (.aload_n 0, 1) := by decide +kernel
theorem dMd_isOrdered_1 : decode (mB Md_isOrdered) 1 = .ok (.getfield 7, 3) := by decide +kernel
theorem dMd_isOrdered_4 : decode (mB Md_isOrdered) 4 = .ok (.iload_n 1, 1) := by decide +kernel
theorem dMd_isOrdered_5 : decode (mB Md_isOrdered) 5 = .ok (.iaload, 1) := by decide +kernel
theorem dMd_isOrdered_6 : decode (mB Md_isOrdered) 6 = .ok (.iconst 4, 1) := by decide +kernel
theorem dMd_isOrdered_7 : decode (mB Md_isOrdered) 7 = .ok (.if_icmp .ge 7, 3) := by decide +kernel
theorem dMd_isOrdered_10 : decode (mB Md_isOrdered) 10 = .ok (.iconst 1, 1) := by decide +kernel
theorem dMd_isOrdered_11 : decode (mB Md_isOrdered) 11 = .ok (.goto 4, 3) := by decide +kernel
theorem dMd_isOrdered_14 : decode (mB Md_isOrdered) 14 = .ok (.iconst 0, 1) := by decide +kernel
theorem dMd_isOrdered_15 : decode (mB Md_isOrdered) 15 = .ok (.ireturn, 1) := by decide +kernel
def w_Md_isOrdered (o : Nat) (x1 : Int32) (h : tpH) (R : Int32 → tpH → Prop) : Prop :=
  hT h o = 14 ∧ (∃ a2, (hR h o 1) = some a2 ∧ hT h a2 = 15 ∧ (vp_in x1 (hL h a2) ∧ (((4 : Int32) ≤ (hI h a2 x1.toNatClampNeg) → (R (0 : Int32) h)) ∧ (¬ (4 : Int32) ≤ (hI h a2 x1.toNatClampNeg) → (R (1 : Int32) h)))))
theorem s_Md_isOrdered {o : Nat} {x1 : Int32} {h : tpH} {R : Int32 → tpH → Prop} (hw : w_Md_isOrdered o x1 h R) : tpC Md_isOrdered 0 [vR (some o), vI x1] h (tpOi R (fun _ _ => False)) := by
  refine tpC_of mv_Md_isOrdered.2.2.2.1 rfl rfl (Nat.le_of_ble_eq_true rfl) ?_
  show tpR Md_isOrdered 0 h _ _ 0 [some (vR (some o)), some (vI x1)] [] h
  unfold w_Md_isOrdered at hw
  refine tq_aload_n dMd_isOrdered_0 rfl rfl ?_
  obtain ⟨f1, hw⟩ := hw
  refine te_getr dMd_isOrdered_1 fMd_7 rfl rfl f1 ?_
  refine tq_iload_n dMd_isOrdered_4 rfl rfl ?_
  obtain ⟨a2, e3, f4, hw⟩ := hw
  obtain ⟨f5, hw⟩ := hw
  refine te_iald dMd_isOrdered_5 e3 (Or.inl f4) f5 ?_
  refine tq_iconst (v := (4 : Int32)) dMd_isOrdered_6 tni_4 ?_
  refine tq_icmpge (tgt := 14) dMd_isOrdered_7 (by decide) (fun c6 => ?_) (fun c6 => ?_)
  · have hw := hw.1 c6
    refine tq_iconst (v := (0 : Int32)) dMd_isOrdered_14 tni_0 ?_
    exact tq_iret rfl (by decide) dMd_isOrdered_15 hw
  · have hw := hw.2 c6
    refine tq_iconst (v := (1 : Int32)) dMd_isOrdered_10 tni_1 ?_
    refine tq_goto (tgt := 15) dMd_isOrdered_11 (by decide) ?_
    exact tq_iret rfl (by decide) dMd_isOrdered_15 hw
/-! TModel.clear -/
theorem dMd_clear_0 : decode (mB Md_clear) 0 = .ok (.sipush 300, 3) := by decide +kernel
theorem dMd_clear_3 : decode (mB Md_clear) 3 = .ok (.iload_n 1, 1) := by decide +kernel
theorem dMd_clear_4 : decode (mB Md_clear) 4 = .ok (.imul, 1) := by decide +kernel
theorem dMd_clear_5 : decode (mB Md_clear) 5 = .ok (.istore_n 2, 1) := by decide +kernel
theorem dMd_clear_6 : decode (mB Md_clear) 6 = .ok (.iload_n 2, 1) := by decide +kernel
theorem dMd_clear_7 : decode (mB Md_clear) 7 = .ok (.sipush 300, 3) := by decide +kernel
theorem dMd_clear_10 : decode (mB Md_clear) 10 = .ok (.iload_n 1, 1) := by decide +kernel
theorem dMd_clear_11 : decode (mB Md_clear) 11 = .ok (.imul, 1) := by decide +kernel
theorem dMd_clear_12 : decode (mB Md_clear) 12 = .ok (.sipush 300, 3) := by decide +kernel
theorem dMd_clear_15 : decode (mB Md_clear) 15 = .ok (.iadd, 1) := by decide +kernel
theorem dMd_clear_16 : decode (mB Md_clear) 16 = .ok (.if_icmp .ge 31, 3) := by decide +kernel
theorem dMd_clear_19 : decode (mB Md_clear) 19 = .ok (.aload_n 0, 1) := by decide +kernel
theorem dMd_clear_20 : decode (mB Md_clear) 20 = .ok (.getfield 19, 3) := by decide +kernel
theorem dMd_clear_23 : decode (mB Md_clear) 23 = .ok (.iload_n 2, 1) := by decide +kernel
theorem dMd_clear_24 : decode (mB Md_clear) 24 = .ok (.bipush (-2), 2) := by decide +kernel
theorem dMd_clear_26 : decode (mB Md_clear) 26 = .ok (.iastore, 1) := by decide +kernel
theorem dMd_clear_27 : decode (mB Md_clear) 27 = .ok (.aload_n 0, 1) := by decide +kernel
theorem dMd_clear_28 : decode (mB Md_clear) 28 = .ok (.getfield 25, 3) := by decide +kernel
theorem dMd_clear_31 : decode (mB Md_clear) 31 = .ok (.iload_n 2, 1) := by decide +kernel
theorem dMd_clear_32 : decode (mB Md_clear) 32 = .ok (.iconst (-1), 1) := by decide +kernel
theorem dMd_clear_33 : decode (mB Md_clear) 33 = .ok (.iastore, 1) := by decide +kernel
theorem dMd_clear_34 : decode (mB Md_clear) 34 = .ok (.aload_n 0, 1) := by decide +kernel
theorem dMd_clear_35 : decode (mB Md_clear) 35 = .ok (.getfield 28, 3) := by decide +kernel
theorem dMd_clear_38 : decode (mB Md_clear) 38 = .ok (.iload_n 2, 1) := by decide +kernel
theorem dMd_clear_39 : decode (mB Md_clear) 39 = .ok (.iconst (-1), 1) := by decide +kernel
theorem dMd_clear_40 : decode (mB Md_clear) 40 = .ok (.iastore, 1) := by decide +kernel
theorem dMd_clear_41 : decode (mB Md_clear) 41 = .ok (.iinc 2 1, 3) := by decide +kernel
theorem dMd_clear_44 : decode (mB Md_clear) 44 = .ok (.goto (-38), 3) := by decide +kernel
theorem dMd_clear_47 : decode (mB Md_clear) 47 = .ok (.return_, 1) := by decide +kernel
def b_Md_clear_6 (R : tpH → Prop) (Y : Nat → Int32 → Int32 → tpH → Prop) (o : Nat) (x1 : Int32) (x2 : Int32) (h : tpH) : Prop :=
  ((((300 : Int32) * x1) + (300 : Int32)) ≤ x2 → (R h)) ∧ (¬ (((300 : Int32) * x1) + (300 : Int32)) ≤ x2 → (hT h o = 14 ∧ (∃ a3, (hR h o 6) = some a3 ∧ hT h a3 = 15 ∧ (vp_in x2 (hL h a3) ∧ (∀ h7, h7 = sI h a3 x2.toNatClampNeg (-2 : Int32) → (∃ a9, (hR h7 o 8) = some a9 ∧ hT h7 a9 = 15 ∧ (vp_in x2 (hL h7 a9) ∧ (∀ h13, h13 = sI h7 a9 x2.toNatClampNeg (-1 : Int32) → (∃ a15, (hR h13 o 9) = some a15 ∧ hT h13 a15 = 15 ∧ (vp_in x2 (hL h13 a15) ∧ (∀ h19, h19 = sI h13 a15 x2.toNatClampNeg (-1 : Int32) → (Y o x1 (x2 + (1 : Int32)) h19))))))))))))
def w_Md_clear_6 (R : tpH → Prop) : Nat → Nat → Int32 → Int32 → tpH → Prop
  | 0 => fun _ _ _ _ => False
  | n + 1 => b_Md_clear_6 R (w_Md_clear_6 R n)
def w_Md_clear (o : Nat) (x1 : Int32) (h : tpH) (R : tpH → Prop) : Prop :=
  ∃ n, w_Md_clear_6 R n o x1 ((300 : Int32) * x1) h
theorem s_Md_clear_6 {h0 : tpH} {av : List tpV} {R : tpH → Prop} : ∀ (n : Nat) (o : Nat) (x1 : Int32) (x2 : Int32) (h : tpH), w_Md_clear_6 R n o x1 x2 h → tpR Md_clear 0 h0 av (tpOv R (fun _ _ => False)) 6 [some (vR (some o)), some (vI x1), some (vI x2)] [] h := by
  intro n
  induction n with
  | zero => intro o x1 x2 h hw; exact False.elim hw
  | succ n ih =>
    intro o x1 x2 h hw
    change b_Md_clear_6 R (w_Md_clear_6 R n) o x1 x2 h at hw
    unfold b_Md_clear_6 at hw
    refine tq_iload_n dMd_clear_6 rfl rfl ?_
    refine tq_sipush (v := (300 : Int32)) dMd_clear_7 tns_300 ?_
    refine tq_iload_n dMd_clear_10 rfl rfl ?_
    refine tq_imul dMd_clear_11 ?_
    refine tq_sipush (v := (300 : Int32)) dMd_clear_12 tns_300 ?_
    refine tq_iadd dMd_clear_15 ?_
    refine tq_icmpge (tgt := 47) dMd_clear_16 (by decide) (fun c1 => ?_) (fun c1 => ?_)
    · have hw := hw.1 c1
      exact tq_vret rfl dMd_clear_47 hw
    · have hw := hw.2 c1
      refine tq_aload_n dMd_clear_19 rfl rfl ?_
      obtain ⟨f2, hw⟩ := hw
      refine te_getr dMd_clear_20 fMd_19 rfl rfl f2 ?_
      refine tq_iload_n dMd_clear_23 rfl rfl ?_
      refine tq_bipush (v := (-2 : Int32)) dMd_clear_24 tnb_m2 ?_
      obtain ⟨a3, e4, f5, hw⟩ := hw
      obtain ⟨f6, hw⟩ := hw
      refine te_iast dMd_clear_26 e4 f5 f6 (fun h7 e8 => ?_)
      have hw := hw h7 e8
      refine tq_aload_n dMd_clear_27 rfl rfl ?_
      refine te_getr dMd_clear_28 fMd_25 rfl rfl (by rw [e8]; exact f2) ?_
      refine tq_iload_n dMd_clear_31 rfl rfl ?_
      refine tq_iconst (v := (-1 : Int32)) dMd_clear_32 tni_m1 ?_
      obtain ⟨a9, e10, f11, hw⟩ := hw
      obtain ⟨f12, hw⟩ := hw
      refine te_iast dMd_clear_33 e10 f11 f12 (fun h13 e14 => ?_)
      have hw := hw h13 e14
      refine tq_aload_n dMd_clear_34 rfl rfl ?_
      refine te_getr dMd_clear_35 fMd_28 rfl rfl (by rw [e14]; exact (by rw [e8]; exact f2)) ?_
      refine tq_iload_n dMd_clear_38 rfl rfl ?_
      refine tq_iconst (v := (-1 : Int32)) dMd_clear_39 tni_m1 ?_
      obtain ⟨a15, e16, f17, hw⟩ := hw
      obtain ⟨f18, hw⟩ := hw
      refine te_iast dMd_clear_40 e16 f17 f18 (fun h19 e20 => ?_)
      have hw := hw h19 e20
      refine tq_inc (k := (1 : Int32)) (ls' := [some (vR (some o)), some (vI x1), some (vI (x2 + (1 : Int32)))]) dMd_clear_41 rfl tni_1 (Nat.le_of_ble_eq_true rfl) rfl ?_
      refine tq_goto (tgt := 6) dMd_clear_44 (by decide) ?_
      refine tpR.fo (ls' := [some (vR (some o)), some (vI x1), some (vI (x2 + (1 : Int32)))]) ?_ (And.intro rfl (And.intro rfl (And.intro rfl trivial)))
      exact ih _ _ _ _ hw
theorem s_Md_clear {o : Nat} {x1 : Int32} {h : tpH} {R : tpH → Prop} (hw : w_Md_clear o x1 h R) : tpC Md_clear 0 [vR (some o), vI x1] h (tpOv R (fun _ _ => False)) := by
  refine tpC_of mv_Md_clear.2.2.2.1 rfl rfl (Nat.le_of_ble_eq_true rfl) ?_
  show tpR Md_clear 0 h _ _ 0 [some (vR (some o)), some (vI x1), none] [] h
  unfold w_Md_clear at hw
  refine tq_sipush (v := (300 : Int32)) dMd_clear_0 tns_300 ?_
  refine tq_iload_n dMd_clear_3 rfl rfl ?_
  refine tq_imul dMd_clear_4 ?_
  refine tq_istore_n (ls' := [some (vR (some o)), some (vI x1), some (vI ((300 : Int32) * x1))]) dMd_clear_5 rfl (Nat.le_of_ble_eq_true rfl) rfl ?_
  refine tpR.fo (ls' := [some (vR (some o)), some (vI x1), some (vI ((300 : Int32) * x1))]) ?_ (And.intro rfl (And.intro rfl (And.intro rfl trivial)))
  obtain ⟨n, hw⟩ := hw
  exact s_Md_clear_6 n _ _ _ _ hw
/-! TModel.copyTree -/
theorem dMd_copyTree_0 : decode (mB Md_copyTree) 0 = .ok (.iconst 0, 1) := by decide +kernel
theorem dMd_copyTree_1 : decode (mB Md_copyTree) 1 = .ok (.istore_n 3, 1) := by decide +kernel
theorem dMd_copyTree_2 : decode (mB Md_copyTree) 2 = .ok (.iload_n 3, 1) := by decide +kernel
theorem dMd_copyTree_3 : decode (mB Md_copyTree) 3 = .ok (.sipush 300, 3) := by decide +kernel
theorem dMd_copyTree_6 : decode (mB Md_copyTree) 6 = .ok (.if_icmp .ge 105, 3) := by decide +kernel
theorem dMd_copyTree_9 : decode (mB Md_copyTree) 9 = .ok (.aload_n 0, 1) := by decide +kernel
theorem dMd_copyTree_10 : decode (mB Md_copyTree) 10 = .ok (.getfield 19, 3) := by decide +kernel
theorem dMd_copyTree_13 : decode (mB Md_copyTree) 13 = .ok (.sipush 300, 3) := by decide +kernel
theorem dMd_copyTree_16 : decode (mB Md_copyTree) 16 = .ok (.iload_n 2, 1) := by decide +kernel
theorem dMd_copyTree_17 : decode (mB Md_copyTree) 17 = .ok (.imul, 1) := by decide +kernel
theorem dMd_copyTree_18 : decode (mB Md_copyTree) 18 = .ok (.iload_n 3, 1) := by decide +kernel
theorem dMd_copyTree_19 : decode (mB Md_copyTree) 19 = .ok (.iadd, 1) := by decide +kernel
theorem dMd_copyTree_20 : decode (mB Md_copyTree) 20 = .ok (.aload_n 0, 1) := by decide +kernel
theorem dMd_copyTree_21 : decode (mB Md_copyTree) 21 = .ok (.getfield 19, 3) := by decide +kernel
theorem dMd_copyTree_24 : decode (mB Md_copyTree) 24 = .ok (.sipush 300, 3) := by decide +kernel
theorem dMd_copyTree_27 : decode (mB Md_copyTree) 27 = .ok (.iload_n 1, 1) := by decide +kernel
theorem dMd_copyTree_28 : decode (mB Md_copyTree) 28 = .ok (.imul, 1) := by decide +kernel
theorem dMd_copyTree_29 : decode (mB Md_copyTree) 29 = .ok (.iload_n 3, 1) := by decide +kernel
theorem dMd_copyTree_30 : decode (mB Md_copyTree) 30 = .ok (.iadd, 1) := by decide +kernel
theorem dMd_copyTree_31 : decode (mB Md_copyTree) 31 = .ok (.iaload, 1) := by decide +kernel
theorem dMd_copyTree_32 : decode (mB Md_copyTree) 32 = .ok (.iastore, 1) := by decide +kernel
theorem dMd_copyTree_33 : decode (mB Md_copyTree) 33 = .ok (.aload_n 0, 1) := by decide +kernel
theorem dMd_copyTree_34 : decode (mB Md_copyTree) 34 = .ok (.getfield 22, 3) := by decide +kernel
theorem dMd_copyTree_37 : decode (mB Md_copyTree) 37 = .ok (.sipush 300, 3) := by decide +kernel
theorem dMd_copyTree_40 : decode (mB Md_copyTree) 40 = .ok (.iload_n 2, 1) := by decide +kernel
theorem dMd_copyTree_41 : decode (mB Md_copyTree) 41 = .ok (.imul, 1) := by decide +kernel
theorem dMd_copyTree_42 : decode (mB Md_copyTree) 42 = .ok (.iload_n 3, 1) := by decide +kernel
theorem dMd_copyTree_43 : decode (mB Md_copyTree) 43 = .ok (.iadd, 1) := by decide +kernel
theorem dMd_copyTree_44 : decode (mB Md_copyTree) 44 = .ok (.aload_n 0, 1) := by decide +kernel
theorem dMd_copyTree_45 : decode (mB Md_copyTree) 45 = .ok (.getfield 22, 3) := by decide +kernel
theorem dMd_copyTree_48 : decode (mB Md_copyTree) 48 = .ok (.sipush 300, 3) := by decide +kernel
theorem dMd_copyTree_51 : decode (mB Md_copyTree) 51 = .ok (.iload_n 1, 1) := by decide +kernel
theorem dMd_copyTree_52 : decode (mB Md_copyTree) 52 = .ok (.imul, 1) := by decide +kernel
theorem dMd_copyTree_53 : decode (mB Md_copyTree) 53 = .ok (.iload_n 3, 1) := by decide +kernel
theorem dMd_copyTree_54 : decode (mB Md_copyTree) 54 = .ok (.iadd, 1) := by decide +kernel
theorem dMd_copyTree_55 : decode (mB Md_copyTree) 55 = .ok (.iaload, 1) := by decide +kernel
theorem dMd_copyTree_56 : decode (mB Md_copyTree) 56 = .ok (.iastore, 1) := by decide +kernel
theorem dMd_copyTree_57 : decode (mB Md_copyTree) 57 = .ok (.aload_n 0, 1) := by decide +kernel
theorem dMd_copyTree_58 : decode (mB Md_copyTree) 58 = .ok (.getfield 25, 3) := by decide +kernel
theorem dMd_copyTree_61 : decode (mB Md_copyTree) 61 = .ok (.sipush 300, 3) := by decide +kernel
theorem dMd_copyTree_64 : decode (mB Md_copyTree) 64 = .ok (.iload_n 2, 1) := by decide +kernel
theorem dMd_copyTree_65 : decode (mB Md_copyTree) 65 = .ok (.imul, 1) := by decide +kernel
theorem dMd_copyTree_66 : decode (mB Md_copyTree) 66 = .ok (.iload_n 3, 1) := by decide +kernel
theorem dMd_copyTree_67 : decode (mB Md_copyTree) 67 = .ok (.iadd, 1) := by decide +kernel
theorem dMd_copyTree_68 : decode (mB Md_copyTree) 68 = .ok (.aload_n 0, 1) := by decide +kernel
theorem dMd_copyTree_69 : decode (mB Md_copyTree) 69 = .ok (.getfield 25, 3) := by decide +kernel
theorem dMd_copyTree_72 : decode (mB Md_copyTree) 72 = .ok (.sipush 300, 3) := by decide +kernel
theorem dMd_copyTree_75 : decode (mB Md_copyTree) 75 = .ok (.iload_n 1, 1) := by decide +kernel
theorem dMd_copyTree_76 : decode (mB Md_copyTree) 76 = .ok (.imul, 1) := by decide +kernel
theorem dMd_copyTree_77 : decode (mB Md_copyTree) 77 = .ok (.iload_n 3, 1) := by decide +kernel
theorem dMd_copyTree_78 : decode (mB Md_copyTree) 78 = .ok (.iadd, 1) := by decide +kernel
theorem dMd_copyTree_79 : decode (mB Md_copyTree) 79 = .ok (.iaload, 1) := by decide +kernel
theorem dMd_copyTree_80 : decode (mB Md_copyTree) 80 = .ok (.iastore, 1) := by decide +kernel
theorem dMd_copyTree_81 : decode (mB Md_copyTree) 81 = .ok (.aload_n 0, 1) := by decide +kernel
theorem dMd_copyTree_82 : decode (mB Md_copyTree) 82 = .ok (.getfield 28, 3) := by decide +kernel
theorem dMd_copyTree_85 : decode (mB Md_copyTree) 85 = .ok (.sipush 300, 3) := by decide +kernel
theorem dMd_copyTree_88 : decode (mB Md_copyTree) 88 = .ok (.iload_n 2, 1) := by decide +kernel
theorem dMd_copyTree_89 : decode (mB Md_copyTree) 89 = .ok (.imul, 1) := by decide +kernel
theorem dMd_copyTree_90 : decode (mB Md_copyTree) 90 = .ok (.iload_n 3, 1) := by decide +kernel
theorem dMd_copyTree_91 : decode (mB Md_copyTree) 91 = .ok (.iadd, 1) := by decide +kernel
theorem dMd_copyTree_92 : decode (mB Md_copyTree) 92 = .ok (.aload_n 0, 1) := by decide +kernel
theorem dMd_copyTree_93 : decode (mB Md_copyTree) 93 = .ok (.getfield 28, 3) := by decide +kernel
theorem dMd_copyTree_96 : decode (mB Md_copyTree) 96 = .ok (.sipush 300, 3) := by decide +kernel
theorem dMd_copyTree_99 : decode (mB Md_copyTree) 99 = .ok (.iload_n 1, 1) := by decide +kernel
theorem dMd_copyTree_100 : decode (mB Md_copyTree) 100 = .ok (.imul, 1) := by decide +kernel
theorem dMd_copyTree_101 : decode (mB Md_copyTree) 101 = .ok (.iload_n 3, 1) := by decide +kernel
theorem dMd_copyTree_102 : decode (mB Md_copyTree) 102 = .ok (.iadd, 1) := by decide +kernel
theorem dMd_copyTree_103 : decode (mB Md_copyTree) 103 = .ok (.iaload, 1) := by decide +kernel
theorem dMd_copyTree_104 : decode (mB Md_copyTree) 104 = .ok (.iastore, 1) := by decide +kernel
theorem dMd_copyTree_105 : decode (mB Md_copyTree) 105 = .ok (.iinc 3 1, 3) := by decide +kernel
theorem dMd_copyTree_108 : decode (mB Md_copyTree) 108 = .ok (.goto (-106), 3) := by decide +kernel
theorem dMd_copyTree_111 : decode (mB Md_copyTree) 111 = .ok (.aload_n 0, 1) := by decide +kernel
theorem dMd_copyTree_112 : decode (mB Md_copyTree) 112 = .ok (.getfield 16, 3) := by decide +kernel
theorem dMd_copyTree_115 : decode (mB Md_copyTree) 115 = .ok (.iload_n 2, 1) := by decide +kernel
theorem dMd_copyTree_116 : decode (mB Md_copyTree) 116 = .ok (.aload_n 0, 1) := by decide +kernel
theorem dMd_copyTree_117 : decode (mB Md_copyTree) 117 = .ok (.getfield 16, 3) := by decide +kernel
theorem dMd_copyTree_120 : decode (mB Md_copyTree) 120 = .ok (.iload_n 1, 1) := by decide +kernel
theorem dMd_copyTree_121 : decode (mB Md_copyTree) 121 = .ok (.iaload, 1) := by decide +kernel
theorem dMd_copyTree_122 : decode (mB Md_copyTree) 122 = .ok (.iastore, 1) := by decide +kernel
theorem dMd_copyTree_123 : decode (mB Md_copyTree) 123 = .ok (.return_, 1) := by decide +kernel
def b_Md_copyTree_2 (R : tpH → Prop) (Y : Nat → Int32 → Int32 → Int32 → tpH → Prop) (o : Nat) (x1 : Int32) (x2 : Int32) (x3 : Int32) (h : tpH) : Prop :=
  ((300 : Int32) ≤ x3 → (hT h o = 14 ∧ (∃ a3, (hR h o 5) = some a3 ∧ hT h a3 = 15 ∧ (vp_in x1 (hL h a3) ∧ (vp_in x2 (hL h a3) ∧ (∀ h8, h8 = sI h a3 x2.toNatClampNeg (hI h a3 x1.toNatClampNeg) → (R h8))))))) ∧ (¬ (300 : Int32) ≤ x3 → (hT h o = 14 ∧ (∃ a11, (hR h o 6) = some a11 ∧ hT h a11 = 15 ∧ (vp_in (((300 : Int32) * x1) + x3) (hL h a11) ∧ (vp_in (((300 : Int32) * x2) + x3) (hL h a11) ∧ (∀ h16, h16 = sI h a11 (((300 : Int32) * x2) + x3).toNatClampNeg (hI h a11 (((300 : Int32) * x1) + x3).toNatClampNeg) → (∃ a18, (hR h16 o 7) = some a18 ∧ hT h16 a18 = 15 ∧ (vp_in (((300 : Int32) * x1) + x3) (hL h16 a18) ∧ (vp_in (((300 : Int32) * x2) + x3) (hL h16 a18) ∧ (∀ h23, h23 = sI h16 a18 (((300 : Int32) * x2) + x3).toNatClampNeg (hI h16 a18 (((300 : Int32) * x1) + x3).toNatClampNeg) → (∃ a25, (hR h23 o 8) = some a25 ∧ hT h23 a25 = 15 ∧ (vp_in (((300 : Int32) * x1) + x3) (hL h23 a25) ∧ (vp_in (((300 : Int32) * x2) + x3) (hL h23 a25) ∧ (∀ h30, h30 = sI h23 a25 (((300 : Int32) * x2) + x3).toNatClampNeg (hI h23 a25 (((300 : Int32) * x1) + x3).toNatClampNeg) → (∃ a32, (hR h30 o 9) = some a32 ∧ hT h30 a32 = 15 ∧ (vp_in (((300 : Int32) * x1) + x3) (hL h30 a32) ∧ (vp_in (((300 : Int32) * x2) + x3) (hL h30 a32) ∧ (∀ h37, h37 = sI h30 a32 (((300 : Int32) * x2) + x3).toNatClampNeg (hI h30 a32 (((300 : Int32) * x1) + x3).toNatClampNeg) → (Y o x1 x2 (x3 + (1 : Int32)) h37)))))))))))))))))))
def w_Md_copyTree_2 (R : tpH → Prop) : Nat → Nat → Int32 → Int32 → Int32 → tpH → Prop
  | 0 => fun _ _ _ _ _ => False
  | n + 1 => b_Md_copyTree_2 R (w_Md_copyTree_2 R n)
def w_Md_copyTree (o : Nat) (x1 : Int32) (x2 : Int32) (h : tpH) (R : tpH → Prop) : Prop :=
  ∃ n, w_Md_copyTree_2 R n o x1 x2 (0 : Int32) h
theorem s_Md_copyTree_2 {h0 : tpH} {av : List tpV} {R : tpH → Prop} : ∀ (n : Nat) (o : Nat) (x1 : Int32) (x2 : Int32) (x3 : Int32) (h : tpH), w_Md_copyTree_2 R n o x1 x2 x3 h → tpR Md_copyTree 0 h0 av (tpOv R (fun _ _ => False)) 2 [some (vR (some o)), some (vI x1), some (vI x2), some (vI x3)] [] h := by
  intro n
  induction n with
  | zero => intro o x1 x2 x3 h hw; exact False.elim hw
  | succ n ih =>
    intro o x1 x2 x3 h hw
    change b_Md_copyTree_2 R (w_Md_copyTree_2 R n) o x1 x2 x3 h at hw
    unfold b_Md_copyTree_2 at hw
    refine tq_iload_n dMd_copyTree_2 rfl rfl ?_
    refine tq_sipush (v := (300 : Int32)) dMd_copyTree_3 tns_300 ?_
    refine tq_icmpge (tgt := 111) dMd_copyTree_6 (by decide) (fun c1 => ?_) (fun c1 => ?_)
    · have hw := hw.1 c1
      refine tq_aload_n dMd_copyTree_111 rfl rfl ?_
      obtain ⟨f2, hw⟩ := hw
      refine te_getr dMd_copyTree_112 fMd_16 rfl rfl f2 ?_
      refine tq_iload_n dMd_copyTree_115 rfl rfl ?_
      refine tq_aload_n dMd_copyTree_116 rfl rfl ?_
      refine te_getr dMd_copyTree_117 fMd_16 rfl rfl f2 ?_
      refine tq_iload_n dMd_copyTree_120 rfl rfl ?_
      obtain ⟨a3, e4, f5, hw⟩ := hw
      obtain ⟨f6, hw⟩ := hw
      refine te_iald dMd_copyTree_121 e4 (Or.inl f5) f6 ?_
      obtain ⟨f7, hw⟩ := hw
      refine te_iast dMd_copyTree_122 e4 f5 f7 (fun h8 e9 => ?_)
      have hw := hw h8 e9
      exact tq_vret rfl dMd_copyTree_123 hw
    · have hw := hw.2 c1
      refine tq_aload_n dMd_copyTree_9 rfl rfl ?_
      obtain ⟨f10, hw⟩ := hw
      refine te_getr dMd_copyTree_10 fMd_19 rfl rfl f10 ?_
      refine tq_sipush (v := (300 : Int32)) dMd_copyTree_13 tns_300 ?_
      refine tq_iload_n dMd_copyTree_16 rfl rfl ?_
      refine tq_imul dMd_copyTree_17 ?_
      refine tq_iload_n dMd_copyTree_18 rfl rfl ?_
      refine tq_iadd dMd_copyTree_19 ?_
      refine tq_aload_n dMd_copyTree_20 rfl rfl ?_
      refine te_getr dMd_copyTree_21 fMd_19 rfl rfl f10 ?_
      refine tq_sipush (v := (300 : Int32)) dMd_copyTree_24 tns_300 ?_
      refine tq_iload_n dMd_copyTree_27 rfl rfl ?_
      refine tq_imul dMd_copyTree_28 ?_
      refine tq_iload_n dMd_copyTree_29 rfl rfl ?_
      refine tq_iadd dMd_copyTree_30 ?_
      obtain ⟨a11, e12, f13, hw⟩ := hw
      obtain ⟨f14, hw⟩ := hw
      refine te_iald dMd_copyTree_31 e12 (Or.inl f13) f14 ?_
      obtain ⟨f15, hw⟩ := hw
      refine te_iast dMd_copyTree_32 e12 f13 f15 (fun h16 e17 => ?_)
      have hw := hw h16 e17
      refine tq_aload_n dMd_copyTree_33 rfl rfl ?_
      refine te_getr dMd_copyTree_34 fMd_22 rfl rfl (by rw [e17]; exact f10) ?_
      refine tq_sipush (v := (300 : Int32)) dMd_copyTree_37 tns_300 ?_
      refine tq_iload_n dMd_copyTree_40 rfl rfl ?_
      refine tq_imul dMd_copyTree_41 ?_
      refine tq_iload_n dMd_copyTree_42 rfl rfl ?_
      refine tq_iadd dMd_copyTree_43 ?_
      refine tq_aload_n dMd_copyTree_44 rfl rfl ?_
      refine te_getr dMd_copyTree_45 fMd_22 rfl rfl (by rw [e17]; exact f10) ?_
      refine tq_sipush (v := (300 : Int32)) dMd_copyTree_48 tns_300 ?_
      refine tq_iload_n dMd_copyTree_51 rfl rfl ?_
      refine tq_imul dMd_copyTree_52 ?_
      refine tq_iload_n dMd_copyTree_53 rfl rfl ?_
      refine tq_iadd dMd_copyTree_54 ?_
      obtain ⟨a18, e19, f20, hw⟩ := hw
      obtain ⟨f21, hw⟩ := hw
      refine te_iald dMd_copyTree_55 e19 (Or.inl f20) f21 ?_
      obtain ⟨f22, hw⟩ := hw
      refine te_iast dMd_copyTree_56 e19 f20 f22 (fun h23 e24 => ?_)
      have hw := hw h23 e24
      refine tq_aload_n dMd_copyTree_57 rfl rfl ?_
      refine te_getr dMd_copyTree_58 fMd_25 rfl rfl (by rw [e24]; exact (by rw [e17]; exact f10)) ?_
      refine tq_sipush (v := (300 : Int32)) dMd_copyTree_61 tns_300 ?_
      refine tq_iload_n dMd_copyTree_64 rfl rfl ?_
      refine tq_imul dMd_copyTree_65 ?_
      refine tq_iload_n dMd_copyTree_66 rfl rfl ?_
      refine tq_iadd dMd_copyTree_67 ?_
      refine tq_aload_n dMd_copyTree_68 rfl rfl ?_
      refine te_getr dMd_copyTree_69 fMd_25 rfl rfl (by rw [e24]; exact (by rw [e17]; exact f10)) ?_
      refine tq_sipush (v := (300 : Int32)) dMd_copyTree_72 tns_300 ?_
      refine tq_iload_n dMd_copyTree_75 rfl rfl ?_
      refine tq_imul dMd_copyTree_76 ?_
      refine tq_iload_n dMd_copyTree_77 rfl rfl ?_
      refine tq_iadd dMd_copyTree_78 ?_
      obtain ⟨a25, e26, f27, hw⟩ := hw
      obtain ⟨f28, hw⟩ := hw
      refine te_iald dMd_copyTree_79 e26 (Or.inl f27) f28 ?_
      obtain ⟨f29, hw⟩ := hw
      refine te_iast dMd_copyTree_80 e26 f27 f29 (fun h30 e31 => ?_)
      have hw := hw h30 e31
      refine tq_aload_n dMd_copyTree_81 rfl rfl ?_
      refine te_getr dMd_copyTree_82 fMd_28 rfl rfl (by rw [e31]; exact (by rw [e24]; exact (by rw [e17]; exact f10))) ?_
      refine tq_sipush (v := (300 : Int32)) dMd_copyTree_85 tns_300 ?_
      refine tq_iload_n dMd_copyTree_88 rfl rfl ?_
      refine tq_imul dMd_copyTree_89 ?_
      refine tq_iload_n dMd_copyTree_90 rfl rfl ?_
      refine tq_iadd dMd_copyTree_91 ?_
      refine tq_aload_n dMd_copyTree_92 rfl rfl ?_
      refine te_getr dMd_copyTree_93 fMd_28 rfl rfl (by rw [e31]; exact (by rw [e24]; exact (by rw [e17]; exact f10))) ?_
      refine tq_sipush (v := (300 : Int32)) dMd_copyTree_96 tns_300 ?_
      refine tq_iload_n dMd_copyTree_99 rfl rfl ?_
      refine tq_imul dMd_copyTree_100 ?_
      refine tq_iload_n dMd_copyTree_101 rfl rfl ?_
      refine tq_iadd dMd_copyTree_102 ?_
      obtain ⟨a32, e33, f34, hw⟩ := hw
      obtain ⟨f35, hw⟩ := hw
      refine te_iald dMd_copyTree_103 e33 (Or.inl f34) f35 ?_
      obtain ⟨f36, hw⟩ := hw
      refine te_iast dMd_copyTree_104 e33 f34 f36 (fun h37 e38 => ?_)
      have hw := hw h37 e38
      refine tq_inc (k := (1 : Int32)) (ls' := [some (vR (some o)), some (vI x1), some (vI x2), some (vI (x3 + (1 : Int32)))]) dMd_copyTree_105 rfl tni_1 (Nat.le_of_ble_eq_true rfl) rfl ?_
      refine tq_goto (tgt := 2) dMd_copyTree_108 (by decide) ?_
      refine tpR.fo (ls' := [some (vR (some o)), some (vI x1), some (vI x2), some (vI (x3 + (1 : Int32)))]) ?_ (And.intro rfl (And.intro rfl (And.intro rfl (And.intro rfl trivial))))
      exact ih _ _ _ _ _ hw
theorem s_Md_copyTree {o : Nat} {x1 : Int32} {x2 : Int32} {h : tpH} {R : tpH → Prop} (hw : w_Md_copyTree o x1 x2 h R) : tpC Md_copyTree 0 [vR (some o), vI x1, vI x2] h (tpOv R (fun _ _ => False)) := by
  refine tpC_of mv_Md_copyTree.2.2.2.1 rfl rfl (Nat.le_of_ble_eq_true rfl) ?_
  show tpR Md_copyTree 0 h _ _ 0 [some (vR (some o)), some (vI x1), some (vI x2), none] [] h
  unfold w_Md_copyTree at hw
  refine tq_iconst (v := (0 : Int32)) dMd_copyTree_0 tni_0 ?_
  refine tq_istore_n (ls' := [some (vR (some o)), some (vI x1), some (vI x2), some (vI (0 : Int32))]) dMd_copyTree_1 rfl (Nat.le_of_ble_eq_true rfl) rfl ?_
  refine tpR.fo (ls' := [some (vR (some o)), some (vI x1), some (vI x2), some (vI (0 : Int32))]) ?_ (And.intro rfl (And.intro rfl (And.intro rfl (And.intro rfl trivial))))
  obtain ⟨n, hw⟩ := hw
  exact s_Md_copyTree_2 n _ _ _ _ _ hw
/-! TModel.sibling -/
theorem dMd_sibling_0 : decode (mB Md_sibling) 0 = .ok (.iload 4, 2) := by decide +kernel
theorem dMd_sibling_2 : decode (mB Md_sibling) 2 = .ok (.ifCond .ne 10, 3) := by decide +kernel
theorem dMd_sibling_5 : decode (mB Md_sibling) 5 = .ok (.aload_n 0, 1) := by decide +kernel
theorem dMd_sibling_6 : decode (mB Md_sibling) 6 = .ok (.iload_n 1, 1) := by decide +kernel
theorem dMd_sibling_7 : decode (mB Md_sibling) 7 = .ok (.iload_n 3, 1) := by decide +kernel
theorem dMd_sibling_8 : decode (mB Md_sibling) 8 = .ok (.invokevirtual 169, 3) := by decide +kernel
theorem dMd_sibling_11 : decode (mB Md_sibling) 11 = .ok (.ireturn, 1) := by decide +kernel
theorem dMd_sibling_12 : decode (mB Md_sibling) 12 = .ok (.iconst (-1), 1) := by decide +kernel
theorem dMd_sibling_13 : decode (mB Md_sibling) 13 = .ok (.istore 5, 2) := by decide +kernel
theorem dMd_sibling_15 : decode (mB Md_sibling) 15 = .ok (.aload_n 0, 1) := by decide +kernel
theorem dMd_sibling_16 : decode (mB Md_sibling) 16 = .ok (.iload_n 1, 1) := by decide +kernel
theorem dMd_sibling_17 : decode (mB Md_sibling) 17 = .ok (.iload_n 2, 1) := by decide +kernel
theorem dMd_sibling_18 : decode (mB Md_sibling) 18 = .ok (.invokevirtual 173, 3) := by decide +kernel
theorem dMd_sibling_21 : decode (mB Md_sibling) 21 = .ok (.istore 6, 2) := by decide +kernel
theorem dMd_sibling_23 : decode (mB Md_sibling) 23 = .ok (.iload 6, 2) := by decide +kernel
theorem dMd_sibling_25 : decode (mB Md_sibling) 25 = .ok (.iload_n 3, 1) := by decide +kernel
theorem dMd_sibling_26 : decode (mB Md_sibling) 26 = .ok (.if_icmp .eq 19, 3) := by decide +kernel
theorem dMd_sibling_29 : decode (mB Md_sibling) 29 = .ok (.iload 6, 2) := by decide +kernel
theorem dMd_sibling_31 : decode (mB Md_sibling) 31 = .ok (.istore 5, 2) := by decide +kernel
theorem dMd_sibling_33 : decode (mB Md_sibling) 33 = .ok (.aload_n 0, 1) := by decide +kernel
theorem dMd_sibling_34 : decode (mB Md_sibling) 34 = .ok (.iload_n 1, 1) := by decide +kernel
theorem dMd_sibling_35 : decode (mB Md_sibling) 35 = .ok (.iload 6, 2) := by decide +kernel
theorem dMd_sibling_37 : decode (mB Md_sibling) 37 = .ok (.invokevirtual 169, 3) := by decide +kernel
theorem dMd_sibling_40 : decode (mB Md_sibling) 40 = .ok (.istore 6, 2) := by decide +kernel
theorem dMd_sibling_42 : decode (mB Md_sibling) 42 = .ok (.goto (-19), 3) := by decide +kernel
theorem dMd_sibling_45 : decode (mB Md_sibling) 45 = .ok (.iload 5, 2) := by decide +kernel
theorem dMd_sibling_47 : decode (mB Md_sibling) 47 = .ok (.ireturn, 1) := by decide +kernel
def b_Md_sibling_23 (R : Int32 → tpH → Prop) (Y : Nat → Int32 → Int32 → Int32 → Int32 → tpH → Prop) (o : Nat) (x1 : Int32) (x3 : Int32) (x5 : Int32) (x6 : Int32) (h : tpH) : Prop :=
  (x6 = x3 → (R x5 h)) ∧ (¬ x6 = x3 → (hT h o = 14 ∧ (w_Md_nextIn o x1 x6 h (fun v4 h3 => Y o x1 x3 x6 v4 h3))))
def w_Md_sibling_23 (R : Int32 → tpH → Prop) : Nat → Nat → Int32 → Int32 → Int32 → Int32 → tpH → Prop
  | 0 => fun _ _ _ _ _ _ => False
  | n + 1 => b_Md_sibling_23 R (w_Md_sibling_23 R n)
def w_Md_sibling (o : Nat) (x1 : Int32) (x2 : Int32) (x3 : Int32) (x4 : Int32) (h : tpH) (R : Int32 → tpH → Prop) : Prop :=
  (¬ x4 = 0 → (hT h o = 14 ∧ (w_Md_firstIn o x1 x2 h (fun v4 h3 => ∃ n, w_Md_sibling_23 R n o x1 x3 (-1 : Int32) v4 h3)))) ∧ (x4 = 0 → (hT h o = 14 ∧ (w_Md_nextIn o x1 x3 h (fun v7 h6 => R v7 h6))))
theorem s_Md_sibling_23 {h0 : tpH} {av : List tpV} {R : Int32 → tpH → Prop} : ∀ (n : Nat) (o : Nat) (x1 : Int32) (x3 : Int32) (x5 : Int32) (x6 : Int32) (h : tpH), w_Md_sibling_23 R n o x1 x3 x5 x6 h → tpR Md_sibling 1 h0 av (tpOi R (fun _ _ => False)) 23 [some (vR (some o)), some (vI x1), none, some (vI x3), none, some (vI x5), some (vI x6)] [] h := by
  intro n
  induction n with
  | zero => intro o x1 x3 x5 x6 h hw; exact False.elim hw
  | succ n ih =>
    intro o x1 x3 x5 x6 h hw
    change b_Md_sibling_23 R (w_Md_sibling_23 R n) o x1 x3 x5 x6 h at hw
    unfold b_Md_sibling_23 at hw
    refine tq_iload dMd_sibling_23 rfl ?_
    refine tq_iload_n dMd_sibling_25 rfl rfl ?_
    refine tq_icmpeq (tgt := 45) dMd_sibling_26 (by decide) (fun c1 => ?_) (fun c1 => ?_)
    · have hw := hw.1 c1
      refine tq_iload dMd_sibling_45 rfl ?_
      exact tq_iret rfl rfl dMd_sibling_47 hw
    · have hw := hw.2 c1
      refine tq_iload dMd_sibling_29 rfl ?_
      refine tq_istore (ls' := [some (vR (some o)), some (vI x1), none, some (vI x3), none, some (vI x6), some (vI x6)]) dMd_sibling_31 (Nat.le_of_ble_eq_true rfl) rfl ?_
      refine tq_aload_n dMd_sibling_33 rfl rfl ?_
      refine tq_iload_n dMd_sibling_34 rfl rfl ?_
      refine tq_iload dMd_sibling_35 rfl ?_
      obtain ⟨f2, hw⟩ := hw
      refine te_callV mv_Md_nextIn (ci := 13) (dc := 0) (as := [vI x1, vI x6]) (rest := []) kMd_169 rfl (Nat.le_of_ble_eq_true rfl) (Nat.le_of_ble_eq_true rfl) rfl rfl rfl f2 (Nat.le_of_ble_eq_true rfl) dMd_sibling_37 (s_Md_nextIn hw) (fun _ _ hx => False.elim hx) (tk_i fun v4 h3 hw => ?_)
      refine tq_istore (ls' := [some (vR (some o)), some (vI x1), none, some (vI x3), none, some (vI x6), some (vI v4)]) dMd_sibling_40 (Nat.le_of_ble_eq_true rfl) rfl ?_
      refine tq_goto (tgt := 23) dMd_sibling_42 (by decide) ?_
      refine tpR.fo (ls' := [some (vR (some o)), some (vI x1), none, some (vI x3), none, some (vI x6), some (vI v4)]) ?_ (And.intro rfl (And.intro rfl (And.intro rfl (And.intro rfl (And.intro rfl trivial)))))
      exact ih _ _ _ _ _ _ hw
theorem s_Md_sibling {o : Nat} {x1 : Int32} {x2 : Int32} {x3 : Int32} {x4 : Int32} {h : tpH} {R : Int32 → tpH → Prop} (hw : w_Md_sibling o x1 x2 x3 x4 h R) : tpC Md_sibling 1 [vR (some o), vI x1, vI x2, vI x3, vI x4] h (tpOi R (fun _ _ => False)) := by
  refine tpC_of mv_Md_sibling.2.2.2.1 rfl rfl (Nat.le_of_ble_eq_true rfl) ?_
  show tpR Md_sibling 1 h _ _ 0 [some (vR (some o)), some (vI x1), some (vI x2), some (vI x3), some (vI x4), none, none] [] h
  unfold w_Md_sibling at hw
  refine tq_iload dMd_sibling_0 rfl ?_
  refine tq_ifne (tgt := 12) dMd_sibling_2 (by decide) (fun c1 => ?_) (fun c1 => ?_)
  · have hw := hw.1 c1
    refine tq_iconst (v := (-1 : Int32)) dMd_sibling_12 tni_m1 ?_
    refine tq_istore (ls' := [some (vR (some o)), some (vI x1), some (vI x2), some (vI x3), some (vI x4), some (vI (-1 : Int32)), none]) dMd_sibling_13 (Nat.le_of_ble_eq_true rfl) rfl ?_
    refine tq_aload_n dMd_sibling_15 rfl rfl ?_
    refine tq_iload_n dMd_sibling_16 rfl rfl ?_
    refine tq_iload_n dMd_sibling_17 rfl rfl ?_
    obtain ⟨f2, hw⟩ := hw
    refine te_callV mv_Md_firstIn (ci := 13) (dc := 0) (as := [vI x1, vI x2]) (rest := []) kMd_173 rfl (Nat.le_of_ble_eq_true rfl) (Nat.le_of_ble_eq_true rfl) rfl rfl rfl f2 (Nat.le_of_ble_eq_true rfl) dMd_sibling_18 (s_Md_firstIn hw) (fun _ _ hx => False.elim hx) (tk_i fun v4 h3 hw => ?_)
    refine tq_istore (ls' := [some (vR (some o)), some (vI x1), some (vI x2), some (vI x3), some (vI x4), some (vI (-1 : Int32)), some (vI v4)]) dMd_sibling_21 (Nat.le_of_ble_eq_true rfl) rfl ?_
    refine tpR.fo (ls' := [some (vR (some o)), some (vI x1), none, some (vI x3), none, some (vI (-1 : Int32)), some (vI v4)]) ?_ (And.intro rfl (And.intro rfl (And.intro rfl (And.intro rfl (And.intro rfl trivial)))))
    obtain ⟨n, hw⟩ := hw
    exact s_Md_sibling_23 n _ _ _ _ _ _ hw
  · have hw := hw.2 c1
    refine tq_aload_n dMd_sibling_5 rfl rfl ?_
    refine tq_iload_n dMd_sibling_6 rfl rfl ?_
    refine tq_iload_n dMd_sibling_7 rfl rfl ?_
    obtain ⟨f5, hw⟩ := hw
    refine te_callV mv_Md_nextIn (ci := 13) (dc := 0) (as := [vI x1, vI x3]) (rest := []) kMd_169 rfl (Nat.le_of_ble_eq_true rfl) (Nat.le_of_ble_eq_true rfl) rfl rfl rfl f5 (Nat.le_of_ble_eq_true rfl) dMd_sibling_8 (s_Md_nextIn hw) (fun _ _ hx => False.elim hx) (tk_i fun v7 h6 hw => ?_)
    exact tq_iret rfl rfl dMd_sibling_11 hw
/-! TModel.hang -/
theorem dMd_hang_0 : decode (mB Md_hang) 0 = .ok (.iload 4, 2) := by decide +kernel
theorem dMd_hang_2 : decode (mB Md_hang) 2 = .ok (.istore 5, 2) := by decide +kernel
theorem dMd_hang_4 : decode (mB Md_hang) 4 = .ok (.aload_n 0, 1) := by decide +kernel
theorem dMd_hang_5 : decode (mB Md_hang) 5 = .ok (.iload_n 3, 1) := by decide +kernel
theorem dMd_hang_6 : decode (mB Md_hang) 6 = .ok (.invokevirtual 176, 3) := by decide +kernel
theorem dMd_hang_9 : decode (mB Md_hang) 9 = .ok (.ifCond .ne 47, 3) := by decide +kernel
theorem dMd_hang_12 : decode (mB Md_hang) 12 = .ok (.iconst (-1), 1) := by decide +kernel
theorem dMd_hang_13 : decode (mB Md_hang) 13 = .ok (.istore 5, 2) := by decide +kernel
theorem dMd_hang_15 : decode (mB Md_hang) 15 = .ok (.aload_n 0, 1) := by decide +kernel
theorem dMd_hang_16 : decode (mB Md_hang) 16 = .ok (.iload_n 1, 1) := by decide +kernel
theorem dMd_hang_17 : decode (mB Md_hang) 17 = .ok (.iload_n 3, 1) := by decide +kernel
theorem dMd_hang_18 : decode (mB Md_hang) 18 = .ok (.invokevirtual 173, 3) := by decide +kernel
theorem dMd_hang_21 : decode (mB Md_hang) 21 = .ok (.istore 6, 2) := by decide +kernel
theorem dMd_hang_23 : decode (mB Md_hang) 23 = .ok (.iload 6, 2) := by decide +kernel
theorem dMd_hang_25 : decode (mB Md_hang) 25 = .ok (.iconst (-1), 1) := by decide +kernel
theorem dMd_hang_26 : decode (mB Md_hang) 26 = .ok (.if_icmp .eq 30, 3) := by decide +kernel
theorem dMd_hang_29 : decode (mB Md_hang) 29 = .ok (.iload 6, 2) := by decide +kernel
theorem dMd_hang_31 : decode (mB Md_hang) 31 = .ok (.iload_n 2, 1) := by decide +kernel
theorem dMd_hang_32 : decode (mB Md_hang) 32 = .ok (.if_icmp .ge 8, 3) := by decide +kernel
theorem dMd_hang_35 : decode (mB Md_hang) 35 = .ok (.iload 6, 2) := by decide +kernel
theorem dMd_hang_37 : decode (mB Md_hang) 37 = .ok (.goto 5, 3) := by decide +kernel
theorem dMd_hang_40 : decode (mB Md_hang) 40 = .ok (.iload 5, 2) := by decide +kernel
theorem dMd_hang_42 : decode (mB Md_hang) 42 = .ok (.istore 5, 2) := by decide +kernel
theorem dMd_hang_44 : decode (mB Md_hang) 44 = .ok (.aload_n 0, 1) := by decide +kernel
theorem dMd_hang_45 : decode (mB Md_hang) 45 = .ok (.iload_n 1, 1) := by decide +kernel
theorem dMd_hang_46 : decode (mB Md_hang) 46 = .ok (.iload 6, 2) := by decide +kernel
theorem dMd_hang_48 : decode (mB Md_hang) 48 = .ok (.invokevirtual 169, 3) := by decide +kernel
theorem dMd_hang_51 : decode (mB Md_hang) 51 = .ok (.istore 6, 2) := by decide +kernel
theorem dMd_hang_53 : decode (mB Md_hang) 53 = .ok (.goto (-30), 3) := by decide +kernel
theorem dMd_hang_56 : decode (mB Md_hang) 56 = .ok (.aload_n 0, 1) := by decide +kernel
theorem dMd_hang_57 : decode (mB Md_hang) 57 = .ok (.getfield 19, 3) := by decide +kernel
theorem dMd_hang_60 : decode (mB Md_hang) 60 = .ok (.sipush 300, 3) := by decide +kernel
theorem dMd_hang_63 : decode (mB Md_hang) 63 = .ok (.iload_n 1, 1) := by decide +kernel
theorem dMd_hang_64 : decode (mB Md_hang) 64 = .ok (.imul, 1) := by decide +kernel
theorem dMd_hang_65 : decode (mB Md_hang) 65 = .ok (.iload_n 2, 1) := by decide +kernel
theorem dMd_hang_66 : decode (mB Md_hang) 66 = .ok (.iadd, 1) := by decide +kernel
theorem dMd_hang_67 : decode (mB Md_hang) 67 = .ok (.iload_n 3, 1) := by decide +kernel
theorem dMd_hang_68 : decode (mB Md_hang) 68 = .ok (.iastore, 1) := by decide +kernel
theorem dMd_hang_69 : decode (mB Md_hang) 69 = .ok (.iload 5, 2) := by decide +kernel
theorem dMd_hang_71 : decode (mB Md_hang) 71 = .ok (.iconst (-1), 1) := by decide +kernel
theorem dMd_hang_72 : decode (mB Md_hang) 72 = .ok (.if_icmp .ne 37, 3) := by decide +kernel
theorem dMd_hang_75 : decode (mB Md_hang) 75 = .ok (.aload_n 0, 1) := by decide +kernel
theorem dMd_hang_76 : decode (mB Md_hang) 76 = .ok (.getfield 28, 3) := by decide +kernel
theorem dMd_hang_79 : decode (mB Md_hang) 79 = .ok (.sipush 300, 3) := by decide +kernel
theorem dMd_hang_82 : decode (mB Md_hang) 82 = .ok (.iload_n 1, 1) := by decide +kernel
theorem dMd_hang_83 : decode (mB Md_hang) 83 = .ok (.imul, 1) := by decide +kernel
theorem dMd_hang_84 : decode (mB Md_hang) 84 = .ok (.iload_n 2, 1) := by decide +kernel
theorem dMd_hang_85 : decode (mB Md_hang) 85 = .ok (.iadd, 1) := by decide +kernel
theorem dMd_hang_86 : decode (mB Md_hang) 86 = .ok (.aload_n 0, 1) := by decide +kernel
theorem dMd_hang_87 : decode (mB Md_hang) 87 = .ok (.iload_n 1, 1) := by decide +kernel
theorem dMd_hang_88 : decode (mB Md_hang) 88 = .ok (.iload_n 3, 1) := by decide +kernel
theorem dMd_hang_89 : decode (mB Md_hang) 89 = .ok (.invokevirtual 173, 3) := by decide +kernel
theorem dMd_hang_92 : decode (mB Md_hang) 92 = .ok (.iastore, 1) := by decide +kernel
theorem dMd_hang_93 : decode (mB Md_hang) 93 = .ok (.aload_n 0, 1) := by decide +kernel
theorem dMd_hang_94 : decode (mB Md_hang) 94 = .ok (.getfield 25, 3) := by decide +kernel
theorem dMd_hang_97 : decode (mB Md_hang) 97 = .ok (.sipush 300, 3) := by decide +kernel
theorem dMd_hang_100 : decode (mB Md_hang) 100 = .ok (.iload_n 1, 1) := by decide +kernel
theorem dMd_hang_101 : decode (mB Md_hang) 101 = .ok (.imul, 1) := by decide +kernel
theorem dMd_hang_102 : decode (mB Md_hang) 102 = .ok (.iload_n 3, 1) := by decide +kernel
theorem dMd_hang_103 : decode (mB Md_hang) 103 = .ok (.iadd, 1) := by decide +kernel
theorem dMd_hang_104 : decode (mB Md_hang) 104 = .ok (.iload_n 2, 1) := by decide +kernel
theorem dMd_hang_105 : decode (mB Md_hang) 105 = .ok (.iastore, 1) := by decide +kernel
theorem dMd_hang_106 : decode (mB Md_hang) 106 = .ok (.goto 36, 3) := by decide +kernel
theorem dMd_hang_109 : decode (mB Md_hang) 109 = .ok (.aload_n 0, 1) := by decide +kernel
theorem dMd_hang_110 : decode (mB Md_hang) 110 = .ok (.getfield 28, 3) := by decide +kernel
theorem dMd_hang_113 : decode (mB Md_hang) 113 = .ok (.sipush 300, 3) := by decide +kernel
theorem dMd_hang_116 : decode (mB Md_hang) 116 = .ok (.iload_n 1, 1) := by decide +kernel
theorem dMd_hang_117 : decode (mB Md_hang) 117 = .ok (.imul, 1) := by decide +kernel
theorem dMd_hang_118 : decode (mB Md_hang) 118 = .ok (.iload_n 2, 1) := by decide +kernel
theorem dMd_hang_119 : decode (mB Md_hang) 119 = .ok (.iadd, 1) := by decide +kernel
theorem dMd_hang_120 : decode (mB Md_hang) 120 = .ok (.aload_n 0, 1) := by decide +kernel
theorem dMd_hang_121 : decode (mB Md_hang) 121 = .ok (.iload_n 1, 1) := by decide +kernel
theorem dMd_hang_122 : decode (mB Md_hang) 122 = .ok (.iload 5, 2) := by decide +kernel
theorem dMd_hang_124 : decode (mB Md_hang) 124 = .ok (.invokevirtual 169, 3) := by decide +kernel
theorem dMd_hang_127 : decode (mB Md_hang) 127 = .ok (.iastore, 1) := by decide +kernel
theorem dMd_hang_128 : decode (mB Md_hang) 128 = .ok (.aload_n 0, 1) := by decide +kernel
theorem dMd_hang_129 : decode (mB Md_hang) 129 = .ok (.getfield 28, 3) := by decide +kernel
theorem dMd_hang_132 : decode (mB Md_hang) 132 = .ok (.sipush 300, 3) := by decide +kernel
theorem dMd_hang_135 : decode (mB Md_hang) 135 = .ok (.iload_n 1, 1) := by decide +kernel
theorem dMd_hang_136 : decode (mB Md_hang) 136 = .ok (.imul, 1) := by decide +kernel
theorem dMd_hang_137 : decode (mB Md_hang) 137 = .ok (.iload 5, 2) := by decide +kernel
theorem dMd_hang_139 : decode (mB Md_hang) 139 = .ok (.iadd, 1) := by decide +kernel
theorem dMd_hang_140 : decode (mB Md_hang) 140 = .ok (.iload_n 2, 1) := by decide +kernel
theorem dMd_hang_141 : decode (mB Md_hang) 141 = .ok (.iastore, 1) := by decide +kernel
theorem dMd_hang_142 : decode (mB Md_hang) 142 = .ok (.return_, 1) := by decide +kernel
def w_Md_hang_42 (R : tpH → Prop) (K23 : Nat → Int32 → Int32 → Int32 → Int32 → Int32 → tpH → Prop) (o : Nat) (x1 : Int32) (x2 : Int32) (x3 : Int32) (x6 : Int32) (t0 : Int32) (h : tpH) : Prop :=
  hT h o = 14 ∧ (w_Md_nextIn o x1 x6 h (fun v3 h2 => K23 o x1 x2 x3 t0 v3 h2))
def b_Md_hang_23 (R : tpH → Prop) (K56 : Nat → Int32 → Int32 → Int32 → Int32 → tpH → Prop) (Y : Nat → Int32 → Int32 → Int32 → Int32 → Int32 → tpH → Prop) (o : Nat) (x1 : Int32) (x2 : Int32) (x3 : Int32) (x5 : Int32) (x6 : Int32) (h : tpH) : Prop :=
  (x6 = (-1 : Int32) → (K56 o x1 x2 x3 x5 h)) ∧ (¬ x6 = (-1 : Int32) → ((x2 ≤ x6 → (w_Md_hang_42 R Y o x1 x2 x3 x6 x5 h)) ∧ (¬ x2 ≤ x6 → (w_Md_hang_42 R Y o x1 x2 x3 x6 x6 h))))
def w_Md_hang_23 (R : tpH → Prop) (K56 : Nat → Int32 → Int32 → Int32 → Int32 → tpH → Prop) : Nat → Nat → Int32 → Int32 → Int32 → Int32 → Int32 → tpH → Prop
  | 0 => fun _ _ _ _ _ _ _ => False
  | n + 1 => b_Md_hang_23 R K56 (w_Md_hang_23 R K56 n)
def w_Md_hang_56 (R : tpH → Prop) (o : Nat) (x1 : Int32) (x2 : Int32) (x3 : Int32) (x5 : Int32) (h : tpH) : Prop :=
  hT h o = 14 ∧ (∃ a2, (hR h o 6) = some a2 ∧ hT h a2 = 15 ∧ (vp_in (((300 : Int32) * x1) + x2) (hL h a2) ∧ (∀ h6, h6 = sI h a2 (((300 : Int32) * x1) + x2).toNatClampNeg x3 → ((¬ x5 = (-1 : Int32) → (w_Md_nextIn o x1 x5 h6 (fun v10 h9 => ∃ a11, (hR h6 o 9) = some a11 ∧ hT h9 a11 = 15 ∧ (vp_in (((300 : Int32) * x1) + x2) (hL h9 a11) ∧ (∀ h15, h15 = sI h9 a11 (((300 : Int32) * x1) + x2).toNatClampNeg v10 → (hT h15 o = 14 ∧ (∃ a18, (hR h15 o 9) = some a18 ∧ hT h15 a18 = 15 ∧ (vp_in (((300 : Int32) * x1) + x5) (hL h15 a18) ∧ (∀ h22, h22 = sI h15 a18 (((300 : Int32) * x1) + x5).toNatClampNeg x2 → (R h22)))))))))) ∧ (x5 = (-1 : Int32) → (w_Md_firstIn o x1 x3 h6 (fun v25 h24 => ∃ a26, (hR h6 o 9) = some a26 ∧ hT h24 a26 = 15 ∧ (vp_in (((300 : Int32) * x1) + x2) (hL h24 a26) ∧ (∀ h30, h30 = sI h24 a26 (((300 : Int32) * x1) + x2).toNatClampNeg v25 → (hT h30 o = 14 ∧ (∃ a33, (hR h30 o 8) = some a33 ∧ hT h30 a33 = 15 ∧ (vp_in (((300 : Int32) * x1) + x3) (hL h30 a33) ∧ (∀ h37, h37 = sI h30 a33 (((300 : Int32) * x1) + x3).toNatClampNeg x2 → (R h37))))))))))))))
def w_Md_hang (o : Nat) (x1 : Int32) (x2 : Int32) (x3 : Int32) (x4 : Int32) (h : tpH) (R : tpH → Prop) : Prop :=
  hT h o = 14 ∧ (w_Md_isOrdered o x3 h (fun v3 h2 => (¬ v3 = 0 → (w_Md_hang_56 R o x1 x2 x3 x4 h2)) ∧ (v3 = 0 → (hT h2 o = 14 ∧ (w_Md_firstIn o x1 x3 h2 (fun v7 h6 => ∃ n, w_Md_hang_23 R (w_Md_hang_56 R) n o x1 x2 x3 (-1 : Int32) v7 h6))))))
theorem s_Md_hang_42 {h0 : tpH} {av : List tpV} {R : tpH → Prop} {K23 : Nat → Int32 → Int32 → Int32 → Int32 → Int32 → tpH → Prop} (k23 : ∀ (o : Nat) (x1 : Int32) (x2 : Int32) (x3 : Int32) (x5 : Int32) (x6 : Int32) (h : tpH), K23 o x1 x2 x3 x5 x6 h → tpR Md_hang 1 h0 av (tpOv R (fun _ _ => False)) 23 [some (vR (some o)), some (vI x1), some (vI x2), some (vI x3), none, some (vI x5), some (vI x6)] [] h) : ∀ (o : Nat) (x1 : Int32) (x2 : Int32) (x3 : Int32) (x6 : Int32) (t0 : Int32) (h : tpH), w_Md_hang_42 R K23 o x1 x2 x3 x6 t0 h → tpR Md_hang 1 h0 av (tpOv R (fun _ _ => False)) 42 [some (vR (some o)), some (vI x1), some (vI x2), some (vI x3), none, none, some (vI x6)] [vI t0] h := by
  intro o x1 x2 x3 x6 t0 h hw
  unfold w_Md_hang_42 at hw
  refine tq_istore (ls' := [some (vR (some o)), some (vI x1), some (vI x2), some (vI x3), none, some (vI t0), some (vI x6)]) dMd_hang_42 (Nat.le_of_ble_eq_true rfl) rfl ?_
  refine tq_aload_n dMd_hang_44 rfl rfl ?_
  refine tq_iload_n dMd_hang_45 rfl rfl ?_
  refine tq_iload dMd_hang_46 rfl ?_
  obtain ⟨f1, hw⟩ := hw
  refine te_callV mv_Md_nextIn (ci := 13) (dc := 0) (as := [vI x1, vI x6]) (rest := []) kMd_169 rfl (Nat.le_of_ble_eq_true rfl) (Nat.le_of_ble_eq_true rfl) rfl rfl rfl f1 (Nat.le_of_ble_eq_true rfl) dMd_hang_48 (s_Md_nextIn hw) (fun _ _ hx => False.elim hx) (tk_i fun v3 h2 hw => ?_)
  refine tq_istore (ls' := [some (vR (some o)), some (vI x1), some (vI x2), some (vI x3), none, some (vI t0), some (vI v3)]) dMd_hang_51 (Nat.le_of_ble_eq_true rfl) rfl ?_
  refine tq_goto (tgt := 23) dMd_hang_53 (by decide) ?_
  refine tpR.fo (ls' := [some (vR (some o)), some (vI x1), some (vI x2), some (vI x3), none, some (vI t0), some (vI v3)]) ?_ (And.intro rfl (And.intro rfl (And.intro rfl (And.intro rfl (And.intro rfl (And.intro rfl trivial))))))
  exact k23 _ _ _ _ _ _ _ hw
theorem s_Md_hang_23 {h0 : tpH} {av : List tpV} {R : tpH → Prop} {K56 : Nat → Int32 → Int32 → Int32 → Int32 → tpH → Prop} (k56 : ∀ (o : Nat) (x1 : Int32) (x2 : Int32) (x3 : Int32) (x5 : Int32) (h : tpH), K56 o x1 x2 x3 x5 h → tpR Md_hang 1 h0 av (tpOv R (fun _ _ => False)) 56 [some (vR (some o)), some (vI x1), some (vI x2), some (vI x3), none, some (vI x5), none] [] h) : ∀ (n : Nat) (o : Nat) (x1 : Int32) (x2 : Int32) (x3 : Int32) (x5 : Int32) (x6 : Int32) (h : tpH), w_Md_hang_23 R K56 n o x1 x2 x3 x5 x6 h → tpR Md_hang 1 h0 av (tpOv R (fun _ _ => False)) 23 [some (vR (some o)), some (vI x1), some (vI x2), some (vI x3), none, some (vI x5), some (vI x6)] [] h := by
  intro n
  induction n with
  | zero => intro o x1 x2 x3 x5 x6 h hw; exact False.elim hw
  | succ n ih =>
    intro o x1 x2 x3 x5 x6 h hw
    change b_Md_hang_23 R K56 (w_Md_hang_23 R K56 n) o x1 x2 x3 x5 x6 h at hw
    unfold b_Md_hang_23 at hw
    refine tq_iload dMd_hang_23 rfl ?_
    refine tq_iconst (v := (-1 : Int32)) dMd_hang_25 tni_m1 ?_
    refine tq_icmpeq (tgt := 56) dMd_hang_26 (by decide) (fun c1 => ?_) (fun c1 => ?_)
    · have hw := hw.1 c1
      refine tpR.fo (ls' := [some (vR (some o)), some (vI x1), some (vI x2), some (vI x3), none, some (vI x5), none]) ?_ (And.intro rfl (And.intro rfl (And.intro rfl (And.intro rfl (And.intro rfl trivial)))))
      exact k56 _ _ _ _ _ _ hw
    · have hw := hw.2 c1
      refine tq_iload dMd_hang_29 rfl ?_
      refine tq_iload_n dMd_hang_31 rfl rfl ?_
      refine tq_icmpge (tgt := 40) dMd_hang_32 (by decide) (fun c2 => ?_) (fun c2 => ?_)
      · have hw := hw.1 c2
        refine tq_iload dMd_hang_40 rfl ?_
        refine tpR.fo (ls' := [some (vR (some o)), some (vI x1), some (vI x2), some (vI x3), none, none, some (vI x6)]) ?_ (And.intro rfl (And.intro rfl (And.intro rfl (And.intro rfl (And.intro rfl trivial)))))
        exact s_Md_hang_42 ih _ _ _ _ _ _ _ hw
      · have hw := hw.2 c2
        refine tq_iload dMd_hang_35 rfl ?_
        refine tq_goto (tgt := 42) dMd_hang_37 (by decide) ?_
        refine tpR.fo (ls' := [some (vR (some o)), some (vI x1), some (vI x2), some (vI x3), none, none, some (vI x6)]) ?_ (And.intro rfl (And.intro rfl (And.intro rfl (And.intro rfl (And.intro rfl trivial)))))
        exact s_Md_hang_42 ih _ _ _ _ _ _ _ hw
theorem s_Md_hang_56 {h0 : tpH} {av : List tpV} {R : tpH → Prop} : ∀ (o : Nat) (x1 : Int32) (x2 : Int32) (x3 : Int32) (x5 : Int32) (h : tpH), w_Md_hang_56 R o x1 x2 x3 x5 h → tpR Md_hang 1 h0 av (tpOv R (fun _ _ => False)) 56 [some (vR (some o)), some (vI x1), some (vI x2), some (vI x3), none, some (vI x5), none] [] h := by
  intro o x1 x2 x3 x5 h hw
  unfold w_Md_hang_56 at hw
  refine tq_aload_n dMd_hang_56 rfl rfl ?_
  obtain ⟨f1, hw⟩ := hw
  refine te_getr dMd_hang_57 fMd_19 rfl rfl f1 ?_
  refine tq_sipush (v := (300 : Int32)) dMd_hang_60 tns_300 ?_
  refine tq_iload_n dMd_hang_63 rfl rfl ?_
  refine tq_imul dMd_hang_64 ?_
  refine tq_iload_n dMd_hang_65 rfl rfl ?_
  refine tq_iadd dMd_hang_66 ?_
  refine tq_iload_n dMd_hang_67 rfl rfl ?_
  obtain ⟨a2, e3, f4, hw⟩ := hw
  obtain ⟨f5, hw⟩ := hw
  refine te_iast dMd_hang_68 e3 f4 f5 (fun h6 e7 => ?_)
  have hw := hw h6 e7
  refine tq_iload dMd_hang_69 rfl ?_
  refine tq_iconst (v := (-1 : Int32)) dMd_hang_71 tni_m1 ?_
  refine tq_icmpne (tgt := 109) dMd_hang_72 (by decide) (fun c8 => ?_) (fun c8 => ?_)
  · have hw := hw.1 c8
    refine tq_aload_n dMd_hang_109 rfl rfl ?_
    refine te_getr dMd_hang_110 fMd_28 rfl rfl (by rw [e7]; exact f1) ?_
    refine tq_sipush (v := (300 : Int32)) dMd_hang_113 tns_300 ?_
    refine tq_iload_n dMd_hang_116 rfl rfl ?_
    refine tq_imul dMd_hang_117 ?_
    refine tq_iload_n dMd_hang_118 rfl rfl ?_
    refine tq_iadd dMd_hang_119 ?_
    refine tq_aload_n dMd_hang_120 rfl rfl ?_
    refine tq_iload_n dMd_hang_121 rfl rfl ?_
    refine tq_iload dMd_hang_122 rfl ?_
    refine te_callV mv_Md_nextIn (ci := 13) (dc := 0) (as := [vI x1, vI x5]) (rest := [vI (((300 : Int32) * x1) + x2), vR (hR h6 o 9)]) kMd_169 rfl (Nat.le_of_ble_eq_true rfl) (Nat.le_of_ble_eq_true rfl) rfl rfl rfl (by rw [e7]; exact f1) (Nat.le_of_ble_eq_true rfl) dMd_hang_124 (s_Md_nextIn hw) (fun _ _ hx => False.elim hx) (tk_i fun v10 h9 hw => ?_)
    obtain ⟨a11, e12, f13, hw⟩ := hw
    obtain ⟨f14, hw⟩ := hw
    refine te_iast dMd_hang_127 e12 f13 f14 (fun h15 e16 => ?_)
    have hw := hw h15 e16
    refine tq_aload_n dMd_hang_128 rfl rfl ?_
    obtain ⟨f17, hw⟩ := hw
    refine te_getr dMd_hang_129 fMd_28 rfl rfl f17 ?_
    refine tq_sipush (v := (300 : Int32)) dMd_hang_132 tns_300 ?_
    refine tq_iload_n dMd_hang_135 rfl rfl ?_
    refine tq_imul dMd_hang_136 ?_
    refine tq_iload dMd_hang_137 rfl ?_
    refine tq_iadd dMd_hang_139 ?_
    refine tq_iload_n dMd_hang_140 rfl rfl ?_
    obtain ⟨a18, e19, f20, hw⟩ := hw
    obtain ⟨f21, hw⟩ := hw
    refine te_iast dMd_hang_141 e19 f20 f21 (fun h22 e23 => ?_)
    have hw := hw h22 e23
    exact tq_vret rfl dMd_hang_142 hw
  · have hw := hw.2 c8
    refine tq_aload_n dMd_hang_75 rfl rfl ?_
    refine te_getr dMd_hang_76 fMd_28 rfl rfl (by rw [e7]; exact f1) ?_
    refine tq_sipush (v := (300 : Int32)) dMd_hang_79 tns_300 ?_
    refine tq_iload_n dMd_hang_82 rfl rfl ?_
    refine tq_imul dMd_hang_83 ?_
    refine tq_iload_n dMd_hang_84 rfl rfl ?_
    refine tq_iadd dMd_hang_85 ?_
    refine tq_aload_n dMd_hang_86 rfl rfl ?_
    refine tq_iload_n dMd_hang_87 rfl rfl ?_
    refine tq_iload_n dMd_hang_88 rfl rfl ?_
    refine te_callV mv_Md_firstIn (ci := 13) (dc := 0) (as := [vI x1, vI x3]) (rest := [vI (((300 : Int32) * x1) + x2), vR (hR h6 o 9)]) kMd_173 rfl (Nat.le_of_ble_eq_true rfl) (Nat.le_of_ble_eq_true rfl) rfl rfl rfl (by rw [e7]; exact f1) (Nat.le_of_ble_eq_true rfl) dMd_hang_89 (s_Md_firstIn hw) (fun _ _ hx => False.elim hx) (tk_i fun v25 h24 hw => ?_)
    obtain ⟨a26, e27, f28, hw⟩ := hw
    obtain ⟨f29, hw⟩ := hw
    refine te_iast dMd_hang_92 e27 f28 f29 (fun h30 e31 => ?_)
    have hw := hw h30 e31
    refine tq_aload_n dMd_hang_93 rfl rfl ?_
    obtain ⟨f32, hw⟩ := hw
    refine te_getr dMd_hang_94 fMd_25 rfl rfl f32 ?_
    refine tq_sipush (v := (300 : Int32)) dMd_hang_97 tns_300 ?_
    refine tq_iload_n dMd_hang_100 rfl rfl ?_
    refine tq_imul dMd_hang_101 ?_
    refine tq_iload_n dMd_hang_102 rfl rfl ?_
    refine tq_iadd dMd_hang_103 ?_
    refine tq_iload_n dMd_hang_104 rfl rfl ?_
    obtain ⟨a33, e34, f35, hw⟩ := hw
    obtain ⟨f36, hw⟩ := hw
    refine te_iast dMd_hang_105 e34 f35 f36 (fun h37 e38 => ?_)
    have hw := hw h37 e38
    refine tq_goto (tgt := 142) dMd_hang_106 (by decide) ?_
    exact tq_vret rfl dMd_hang_142 hw
theorem s_Md_hang {o : Nat} {x1 : Int32} {x2 : Int32} {x3 : Int32} {x4 : Int32} {h : tpH} {R : tpH → Prop} (hw : w_Md_hang o x1 x2 x3 x4 h R) : tpC Md_hang 1 [vR (some o), vI x1, vI x2, vI x3, vI x4] h (tpOv R (fun _ _ => False)) := by
  refine tpC_of mv_Md_hang.2.2.2.1 rfl rfl (Nat.le_of_ble_eq_true rfl) ?_
  show tpR Md_hang 1 h _ _ 0 [some (vR (some o)), some (vI x1), some (vI x2), some (vI x3), some (vI x4), none, none] [] h
  unfold w_Md_hang at hw
  refine tq_iload dMd_hang_0 rfl ?_
  refine tq_istore (ls' := [some (vR (some o)), some (vI x1), some (vI x2), some (vI x3), some (vI x4), some (vI x4), none]) dMd_hang_2 (Nat.le_of_ble_eq_true rfl) rfl ?_
  refine tq_aload_n dMd_hang_4 rfl rfl ?_
  refine tq_iload_n dMd_hang_5 rfl rfl ?_
  obtain ⟨f1, hw⟩ := hw
  refine te_callV mv_Md_isOrdered (ci := 13) (dc := 0) (as := [vI x3]) (rest := []) kMd_176 rfl (Nat.le_of_ble_eq_true rfl) (Nat.le_of_ble_eq_true rfl) rfl rfl rfl f1 (Nat.le_of_ble_eq_true rfl) dMd_hang_6 (s_Md_isOrdered hw) (fun _ _ hx => False.elim hx) (tk_i fun v3 h2 hw => ?_)
  refine tq_ifne (tgt := 56) dMd_hang_9 (by decide) (fun c4 => ?_) (fun c4 => ?_)
  · have hw := hw.1 c4
    refine tpR.fo (ls' := [some (vR (some o)), some (vI x1), some (vI x2), some (vI x3), none, some (vI x4), none]) ?_ (And.intro rfl (And.intro rfl (And.intro rfl (And.intro rfl (And.intro rfl trivial)))))
    exact s_Md_hang_56 _ _ _ _ _ _ hw
  · have hw := hw.2 c4
    refine tq_iconst (v := (-1 : Int32)) dMd_hang_12 tni_m1 ?_
    refine tq_istore (ls' := [some (vR (some o)), some (vI x1), some (vI x2), some (vI x3), some (vI x4), some (vI (-1 : Int32)), none]) dMd_hang_13 (Nat.le_of_ble_eq_true rfl) rfl ?_
    refine tq_aload_n dMd_hang_15 rfl rfl ?_
    refine tq_iload_n dMd_hang_16 rfl rfl ?_
    refine tq_iload_n dMd_hang_17 rfl rfl ?_
    obtain ⟨f5, hw⟩ := hw
    refine te_callV mv_Md_firstIn (ci := 13) (dc := 0) (as := [vI x1, vI x3]) (rest := []) kMd_173 rfl (Nat.le_of_ble_eq_true rfl) (Nat.le_of_ble_eq_true rfl) rfl rfl rfl f5 (Nat.le_of_ble_eq_true rfl) dMd_hang_18 (s_Md_firstIn hw) (fun _ _ hx => False.elim hx) (tk_i fun v7 h6 hw => ?_)
    refine tq_istore (ls' := [some (vR (some o)), some (vI x1), some (vI x2), some (vI x3), some (vI x4), some (vI (-1 : Int32)), some (vI v7)]) dMd_hang_21 (Nat.le_of_ble_eq_true rfl) rfl ?_
    refine tpR.fo (ls' := [some (vR (some o)), some (vI x1), some (vI x2), some (vI x3), none, some (vI (-1 : Int32)), some (vI v7)]) ?_ (And.intro rfl (And.intro rfl (And.intro rfl (And.intro rfl (And.intro rfl (And.intro rfl trivial))))))
    obtain ⟨n, hw⟩ := hw
    exact s_Md_hang_23 (s_Md_hang_56) n _ _ _ _ _ _ _ hw
/-! TModel.unhang -/
theorem dMd_unhang_0 : decode (mB Md_unhang) 0 = .ok (.aload_n 0, 1) := by decide +kernel
theorem dMd_unhang_1 : decode (mB Md_unhang) 1 = .ok (.iload_n 1, 1) := by decide +kernel
theorem dMd_unhang_2 : decode (mB Md_unhang) 2 = .ok (.iload_n 2, 1) := by decide +kernel
theorem dMd_unhang_3 : decode (mB Md_unhang) 3 = .ok (.invokevirtual 179, 3) := by decide +kernel
theorem dMd_unhang_6 : decode (mB Md_unhang) 6 = .ok (.istore_n 3, 1) := by decide +kernel
theorem dMd_unhang_7 : decode (mB Md_unhang) 7 = .ok (.aload_n 0, 1) := by decide +kernel
theorem dMd_unhang_8 : decode (mB Md_unhang) 8 = .ok (.iload_n 1, 1) := by decide +kernel
theorem dMd_unhang_9 : decode (mB Md_unhang) 9 = .ok (.iload_n 3, 1) := by decide +kernel
theorem dMd_unhang_10 : decode (mB Md_unhang) 10 = .ok (.iload_n 2, 1) := by decide +kernel
theorem dMd_unhang_11 : decode (mB Md_unhang) 11 = .ok (.iconst 1, 1) := by decide +kernel
theorem dMd_unhang_12 : decode (mB Md_unhang) 12 = .ok (.invokevirtual 182, 3) := by decide +kernel
theorem dMd_unhang_15 : decode (mB Md_unhang) 15 = .ok (.istore 4, 2) := by decide +kernel
theorem dMd_unhang_17 : decode (mB Md_unhang) 17 = .ok (.iload 4, 2) := by decide +kernel
theorem dMd_unhang_19 : decode (mB Md_unhang) 19 = .ok (.iconst (-1), 1) := by decide +kernel
theorem dMd_unhang_20 : decode (mB Md_unhang) 20 = .ok (.if_icmp .ne 24, 3) := by decide +kernel
theorem dMd_unhang_23 : decode (mB Md_unhang) 23 = .ok (.aload_n 0, 1) := by decide +kernel
theorem dMd_unhang_24 : decode (mB Md_unhang) 24 = .ok (.getfield 25, 3) := by decide +kernel
theorem dMd_unhang_27 : decode (mB Md_unhang) 27 = .ok (.sipush 300, 3) := by decide +kernel
theorem dMd_unhang_30 : decode (mB Md_unhang) 30 = .ok (.iload_n 1, 1) := by decide +kernel
theorem dMd_unhang_31 : decode (mB Md_unhang) 31 = .ok (.imul, 1) := by decide +kernel
theorem dMd_unhang_32 : decode (mB Md_unhang) 32 = .ok (.iload_n 3, 1) := by decide +kernel
theorem dMd_unhang_33 : decode (mB Md_unhang) 33 = .ok (.iadd, 1) := by decide +kernel
theorem dMd_unhang_34 : decode (mB Md_unhang) 34 = .ok (.aload_n 0, 1) := by decide +kernel
theorem dMd_unhang_35 : decode (mB Md_unhang) 35 = .ok (.iload_n 1, 1) := by decide +kernel
theorem dMd_unhang_36 : decode (mB Md_unhang) 36 = .ok (.iload_n 2, 1) := by decide +kernel
theorem dMd_unhang_37 : decode (mB Md_unhang) 37 = .ok (.invokevirtual 169, 3) := by decide +kernel
theorem dMd_unhang_40 : decode (mB Md_unhang) 40 = .ok (.iastore, 1) := by decide +kernel
theorem dMd_unhang_41 : decode (mB Md_unhang) 41 = .ok (.goto 22, 3) := by decide +kernel
theorem dMd_unhang_44 : decode (mB Md_unhang) 44 = .ok (.aload_n 0, 1) := by decide +kernel
theorem dMd_unhang_45 : decode (mB Md_unhang) 45 = .ok (.getfield 28, 3) := by decide +kernel
theorem dMd_unhang_48 : decode (mB Md_unhang) 48 = .ok (.sipush 300, 3) := by decide +kernel
theorem dMd_unhang_51 : decode (mB Md_unhang) 51 = .ok (.iload_n 1, 1) := by decide +kernel
theorem dMd_unhang_52 : decode (mB Md_unhang) 52 = .ok (.imul, 1) := by decide +kernel
theorem dMd_unhang_53 : decode (mB Md_unhang) 53 = .ok (.iload 4, 2) := by decide +kernel
theorem dMd_unhang_55 : decode (mB Md_unhang) 55 = .ok (.iadd, 1) := by decide +kernel
theorem dMd_unhang_56 : decode (mB Md_unhang) 56 = .ok (.aload_n 0, 1) := by decide +kernel
theorem dMd_unhang_57 : decode (mB Md_unhang) 57 = .ok (.iload_n 1, 1) := by decide +kernel
theorem dMd_unhang_58 : decode (mB Md_unhang) 58 = .ok (.iload_n 2, 1) := by decide +kernel
theorem dMd_unhang_59 : decode (mB Md_unhang) 59 = .ok (.invokevirtual 169, 3) := by decide +kernel
theorem dMd_unhang_62 : decode (mB Md_unhang) 62 = .ok (.iastore, 1) := by decide +kernel
theorem dMd_unhang_63 : decode (mB Md_unhang) 63 = .ok (.aload_n 0, 1) := by decide +kernel
theorem dMd_unhang_64 : decode (mB Md_unhang) 64 = .ok (.getfield 28, 3) := by decide +kernel
theorem dMd_unhang_67 : decode (mB Md_unhang) 67 = .ok (.sipush 300, 3) := by decide +kernel
theorem dMd_unhang_70 : decode (mB Md_unhang) 70 = .ok (.iload_n 1, 1) := by decide +kernel
theorem dMd_unhang_71 : decode (mB Md_unhang) 71 = .ok (.imul, 1) := by decide +kernel
theorem dMd_unhang_72 : decode (mB Md_unhang) 72 = .ok (.iload_n 2, 1) := by decide +kernel
theorem dMd_unhang_73 : decode (mB Md_unhang) 73 = .ok (.iadd, 1) := by decide +kernel
theorem dMd_unhang_74 : decode (mB Md_unhang) 74 = .ok (.iconst (-1), 1) := by decide +kernel
theorem dMd_unhang_75 : decode (mB Md_unhang) 75 = .ok (.iastore, 1) := by decide +kernel
theorem dMd_unhang_76 : decode (mB Md_unhang) 76 = .ok (.return_, 1) := by decide +kernel
def w_Md_unhang_63 (R : tpH → Prop) (o : Nat) (x1 : Int32) (x2 : Int32) (h : tpH) : Prop :=
  hT h o = 14 ∧ (∃ a2, (hR h o 9) = some a2 ∧ hT h a2 = 15 ∧ (vp_in (((300 : Int32) * x1) + x2) (hL h a2) ∧ (∀ h6, h6 = sI h a2 (((300 : Int32) * x1) + x2).toNatClampNeg (-1 : Int32) → (R h6))))
def w_Md_unhang (o : Nat) (x1 : Int32) (x2 : Int32) (h : tpH) (R : tpH → Prop) : Prop :=
  hT h o = 14 ∧ (w_Md_parentIn o x1 x2 h (fun v3 h2 => hT h2 o = 14 ∧ (w_Md_sibling o x1 v3 x2 (1 : Int32) h2 (fun v6 h5 => (¬ v6 = (-1 : Int32) → (hT h5 o = 14 ∧ (w_Md_nextIn o x1 x2 h5 (fun v10 h9 => ∃ a11, (hR h5 o 9) = some a11 ∧ hT h9 a11 = 15 ∧ (vp_in (((300 : Int32) * x1) + v6) (hL h9 a11) ∧ (∀ h15, h15 = sI h9 a11 (((300 : Int32) * x1) + v6).toNatClampNeg v10 → (w_Md_unhang_63 R o x1 x2 h15))))))) ∧ (v6 = (-1 : Int32) → (hT h5 o = 14 ∧ (w_Md_nextIn o x1 x2 h5 (fun v19 h18 => ∃ a20, (hR h5 o 8) = some a20 ∧ hT h18 a20 = 15 ∧ (vp_in (((300 : Int32) * x1) + v3) (hL h18 a20) ∧ (∀ h24, h24 = sI h18 a20 (((300 : Int32) * x1) + v3).toNatClampNeg v19 → (w_Md_unhang_63 R o x1 x2 h24)))))))))))
theorem s_Md_unhang_63 {h0 : tpH} {av : List tpV} {R : tpH → Prop} : ∀ (o : Nat) (x1 : Int32) (x2 : Int32) (h : tpH), w_Md_unhang_63 R o x1 x2 h → tpR Md_unhang 2 h0 av (tpOv R (fun _ _ => False)) 63 [some (vR (some o)), some (vI x1), some (vI x2), none, none] [] h := by
  intro o x1 x2 h hw
  unfold w_Md_unhang_63 at hw
  refine tq_aload_n dMd_unhang_63 rfl rfl ?_
  obtain ⟨f1, hw⟩ := hw
  refine te_getr dMd_unhang_64 fMd_28 rfl rfl f1 ?_
  refine tq_sipush (v := (300 : Int32)) dMd_unhang_67 tns_300 ?_
  refine tq_iload_n dMd_unhang_70 rfl rfl ?_
  refine tq_imul dMd_unhang_71 ?_
  refine tq_iload_n dMd_unhang_72 rfl rfl ?_
  refine tq_iadd dMd_unhang_73 ?_
  refine tq_iconst (v := (-1 : Int32)) dMd_unhang_74 tni_m1 ?_
  obtain ⟨a2, e3, f4, hw⟩ := hw
  obtain ⟨f5, hw⟩ := hw
  refine te_iast dMd_unhang_75 e3 f4 f5 (fun h6 e7 => ?_)
  have hw := hw h6 e7
  exact tq_vret rfl dMd_unhang_76 hw
theorem s_Md_unhang {o : Nat} {x1 : Int32} {x2 : Int32} {h : tpH} {R : tpH → Prop} (hw : w_Md_unhang o x1 x2 h R) : tpC Md_unhang 2 [vR (some o), vI x1, vI x2] h (tpOv R (fun _ _ => False)) := by
  refine tpC_of mv_Md_unhang.2.2.2.1 rfl rfl (Nat.le_of_ble_eq_true rfl) ?_
  show tpR Md_unhang 2 h _ _ 0 [some (vR (some o)), some (vI x1), some (vI x2), none, none] [] h
  unfold w_Md_unhang at hw
  refine tq_aload_n dMd_unhang_0 rfl rfl ?_
  refine tq_iload_n dMd_unhang_1 rfl rfl ?_
  refine tq_iload_n dMd_unhang_2 rfl rfl ?_
  obtain ⟨f1, hw⟩ := hw
  refine te_callV mv_Md_parentIn (ci := 13) (dc := 0) (as := [vI x1, vI x2]) (rest := []) kMd_179 rfl (Nat.le_of_ble_eq_true rfl) (Nat.le_of_ble_eq_true rfl) rfl rfl rfl f1 (Nat.le_of_ble_eq_true rfl) dMd_unhang_3 (s_Md_parentIn hw) (fun _ _ hx => False.elim hx) (tk_i fun v3 h2 hw => ?_)
  refine tq_istore_n (ls' := [some (vR (some o)), some (vI x1), some (vI x2), some (vI v3), none]) dMd_unhang_6 rfl (Nat.le_of_ble_eq_true rfl) rfl ?_
  refine tq_aload_n dMd_unhang_7 rfl rfl ?_
  refine tq_iload_n dMd_unhang_8 rfl rfl ?_
  refine tq_iload_n dMd_unhang_9 rfl rfl ?_
  refine tq_iload_n dMd_unhang_10 rfl rfl ?_
  refine tq_iconst (v := (1 : Int32)) dMd_unhang_11 tni_1 ?_
  obtain ⟨f4, hw⟩ := hw
  refine te_callV mv_Md_sibling (ci := 13) (dc := 1) (as := [vI x1, vI v3, vI x2, vI (1 : Int32)]) (rest := []) kMd_182 rfl (Nat.le_of_ble_eq_true rfl) (Nat.le_of_ble_eq_true rfl) rfl rfl rfl f4 (Nat.le_of_ble_eq_true rfl) dMd_unhang_12 (s_Md_sibling hw) (fun _ _ hx => False.elim hx) (tk_i fun v6 h5 hw => ?_)
  refine tq_istore (ls' := [some (vR (some o)), some (vI x1), some (vI x2), some (vI v3), some (vI v6)]) dMd_unhang_15 (Nat.le_of_ble_eq_true rfl) rfl ?_
  refine tq_iload dMd_unhang_17 rfl ?_
  refine tq_iconst (v := (-1 : Int32)) dMd_unhang_19 tni_m1 ?_
  refine tq_icmpne (tgt := 44) dMd_unhang_20 (by decide) (fun c7 => ?_) (fun c7 => ?_)
  · have hw := hw.1 c7
    refine tq_aload_n dMd_unhang_44 rfl rfl ?_
    obtain ⟨f8, hw⟩ := hw
    refine te_getr dMd_unhang_45 fMd_28 rfl rfl f8 ?_
    refine tq_sipush (v := (300 : Int32)) dMd_unhang_48 tns_300 ?_
    refine tq_iload_n dMd_unhang_51 rfl rfl ?_
    refine tq_imul dMd_unhang_52 ?_
    refine tq_iload dMd_unhang_53 rfl ?_
    refine tq_iadd dMd_unhang_55 ?_
    refine tq_aload_n dMd_unhang_56 rfl rfl ?_
    refine tq_iload_n dMd_unhang_57 rfl rfl ?_
    refine tq_iload_n dMd_unhang_58 rfl rfl ?_
    refine te_callV mv_Md_nextIn (ci := 13) (dc := 0) (as := [vI x1, vI x2]) (rest := [vI (((300 : Int32) * x1) + v6), vR (hR h5 o 9)]) kMd_169 rfl (Nat.le_of_ble_eq_true rfl) (Nat.le_of_ble_eq_true rfl) rfl rfl rfl f8 (Nat.le_of_ble_eq_true rfl) dMd_unhang_59 (s_Md_nextIn hw) (fun _ _ hx => False.elim hx) (tk_i fun v10 h9 hw => ?_)
    obtain ⟨a11, e12, f13, hw⟩ := hw
    obtain ⟨f14, hw⟩ := hw
    refine te_iast dMd_unhang_62 e12 f13 f14 (fun h15 e16 => ?_)
    have hw := hw h15 e16
    refine tpR.fo (ls' := [some (vR (some o)), some (vI x1), some (vI x2), none, none]) ?_ (And.intro rfl (And.intro rfl (And.intro rfl trivial)))
    exact s_Md_unhang_63 _ _ _ _ hw
  · have hw := hw.2 c7
    refine tq_aload_n dMd_unhang_23 rfl rfl ?_
    obtain ⟨f17, hw⟩ := hw
    refine te_getr dMd_unhang_24 fMd_25 rfl rfl f17 ?_
    refine tq_sipush (v := (300 : Int32)) dMd_unhang_27 tns_300 ?_
    refine tq_iload_n dMd_unhang_30 rfl rfl ?_
    refine tq_imul dMd_unhang_31 ?_
    refine tq_iload_n dMd_unhang_32 rfl rfl ?_
    refine tq_iadd dMd_unhang_33 ?_
    refine tq_aload_n dMd_unhang_34 rfl rfl ?_
    refine tq_iload_n dMd_unhang_35 rfl rfl ?_
    refine tq_iload_n dMd_unhang_36 rfl rfl ?_
    refine te_callV mv_Md_nextIn (ci := 13) (dc := 0) (as := [vI x1, vI x2]) (rest := [vI (((300 : Int32) * x1) + v3), vR (hR h5 o 8)]) kMd_169 rfl (Nat.le_of_ble_eq_true rfl) (Nat.le_of_ble_eq_true rfl) rfl rfl rfl f17 (Nat.le_of_ble_eq_true rfl) dMd_unhang_37 (s_Md_nextIn hw) (fun _ _ hx => False.elim hx) (tk_i fun v19 h18 hw => ?_)
    obtain ⟨a20, e21, f22, hw⟩ := hw
    obtain ⟨f23, hw⟩ := hw
    refine te_iast dMd_unhang_40 e21 f22 f23 (fun h24 e25 => ?_)
    have hw := hw h24 e25
    refine tq_goto (tgt := 63) dMd_unhang_41 (by decide) ?_
    refine tpR.fo (ls' := [some (vR (some o)), some (vI x1), some (vI x2), none, none]) ?_ (And.intro rfl (And.intro rfl (And.intro rfl trivial)))
    exact s_Md_unhang_63 _ _ _ _ hw
/-! TModel.isWithin -/
theorem dMd_isWithin_0 : decode (mB Md_isWithin) 0 = .ok (.iload_n 2, 1) := by decide +kernel
theorem dMd_isWithin_1 : decode (mB Md_isWithin) 1 = .ok (.istore 4, 2) := by decide +kernel
theorem dMd_isWithin_3 : decode (mB Md_isWithin) 3 = .ok (.iload 4, 2) := by decide +kernel
theorem dMd_isWithin_5 : decode (mB Md_isWithin) 5 = .ok (.iload_n 3, 1) := by decide +kernel
theorem dMd_isWithin_6 : decode (mB Md_isWithin) 6 = .ok (.if_icmp .eq 21, 3) := by decide +kernel
theorem dMd_isWithin_9 : decode (mB Md_isWithin) 9 = .ok (.iload 4, 2) := by decide +kernel
theorem dMd_isWithin_11 : decode (mB Md_isWithin) 11 = .ok (.iconst (-1), 1) := by decide +kernel
theorem dMd_isWithin_12 : decode (mB Md_isWithin) 12 = .ok (.if_icmp .eq 15, 3) := by decide +kernel
theorem dMd_isWithin_15 : decode (mB Md_isWithin) 15 = .ok (.aload_n 0, 1) := by decide +kernel
theorem dMd_isWithin_16 : decode (mB Md_isWithin) 16 = .ok (.iload_n 1, 1) := by decide +kernel
theorem dMd_isWithin_17 : decode (mB Md_isWithin) 17 = .ok (.iload 4, 2) := by decide +kernel
theorem dMd_isWithin_19 : decode (mB Md_isWithin) 19 = .ok (.invokevirtual 179, 3) := by decide +kernel
theorem dMd_isWithin_22 : decode (mB Md_isWithin) 22 = .ok (.istore 4, 2) := by decide +kernel
theorem dMd_isWithin_24 : decode (mB Md_isWithin) 24 = .ok (.goto (-21), 3) := by decide +kernel
theorem dMd_isWithin_27 : decode (mB Md_isWithin) 27 = .ok (.iload 4, 2) := by decide +kernel
theorem dMd_isWithin_29 : decode (mB Md_isWithin) 29 = .ok (.iload_n 3, 1) := by decide +kernel
theorem dMd_isWithin_30 : decode (mB Md_isWithin) 30 = .ok (.if_icmp .ne 7, 3) := by decide +kernel
theorem dMd_isWithin_33 : decode (mB Md_isWithin) 33 = .ok (.iconst 1, 1) := by decide +kernel
theorem dMd_isWithin_34 : decode (mB Md_isWithin) 34 = .ok (.goto 4, 3) := by decide +kernel
theorem dMd_isWithin_37 : decode (mB Md_isWithin) 37 = .ok (.iconst 0, 1) := by decide +kernel
theorem dMd_isWithin_38 : decode (mB Md_isWithin) 38 = .ok (.ireturn, 1) := by decide +kernel
def w_Md_isWithin_27 (R : Int32 → tpH → Prop) (x3 : Int32) (x4 : Int32) (h : tpH) : Prop :=
  (¬ x4 = x3 → (R (0 : Int32) h)) ∧ (x4 = x3 → (R (1 : Int32) h))
def b_Md_isWithin_3 (R : Int32 → tpH → Prop) (Y : Nat → Int32 → Int32 → Int32 → tpH → Prop) (o : Nat) (x1 : Int32) (x3 : Int32) (x4 : Int32) (h : tpH) : Prop :=
  (x4 = x3 → (w_Md_isWithin_27 R x3 x4 h)) ∧ (¬ x4 = x3 → ((x4 = (-1 : Int32) → (w_Md_isWithin_27 R x3 x4 h)) ∧ (¬ x4 = (-1 : Int32) → (hT h o = 14 ∧ (w_Md_parentIn o x1 x4 h (fun v5 h4 => Y o x1 x3 v5 h4))))))
def w_Md_isWithin_3 (R : Int32 → tpH → Prop) : Nat → Nat → Int32 → Int32 → Int32 → tpH → Prop
  | 0 => fun _ _ _ _ _ => False
  | n + 1 => b_Md_isWithin_3 R (w_Md_isWithin_3 R n)
def w_Md_isWithin (o : Nat) (x1 : Int32) (x2 : Int32) (x3 : Int32) (h : tpH) (R : Int32 → tpH → Prop) : Prop :=
  ∃ n, w_Md_isWithin_3 R n o x1 x3 x2 h
theorem s_Md_isWithin_27 {h0 : tpH} {av : List tpV} {R : Int32 → tpH → Prop} : ∀ (x3 : Int32) (x4 : Int32) (h : tpH), w_Md_isWithin_27 R x3 x4 h → tpR Md_isWithin 1 h0 av (tpOi R (fun _ _ => False)) 27 [none, none, none, some (vI x3), some (vI x4)] [] h := by
  intro x3 x4 h hw
  unfold w_Md_isWithin_27 at hw
  refine tq_iload dMd_isWithin_27 rfl ?_
  refine tq_iload_n dMd_isWithin_29 rfl rfl ?_
  refine tq_icmpne (tgt := 37) dMd_isWithin_30 (by decide) (fun c1 => ?_) (fun c1 => ?_)
  · have hw := hw.1 c1
    refine tq_iconst (v := (0 : Int32)) dMd_isWithin_37 tni_0 ?_
    exact tq_iret rfl (by decide) dMd_isWithin_38 hw
  · have hw := hw.2 c1
    refine tq_iconst (v := (1 : Int32)) dMd_isWithin_33 tni_1 ?_
    refine tq_goto (tgt := 38) dMd_isWithin_34 (by decide) ?_
    exact tq_iret rfl (by decide) dMd_isWithin_38 hw
theorem s_Md_isWithin_3 {h0 : tpH} {av : List tpV} {R : Int32 → tpH → Prop} : ∀ (n : Nat) (o : Nat) (x1 : Int32) (x3 : Int32) (x4 : Int32) (h : tpH), w_Md_isWithin_3 R n o x1 x3 x4 h → tpR Md_isWithin 1 h0 av (tpOi R (fun _ _ => False)) 3 [some (vR (some o)), some (vI x1), none, some (vI x3), some (vI x4)] [] h := by
  intro n
  induction n with
  | zero => intro o x1 x3 x4 h hw; exact False.elim hw
  | succ n ih =>
    intro o x1 x3 x4 h hw
    change b_Md_isWithin_3 R (w_Md_isWithin_3 R n) o x1 x3 x4 h at hw
    unfold b_Md_isWithin_3 at hw
    refine tq_iload dMd_isWithin_3 rfl ?_
    refine tq_iload_n dMd_isWithin_5 rfl rfl ?_
    refine tq_icmpeq (tgt := 27) dMd_isWithin_6 (by decide) (fun c1 => ?_) (fun c1 => ?_)
    · have hw := hw.1 c1
      refine tpR.fo (ls' := [none, none, none, some (vI x3), some (vI x4)]) ?_ (And.intro rfl (And.intro rfl trivial))
      exact s_Md_isWithin_27 _ _ _ hw
    · have hw := hw.2 c1
      refine tq_iload dMd_isWithin_9 rfl ?_
      refine tq_iconst (v := (-1 : Int32)) dMd_isWithin_11 tni_m1 ?_
      refine tq_icmpeq (tgt := 27) dMd_isWithin_12 (by decide) (fun c2 => ?_) (fun c2 => ?_)
      · have hw := hw.1 c2
        refine tpR.fo (ls' := [none, none, none, some (vI x3), some (vI x4)]) ?_ (And.intro rfl (And.intro rfl trivial))
        exact s_Md_isWithin_27 _ _ _ hw
      · have hw := hw.2 c2
        refine tq_aload_n dMd_isWithin_15 rfl rfl ?_
        refine tq_iload_n dMd_isWithin_16 rfl rfl ?_
        refine tq_iload dMd_isWithin_17 rfl ?_
        obtain ⟨f3, hw⟩ := hw
        refine te_callV mv_Md_parentIn (ci := 13) (dc := 0) (as := [vI x1, vI x4]) (rest := []) kMd_179 rfl (Nat.le_of_ble_eq_true rfl) (Nat.le_of_ble_eq_true rfl) rfl rfl rfl f3 (Nat.le_of_ble_eq_true rfl) dMd_isWithin_19 (s_Md_parentIn hw) (fun _ _ hx => False.elim hx) (tk_i fun v5 h4 hw => ?_)
        refine tq_istore (ls' := [some (vR (some o)), some (vI x1), none, some (vI x3), some (vI v5)]) dMd_isWithin_22 (Nat.le_of_ble_eq_true rfl) rfl ?_
        refine tq_goto (tgt := 3) dMd_isWithin_24 (by decide) ?_
        refine tpR.fo (ls' := [some (vR (some o)), some (vI x1), none, some (vI x3), some (vI v5)]) ?_ (And.intro rfl (And.intro rfl (And.intro rfl (And.intro rfl trivial))))
        exact ih _ _ _ _ _ hw
theorem s_Md_isWithin {o : Nat} {x1 : Int32} {x2 : Int32} {x3 : Int32} {h : tpH} {R : Int32 → tpH → Prop} (hw : w_Md_isWithin o x1 x2 x3 h R) : tpC Md_isWithin 1 [vR (some o), vI x1, vI x2, vI x3] h (tpOi R (fun _ _ => False)) := by
  refine tpC_of mv_Md_isWithin.2.2.2.1 rfl rfl (Nat.le_of_ble_eq_true rfl) ?_
  show tpR Md_isWithin 1 h _ _ 0 [some (vR (some o)), some (vI x1), some (vI x2), some (vI x3), none] [] h
  unfold w_Md_isWithin at hw
  refine tq_iload_n dMd_isWithin_0 rfl rfl ?_
  refine tq_istore (ls' := [some (vR (some o)), some (vI x1), some (vI x2), some (vI x3), some (vI x2)]) dMd_isWithin_1 (Nat.le_of_ble_eq_true rfl) rfl ?_
  refine tpR.fo (ls' := [some (vR (some o)), some (vI x1), none, some (vI x3), some (vI x2)]) ?_ (And.intro rfl (And.intro rfl (And.intro rfl (And.intro rfl trivial))))
  obtain ⟨n, hw⟩ := hw
  exact s_Md_isWithin_3 n _ _ _ _ _ hw
/-! TModel.childMany -/
theorem dMd_childMany_0 : decode (mB Md_childMany) 0 = .ok (.iconst 0, 1) := by decide +kernel
theorem dMd_childMany_1 : decode (mB Md_childMany) 1 = .ok (.istore_n 3, 1) := by decide +kernel
theorem dMd_childMany_2 : decode (mB Md_childMany) 2 = .ok (.aload_n 0, 1) := by decide +kernel
theorem dMd_childMany_3 : decode (mB Md_childMany) 3 = .ok (.iload_n 1, 1) := by decide +kernel
theorem dMd_childMany_4 : decode (mB Md_childMany) 4 = .ok (.iload_n 2, 1) := by decide +kernel
theorem dMd_childMany_5 : decode (mB Md_childMany) 5 = .ok (.invokevirtual 173, 3) := by decide +kernel
theorem dMd_childMany_8 : decode (mB Md_childMany) 8 = .ok (.istore 4, 2) := by decide +kernel
theorem dMd_childMany_10 : decode (mB Md_childMany) 10 = .ok (.iload 4, 2) := by decide +kernel
theorem dMd_childMany_12 : decode (mB Md_childMany) 12 = .ok (.iconst (-1), 1) := by decide +kernel
theorem dMd_childMany_13 : decode (mB Md_childMany) 13 = .ok (.if_icmp .eq 18, 3) := by decide +kernel
theorem dMd_childMany_16 : decode (mB Md_childMany) 16 = .ok (.iinc 3 1, 3) := by decide +kernel
theorem dMd_childMany_19 : decode (mB Md_childMany) 19 = .ok (.aload_n 0, 1) := by decide +kernel
theorem dMd_childMany_20 : decode (mB Md_childMany) 20 = .ok (.iload_n 1, 1) := by decide +kernel
theorem dMd_childMany_21 : decode (mB Md_childMany) 21 = .ok (.iload 4, 2) := by decide +kernel
theorem dMd_childMany_23 : decode (mB Md_childMany) 23 = .ok (.invokevirtual 169, 3) := by decide +kernel
theorem dMd_childMany_26 : decode (mB Md_childMany) 26 = .ok (.istore 4, 2) := by decide +kernel
theorem dMd_childMany_28 : decode (mB Md_childMany) 28 = .ok (.goto (-18), 3) := by decide +kernel
theorem dMd_childMany_31 : decode (mB Md_childMany) 31 = .ok (.iload_n 3, 1) := by decide +kernel
theorem dMd_childMany_32 : decode (mB Md_childMany) 32 = .ok (.ireturn, 1) := by decide +kernel
def b_Md_childMany_10 (R : Int32 → tpH → Prop) (Y : Nat → Int32 → Int32 → Int32 → tpH → Prop) (o : Nat) (x1 : Int32) (x3 : Int32) (x4 : Int32) (h : tpH) : Prop :=
  (x4 = (-1 : Int32) → (R x3 h)) ∧ (¬ x4 = (-1 : Int32) → (hT h o = 14 ∧ (w_Md_nextIn o x1 x4 h (fun v4 h3 => Y o x1 (x3 + (1 : Int32)) v4 h3))))
def w_Md_childMany_10 (R : Int32 → tpH → Prop) : Nat → Nat → Int32 → Int32 → Int32 → tpH → Prop
  | 0 => fun _ _ _ _ _ => False
  | n + 1 => b_Md_childMany_10 R (w_Md_childMany_10 R n)
def w_Md_childMany (o : Nat) (x1 : Int32) (x2 : Int32) (h : tpH) (R : Int32 → tpH → Prop) : Prop :=
  hT h o = 14 ∧ (w_Md_firstIn o x1 x2 h (fun v3 h2 => ∃ n, w_Md_childMany_10 R n o x1 (0 : Int32) v3 h2))
theorem s_Md_childMany_10 {h0 : tpH} {av : List tpV} {R : Int32 → tpH → Prop} : ∀ (n : Nat) (o : Nat) (x1 : Int32) (x3 : Int32) (x4 : Int32) (h : tpH), w_Md_childMany_10 R n o x1 x3 x4 h → tpR Md_childMany 1 h0 av (tpOi R (fun _ _ => False)) 10 [some (vR (some o)), some (vI x1), none, some (vI x3), some (vI x4)] [] h := by
  intro n
  induction n with
  | zero => intro o x1 x3 x4 h hw; exact False.elim hw
  | succ n ih =>
    intro o x1 x3 x4 h hw
    change b_Md_childMany_10 R (w_Md_childMany_10 R n) o x1 x3 x4 h at hw
    unfold b_Md_childMany_10 at hw
    refine tq_iload dMd_childMany_10 rfl ?_
    refine tq_iconst (v := (-1 : Int32)) dMd_childMany_12 tni_m1 ?_
    refine tq_icmpeq (tgt := 31) dMd_childMany_13 (by decide) (fun c1 => ?_) (fun c1 => ?_)
    · have hw := hw.1 c1
      refine tq_iload_n dMd_childMany_31 rfl rfl ?_
      exact tq_iret rfl rfl dMd_childMany_32 hw
    · have hw := hw.2 c1
      refine tq_inc (k := (1 : Int32)) (ls' := [some (vR (some o)), some (vI x1), none, some (vI (x3 + (1 : Int32))), some (vI x4)]) dMd_childMany_16 rfl tni_1 (Nat.le_of_ble_eq_true rfl) rfl ?_
      refine tq_aload_n dMd_childMany_19 rfl rfl ?_
      refine tq_iload_n dMd_childMany_20 rfl rfl ?_
      refine tq_iload dMd_childMany_21 rfl ?_
      obtain ⟨f2, hw⟩ := hw
      refine te_callV mv_Md_nextIn (ci := 13) (dc := 0) (as := [vI x1, vI x4]) (rest := []) kMd_169 rfl (Nat.le_of_ble_eq_true rfl) (Nat.le_of_ble_eq_true rfl) rfl rfl rfl f2 (Nat.le_of_ble_eq_true rfl) dMd_childMany_23 (s_Md_nextIn hw) (fun _ _ hx => False.elim hx) (tk_i fun v4 h3 hw => ?_)
      refine tq_istore (ls' := [some (vR (some o)), some (vI x1), none, some (vI (x3 + (1 : Int32))), some (vI v4)]) dMd_childMany_26 (Nat.le_of_ble_eq_true rfl) rfl ?_
      refine tq_goto (tgt := 10) dMd_childMany_28 (by decide) ?_
      refine tpR.fo (ls' := [some (vR (some o)), some (vI x1), none, some (vI (x3 + (1 : Int32))), some (vI v4)]) ?_ (And.intro rfl (And.intro rfl (And.intro rfl (And.intro rfl trivial))))
      exact ih _ _ _ _ _ hw
theorem s_Md_childMany {o : Nat} {x1 : Int32} {x2 : Int32} {h : tpH} {R : Int32 → tpH → Prop} (hw : w_Md_childMany o x1 x2 h R) : tpC Md_childMany 1 [vR (some o), vI x1, vI x2] h (tpOi R (fun _ _ => False)) := by
  refine tpC_of mv_Md_childMany.2.2.2.1 rfl rfl (Nat.le_of_ble_eq_true rfl) ?_
  show tpR Md_childMany 1 h _ _ 0 [some (vR (some o)), some (vI x1), some (vI x2), none, none] [] h
  unfold w_Md_childMany at hw
  refine tq_iconst (v := (0 : Int32)) dMd_childMany_0 tni_0 ?_
  refine tq_istore_n (ls' := [some (vR (some o)), some (vI x1), some (vI x2), some (vI (0 : Int32)), none]) dMd_childMany_1 rfl (Nat.le_of_ble_eq_true rfl) rfl ?_
  refine tq_aload_n dMd_childMany_2 rfl rfl ?_
  refine tq_iload_n dMd_childMany_3 rfl rfl ?_
  refine tq_iload_n dMd_childMany_4 rfl rfl ?_
  obtain ⟨f1, hw⟩ := hw
  refine te_callV mv_Md_firstIn (ci := 13) (dc := 0) (as := [vI x1, vI x2]) (rest := []) kMd_173 rfl (Nat.le_of_ble_eq_true rfl) (Nat.le_of_ble_eq_true rfl) rfl rfl rfl f1 (Nat.le_of_ble_eq_true rfl) dMd_childMany_5 (s_Md_firstIn hw) (fun _ _ hx => False.elim hx) (tk_i fun v3 h2 hw => ?_)
  refine tq_istore (ls' := [some (vR (some o)), some (vI x1), some (vI x2), some (vI (0 : Int32)), some (vI v3)]) dMd_childMany_8 (Nat.le_of_ble_eq_true rfl) rfl ?_
  refine tpR.fo (ls' := [some (vR (some o)), some (vI x1), none, some (vI (0 : Int32)), some (vI v3)]) ?_ (And.intro rfl (And.intro rfl (And.intro rfl (And.intro rfl trivial))))
  obtain ⟨n, hw⟩ := hw
  exact s_Md_childMany_10 n _ _ _ _ _ hw
/-! TModel.layOrder -/
theorem dMd_layOrder_0 : decode (mB Md_layOrder) 0 = .ok (.iconst 0, 1) := by decide +kernel
theorem dMd_layOrder_1 : decode (mB Md_layOrder) 1 = .ok (.istore_n 3, 1) := by decide +kernel
theorem dMd_layOrder_2 : decode (mB Md_layOrder) 2 = .ok (.aload_n 0, 1) := by decide +kernel
theorem dMd_layOrder_3 : decode (mB Md_layOrder) 3 = .ok (.getfield 16, 3) := by decide +kernel
theorem dMd_layOrder_6 : decode (mB Md_layOrder) 6 = .ok (.iload_n 1, 1) := by decide +kernel
theorem dMd_layOrder_7 : decode (mB Md_layOrder) 7 = .ok (.iaload, 1) := by decide +kernel
theorem dMd_layOrder_8 : decode (mB Md_layOrder) 8 = .ok (.istore 4, 2) := by decide +kernel
theorem dMd_layOrder_10 : decode (mB Md_layOrder) 10 = .ok (.iload 4, 2) := by decide +kernel
theorem dMd_layOrder_12 : decode (mB Md_layOrder) 12 = .ok (.iconst (-1), 1) := by decide +kernel
theorem dMd_layOrder_13 : decode (mB Md_layOrder) 13 = .ok (.if_icmp .eq 71, 3) := by decide +kernel
theorem dMd_layOrder_16 : decode (mB Md_layOrder) 16 = .ok (.aload_n 2, 1) := by decide +kernel
theorem dMd_layOrder_17 : decode (mB Md_layOrder) 17 = .ok (.iload_n 3, 1) := by decide +kernel
theorem dMd_layOrder_18 : decode (mB Md_layOrder) 18 = .ok (.iload 4, 2) := by decide +kernel
theorem dMd_layOrder_20 : decode (mB Md_layOrder) 20 = .ok (.iastore, 1) := by decide +kernel
theorem dMd_layOrder_21 : decode (mB Md_layOrder) 21 = .ok (.iinc 3 1, 3) := by decide +kernel
theorem dMd_layOrder_24 : decode (mB Md_layOrder) 24 = .ok (.aload_n 0, 1) := by decide +kernel
theorem dMd_layOrder_25 : decode (mB Md_layOrder) 25 = .ok (.iload_n 1, 1) := by decide +kernel
theorem dMd_layOrder_26 : decode (mB Md_layOrder) 26 = .ok (.iload 4, 2) := by decide +kernel
theorem dMd_layOrder_28 : decode (mB Md_layOrder) 28 = .ok (.invokevirtual 173, 3) := by decide +kernel
theorem dMd_layOrder_31 : decode (mB Md_layOrder) 31 = .ok (.istore 5, 2) := by decide +kernel
theorem dMd_layOrder_33 : decode (mB Md_layOrder) 33 = .ok (.iload 5, 2) := by decide +kernel
theorem dMd_layOrder_35 : decode (mB Md_layOrder) 35 = .ok (.iconst (-1), 1) := by decide +kernel
theorem dMd_layOrder_36 : decode (mB Md_layOrder) 36 = .ok (.if_icmp .ne 41, 3) := by decide +kernel
theorem dMd_layOrder_39 : decode (mB Md_layOrder) 39 = .ok (.iload 4, 2) := by decide +kernel
theorem dMd_layOrder_41 : decode (mB Md_layOrder) 41 = .ok (.iconst (-1), 1) := by decide +kernel
theorem dMd_layOrder_42 : decode (mB Md_layOrder) 42 = .ok (.if_icmp .eq 35, 3) := by decide +kernel
theorem dMd_layOrder_45 : decode (mB Md_layOrder) 45 = .ok (.aload_n 0, 1) := by decide +kernel
theorem dMd_layOrder_46 : decode (mB Md_layOrder) 46 = .ok (.iload_n 1, 1) := by decide +kernel
theorem dMd_layOrder_47 : decode (mB Md_layOrder) 47 = .ok (.iload 4, 2) := by decide +kernel
theorem dMd_layOrder_49 : decode (mB Md_layOrder) 49 = .ok (.invokevirtual 169, 3) := by decide +kernel
theorem dMd_layOrder_52 : decode (mB Md_layOrder) 52 = .ok (.istore 5, 2) := by decide +kernel
theorem dMd_layOrder_54 : decode (mB Md_layOrder) 54 = .ok (.iload 5, 2) := by decide +kernel
theorem dMd_layOrder_56 : decode (mB Md_layOrder) 56 = .ok (.iconst (-1), 1) := by decide +kernel
theorem dMd_layOrder_57 : decode (mB Md_layOrder) 57 = .ok (.if_icmp .ne 13, 3) := by decide +kernel
theorem dMd_layOrder_60 : decode (mB Md_layOrder) 60 = .ok (.aload_n 0, 1) := by decide +kernel
theorem dMd_layOrder_61 : decode (mB Md_layOrder) 61 = .ok (.iload_n 1, 1) := by decide +kernel
theorem dMd_layOrder_62 : decode (mB Md_layOrder) 62 = .ok (.iload 4, 2) := by decide +kernel
theorem dMd_layOrder_64 : decode (mB Md_layOrder) 64 = .ok (.invokevirtual 179, 3) := by decide +kernel
theorem dMd_layOrder_67 : decode (mB Md_layOrder) 67 = .ok (.goto 5, 3) := by decide +kernel
theorem dMd_layOrder_70 : decode (mB Md_layOrder) 70 = .ok (.iload 4, 2) := by decide +kernel
theorem dMd_layOrder_72 : decode (mB Md_layOrder) 72 = .ok (.istore 4, 2) := by decide +kernel
theorem dMd_layOrder_74 : decode (mB Md_layOrder) 74 = .ok (.goto (-41), 3) := by decide +kernel
theorem dMd_layOrder_77 : decode (mB Md_layOrder) 77 = .ok (.iload 5, 2) := by decide +kernel
theorem dMd_layOrder_79 : decode (mB Md_layOrder) 79 = .ok (.istore 4, 2) := by decide +kernel
theorem dMd_layOrder_81 : decode (mB Md_layOrder) 81 = .ok (.goto (-71), 3) := by decide +kernel
theorem dMd_layOrder_84 : decode (mB Md_layOrder) 84 = .ok (.iload_n 3, 1) := by decide +kernel
theorem dMd_layOrder_85 : decode (mB Md_layOrder) 85 = .ok (.ireturn, 1) := by decide +kernel
def b_Md_layOrder_33 (R : Int32 → tpH → Prop) (K10 : Nat → Int32 → (Option Nat) → Int32 → Int32 → tpH → Prop) (Y : Nat → Int32 → (Option Nat) → Int32 → Int32 → Int32 → tpH → Prop) (o : Nat) (x1 : Int32) (x2 : Option Nat) (x3 : Int32) (x4 : Int32) (x5 : Int32) (h : tpH) : Prop :=
  (¬ x5 = (-1 : Int32) → (K10 o x1 x2 x3 x5 h)) ∧ (x5 = (-1 : Int32) → ((x4 = (-1 : Int32) → (K10 o x1 x2 x3 x5 h)) ∧ (¬ x4 = (-1 : Int32) → (hT h o = 14 ∧ (w_Md_nextIn o x1 x4 h (fun v5 h4 => (¬ v5 = (-1 : Int32) → (Y o x1 x2 x3 x4 v5 h4)) ∧ (v5 = (-1 : Int32) → (hT h4 o = 14 ∧ (w_Md_parentIn o x1 x4 h4 (fun v9 h8 => Y o x1 x2 x3 v9 v5 h8))))))))))
def w_Md_layOrder_33 (R : Int32 → tpH → Prop) (K10 : Nat → Int32 → (Option Nat) → Int32 → Int32 → tpH → Prop) : Nat → Nat → Int32 → (Option Nat) → Int32 → Int32 → Int32 → tpH → Prop
  | 0 => fun _ _ _ _ _ _ _ => False
  | n + 1 => b_Md_layOrder_33 R K10 (w_Md_layOrder_33 R K10 n)
def b_Md_layOrder_10 (R : Int32 → tpH → Prop) (Y : Nat → Int32 → (Option Nat) → Int32 → Int32 → tpH → Prop) (o : Nat) (x1 : Int32) (x2 : Option Nat) (x3 : Int32) (x4 : Int32) (h : tpH) : Prop :=
  (x4 = (-1 : Int32) → (R x3 h)) ∧ (¬ x4 = (-1 : Int32) → (∃ a2, x2 = some a2 ∧ hT h a2 = 15 ∧ (vp_in x3 (hL h a2) ∧ (∀ h6, h6 = sI h a2 x3.toNatClampNeg x4 → (hT h6 o = 14 ∧ (w_Md_firstIn o x1 x4 h6 (fun v10 h9 => ∃ n, w_Md_layOrder_33 R Y n o x1 x2 (x3 + (1 : Int32)) x4 v10 h9)))))))
def w_Md_layOrder_10 (R : Int32 → tpH → Prop) : Nat → Nat → Int32 → (Option Nat) → Int32 → Int32 → tpH → Prop
  | 0 => fun _ _ _ _ _ _ => False
  | n + 1 => b_Md_layOrder_10 R (w_Md_layOrder_10 R n)
def w_Md_layOrder (o : Nat) (x1 : Int32) (x2 : Option Nat) (h : tpH) (R : Int32 → tpH → Prop) : Prop :=
  hT h o = 14 ∧ (∃ a2, (hR h o 5) = some a2 ∧ hT h a2 = 15 ∧ (vp_in x1 (hL h a2) ∧ (∃ n, w_Md_layOrder_10 R n o x1 x2 (0 : Int32) (hI h a2 x1.toNatClampNeg) h)))
theorem s_Md_layOrder_33 {h0 : tpH} {av : List tpV} {R : Int32 → tpH → Prop} {K10 : Nat → Int32 → (Option Nat) → Int32 → Int32 → tpH → Prop} (k10 : ∀ (o : Nat) (x1 : Int32) (x2 : Option Nat) (x3 : Int32) (x4 : Int32) (h : tpH), K10 o x1 x2 x3 x4 h → tpR Md_layOrder 1 h0 av (tpOi R (fun _ _ => False)) 10 [some (vR (some o)), some (vI x1), some (vR x2), some (vI x3), some (vI x4), none] [] h) : ∀ (n : Nat) (o : Nat) (x1 : Int32) (x2 : Option Nat) (x3 : Int32) (x4 : Int32) (x5 : Int32) (h : tpH), w_Md_layOrder_33 R K10 n o x1 x2 x3 x4 x5 h → tpR Md_layOrder 1 h0 av (tpOi R (fun _ _ => False)) 33 [some (vR (some o)), some (vI x1), some (vR x2), some (vI x3), some (vI x4), some (vI x5)] [] h := by
  intro n
  induction n with
  | zero => intro o x1 x2 x3 x4 x5 h hw; exact False.elim hw
  | succ n ih =>
    intro o x1 x2 x3 x4 x5 h hw
    change b_Md_layOrder_33 R K10 (w_Md_layOrder_33 R K10 n) o x1 x2 x3 x4 x5 h at hw
    unfold b_Md_layOrder_33 at hw
    refine tq_iload dMd_layOrder_33 rfl ?_
    refine tq_iconst (v := (-1 : Int32)) dMd_layOrder_35 tni_m1 ?_
    refine tq_icmpne (tgt := 77) dMd_layOrder_36 (by decide) (fun c1 => ?_) (fun c1 => ?_)
    · have hw := hw.1 c1
      refine tq_iload dMd_layOrder_77 rfl ?_
      refine tq_istore (ls' := [some (vR (some o)), some (vI x1), some (vR x2), some (vI x3), some (vI x5), some (vI x5)]) dMd_layOrder_79 (Nat.le_of_ble_eq_true rfl) rfl ?_
      refine tq_goto (tgt := 10) dMd_layOrder_81 (by decide) ?_
      refine tpR.fo (ls' := [some (vR (some o)), some (vI x1), some (vR x2), some (vI x3), some (vI x5), none]) ?_ (And.intro rfl (And.intro rfl (And.intro rfl (And.intro rfl (And.intro rfl trivial)))))
      exact k10 _ _ _ _ _ _ hw
    · have hw := hw.2 c1
      refine tq_iload dMd_layOrder_39 rfl ?_
      refine tq_iconst (v := (-1 : Int32)) dMd_layOrder_41 tni_m1 ?_
      refine tq_icmpeq (tgt := 77) dMd_layOrder_42 (by decide) (fun c2 => ?_) (fun c2 => ?_)
      · have hw := hw.1 c2
        refine tq_iload dMd_layOrder_77 rfl ?_
        refine tq_istore (ls' := [some (vR (some o)), some (vI x1), some (vR x2), some (vI x3), some (vI x5), some (vI x5)]) dMd_layOrder_79 (Nat.le_of_ble_eq_true rfl) rfl ?_
        refine tq_goto (tgt := 10) dMd_layOrder_81 (by decide) ?_
        refine tpR.fo (ls' := [some (vR (some o)), some (vI x1), some (vR x2), some (vI x3), some (vI x5), none]) ?_ (And.intro rfl (And.intro rfl (And.intro rfl (And.intro rfl (And.intro rfl trivial)))))
        exact k10 _ _ _ _ _ _ hw
      · have hw := hw.2 c2
        refine tq_aload_n dMd_layOrder_45 rfl rfl ?_
        refine tq_iload_n dMd_layOrder_46 rfl rfl ?_
        refine tq_iload dMd_layOrder_47 rfl ?_
        obtain ⟨f3, hw⟩ := hw
        refine te_callV mv_Md_nextIn (ci := 13) (dc := 0) (as := [vI x1, vI x4]) (rest := []) kMd_169 rfl (Nat.le_of_ble_eq_true rfl) (Nat.le_of_ble_eq_true rfl) rfl rfl rfl f3 (Nat.le_of_ble_eq_true rfl) dMd_layOrder_49 (s_Md_nextIn hw) (fun _ _ hx => False.elim hx) (tk_i fun v5 h4 hw => ?_)
        refine tq_istore (ls' := [some (vR (some o)), some (vI x1), some (vR x2), some (vI x3), some (vI x4), some (vI v5)]) dMd_layOrder_52 (Nat.le_of_ble_eq_true rfl) rfl ?_
        refine tq_iload dMd_layOrder_54 rfl ?_
        refine tq_iconst (v := (-1 : Int32)) dMd_layOrder_56 tni_m1 ?_
        refine tq_icmpne (tgt := 70) dMd_layOrder_57 (by decide) (fun c6 => ?_) (fun c6 => ?_)
        · have hw := hw.1 c6
          refine tq_iload dMd_layOrder_70 rfl ?_
          refine tq_istore (ls' := [some (vR (some o)), some (vI x1), some (vR x2), some (vI x3), some (vI x4), some (vI v5)]) dMd_layOrder_72 (Nat.le_of_ble_eq_true rfl) rfl ?_
          refine tq_goto (tgt := 33) dMd_layOrder_74 (by decide) ?_
          refine tpR.fo (ls' := [some (vR (some o)), some (vI x1), some (vR x2), some (vI x3), some (vI x4), some (vI v5)]) ?_ (And.intro rfl (And.intro rfl (And.intro rfl (And.intro rfl (And.intro rfl (And.intro rfl trivial))))))
          exact ih _ _ _ _ _ _ _ hw
        · have hw := hw.2 c6
          refine tq_aload_n dMd_layOrder_60 rfl rfl ?_
          refine tq_iload_n dMd_layOrder_61 rfl rfl ?_
          refine tq_iload dMd_layOrder_62 rfl ?_
          obtain ⟨f7, hw⟩ := hw
          refine te_callV mv_Md_parentIn (ci := 13) (dc := 0) (as := [vI x1, vI x4]) (rest := []) kMd_179 rfl (Nat.le_of_ble_eq_true rfl) (Nat.le_of_ble_eq_true rfl) rfl rfl rfl f7 (Nat.le_of_ble_eq_true rfl) dMd_layOrder_64 (s_Md_parentIn hw) (fun _ _ hx => False.elim hx) (tk_i fun v9 h8 hw => ?_)
          refine tq_goto (tgt := 72) dMd_layOrder_67 (by decide) ?_
          refine tq_istore (ls' := [some (vR (some o)), some (vI x1), some (vR x2), some (vI x3), some (vI v9), some (vI v5)]) dMd_layOrder_72 (Nat.le_of_ble_eq_true rfl) rfl ?_
          refine tq_goto (tgt := 33) dMd_layOrder_74 (by decide) ?_
          refine tpR.fo (ls' := [some (vR (some o)), some (vI x1), some (vR x2), some (vI x3), some (vI v9), some (vI v5)]) ?_ (And.intro rfl (And.intro rfl (And.intro rfl (And.intro rfl (And.intro rfl (And.intro rfl trivial))))))
          exact ih _ _ _ _ _ _ _ hw
theorem s_Md_layOrder_10 {h0 : tpH} {av : List tpV} {R : Int32 → tpH → Prop} : ∀ (n : Nat) (o : Nat) (x1 : Int32) (x2 : Option Nat) (x3 : Int32) (x4 : Int32) (h : tpH), w_Md_layOrder_10 R n o x1 x2 x3 x4 h → tpR Md_layOrder 1 h0 av (tpOi R (fun _ _ => False)) 10 [some (vR (some o)), some (vI x1), some (vR x2), some (vI x3), some (vI x4), none] [] h := by
  intro n
  induction n with
  | zero => intro o x1 x2 x3 x4 h hw; exact False.elim hw
  | succ n ih =>
    intro o x1 x2 x3 x4 h hw
    change b_Md_layOrder_10 R (w_Md_layOrder_10 R n) o x1 x2 x3 x4 h at hw
    unfold b_Md_layOrder_10 at hw
    refine tq_iload dMd_layOrder_10 rfl ?_
    refine tq_iconst (v := (-1 : Int32)) dMd_layOrder_12 tni_m1 ?_
    refine tq_icmpeq (tgt := 84) dMd_layOrder_13 (by decide) (fun c1 => ?_) (fun c1 => ?_)
    · have hw := hw.1 c1
      refine tq_iload_n dMd_layOrder_84 rfl rfl ?_
      exact tq_iret rfl rfl dMd_layOrder_85 hw
    · have hw := hw.2 c1
      refine tq_aload_n dMd_layOrder_16 rfl rfl ?_
      refine tq_iload_n dMd_layOrder_17 rfl rfl ?_
      refine tq_iload dMd_layOrder_18 rfl ?_
      obtain ⟨a2, e3, f4, hw⟩ := hw
      obtain ⟨f5, hw⟩ := hw
      refine te_iast dMd_layOrder_20 e3 f4 f5 (fun h6 e7 => ?_)
      have hw := hw h6 e7
      refine tq_inc (k := (1 : Int32)) (ls' := [some (vR (some o)), some (vI x1), some (vR x2), some (vI (x3 + (1 : Int32))), some (vI x4), none]) dMd_layOrder_21 rfl tni_1 (Nat.le_of_ble_eq_true rfl) rfl ?_
      refine tq_aload_n dMd_layOrder_24 rfl rfl ?_
      refine tq_iload_n dMd_layOrder_25 rfl rfl ?_
      refine tq_iload dMd_layOrder_26 rfl ?_
      obtain ⟨f8, hw⟩ := hw
      refine te_callV mv_Md_firstIn (ci := 13) (dc := 0) (as := [vI x1, vI x4]) (rest := []) kMd_173 rfl (Nat.le_of_ble_eq_true rfl) (Nat.le_of_ble_eq_true rfl) rfl rfl rfl f8 (Nat.le_of_ble_eq_true rfl) dMd_layOrder_28 (s_Md_firstIn hw) (fun _ _ hx => False.elim hx) (tk_i fun v10 h9 hw => ?_)
      refine tq_istore (ls' := [some (vR (some o)), some (vI x1), some (vR x2), some (vI (x3 + (1 : Int32))), some (vI x4), some (vI v10)]) dMd_layOrder_31 (Nat.le_of_ble_eq_true rfl) rfl ?_
      refine tpR.fo (ls' := [some (vR (some o)), some (vI x1), some (vR x2), some (vI (x3 + (1 : Int32))), some (vI x4), some (vI v10)]) ?_ (And.intro rfl (And.intro rfl (And.intro rfl (And.intro rfl (And.intro rfl (And.intro rfl trivial))))))
      obtain ⟨n, hw⟩ := hw
      exact s_Md_layOrder_33 ih n _ _ _ _ _ _ _ hw
theorem s_Md_layOrder {o : Nat} {x1 : Int32} {x2 : Option Nat} {h : tpH} {R : Int32 → tpH → Prop} (hw : w_Md_layOrder o x1 x2 h R) : tpC Md_layOrder 1 [vR (some o), vI x1, vR x2] h (tpOi R (fun _ _ => False)) := by
  refine tpC_of mv_Md_layOrder.2.2.2.1 rfl rfl (Nat.le_of_ble_eq_true rfl) ?_
  show tpR Md_layOrder 1 h _ _ 0 [some (vR (some o)), some (vI x1), some (vR x2), none, none, none] [] h
  unfold w_Md_layOrder at hw
  refine tq_iconst (v := (0 : Int32)) dMd_layOrder_0 tni_0 ?_
  refine tq_istore_n (ls' := [some (vR (some o)), some (vI x1), some (vR x2), some (vI (0 : Int32)), none, none]) dMd_layOrder_1 rfl (Nat.le_of_ble_eq_true rfl) rfl ?_
  refine tq_aload_n dMd_layOrder_2 rfl rfl ?_
  obtain ⟨f1, hw⟩ := hw
  refine te_getr dMd_layOrder_3 fMd_16 rfl rfl f1 ?_
  refine tq_iload_n dMd_layOrder_6 rfl rfl ?_
  obtain ⟨a2, e3, f4, hw⟩ := hw
  obtain ⟨f5, hw⟩ := hw
  refine te_iald dMd_layOrder_7 e3 (Or.inl f4) f5 ?_
  refine tq_istore (ls' := [some (vR (some o)), some (vI x1), some (vR x2), some (vI (0 : Int32)), some (vI (hI h a2 x1.toNatClampNeg)), none]) dMd_layOrder_8 (Nat.le_of_ble_eq_true rfl) rfl ?_
  refine tpR.fo (ls' := [some (vR (some o)), some (vI x1), some (vR x2), some (vI (0 : Int32)), some (vI (hI h a2 x1.toNatClampNeg)), none]) ?_ (And.intro rfl (And.intro rfl (And.intro rfl (And.intro rfl (And.intro rfl trivial)))))
  obtain ⟨n, hw⟩ := hw
  exact s_Md_layOrder_10 n _ _ _ _ _ _ hw
/-! TModel.areGood -/
theorem dMd_areGood_0 : decode (mB Md_areGood) 0 = .ok (.iload_n 0, 1) := by decide +kernel
theorem dMd_areGood_1 : decode (mB Md_areGood) 1 = .ok (.iconst 0, 1) := by decide +kernel
theorem dMd_areGood_2 : decode (mB Md_areGood) 2 = .ok (.iconst 5, 1) := by decide +kernel
theorem dMd_areGood_3 : decode (mB Md_areGood) 3 = .ok (.invokestatic 158, 3) := by decide +kernel
theorem dMd_areGood_6 : decode (mB Md_areGood) 6 = .ok (.ifCond .eq 27, 3) := by decide +kernel
theorem dMd_areGood_9 : decode (mB Md_areGood) 9 = .ok (.iload_n 1, 1) := by decide +kernel
theorem dMd_areGood_10 : decode (mB Md_areGood) 10 = .ok (.iconst 0, 1) := by decide +kernel
theorem dMd_areGood_11 : decode (mB Md_areGood) 11 = .ok (.bipush 99, 2) := by decide +kernel
theorem dMd_areGood_13 : decode (mB Md_areGood) 13 = .ok (.invokestatic 158, 3) := by decide +kernel
theorem dMd_areGood_16 : decode (mB Md_areGood) 16 = .ok (.ifCond .eq 17, 3) := by decide +kernel
theorem dMd_areGood_19 : decode (mB Md_areGood) 19 = .ok (.iload_n 2, 1) := by decide +kernel
theorem dMd_areGood_20 : decode (mB Md_areGood) 20 = .ok (.iconst (-1), 1) := by decide +kernel
theorem dMd_areGood_21 : decode (mB Md_areGood) 21 = .ok (.bipush 99, 2) := by decide +kernel
theorem dMd_areGood_23 : decode (mB Md_areGood) 23 = .ok (.invokestatic 158, 3) := by decide +kernel
theorem dMd_areGood_26 : decode (mB Md_areGood) 26 = .ok (.ifCond .eq 7, 3) := by decide +kernel
theorem dMd_areGood_29 : decode (mB Md_areGood) 29 = .ok (.iconst 1, 1) := by decide +kernel
theorem dMd_areGood_30 : decode (mB Md_areGood) 30 = .ok (.goto 4, 3) := by decide +kernel
theorem dMd_areGood_33 : decode (mB Md_areGood) 33 = .ok (.iconst 0, 1) := by decide +kernel
theorem dMd_areGood_34 : decode (mB Md_areGood) 34 = .ok (.ireturn, 1) := by decide +kernel
def w_Md_areGood (x0 : Int32) (x1 : Int32) (x2 : Int32) (h : tpH) (R : Int32 → tpH → Prop) : Prop :=
  w_Md_in x0 (0 : Int32) (5 : Int32) h (fun v2 h1 => (v2 = 0 → (R (0 : Int32) h1)) ∧ (¬ v2 = 0 → (w_Md_in x1 (0 : Int32) (99 : Int32) h1 (fun v5 h4 => (v5 = 0 → (R (0 : Int32) h4)) ∧ (¬ v5 = 0 → (w_Md_in x2 (-1 : Int32) (99 : Int32) h4 (fun v8 h7 => (v8 = 0 → (R (0 : Int32) h7)) ∧ (¬ v8 = 0 → (R (1 : Int32) h7)))))))))
theorem s_Md_areGood {x0 : Int32} {x1 : Int32} {x2 : Int32} {h : tpH} {R : Int32 → tpH → Prop} (hw : w_Md_areGood x0 x1 x2 h R) : tpC Md_areGood 1 [vI x0, vI x1, vI x2] h (tpOi R (fun _ _ => False)) := by
  refine tpC_of ms_Md_areGood.2.2.2.1 rfl rfl (Nat.le_of_ble_eq_true rfl) ?_
  show tpR Md_areGood 1 h _ _ 0 [some (vI x0), some (vI x1), some (vI x2)] [] h
  unfold w_Md_areGood at hw
  refine tq_iload_n dMd_areGood_0 rfl rfl ?_
  refine tq_iconst (v := (0 : Int32)) dMd_areGood_1 tni_0 ?_
  refine tq_iconst (v := (5 : Int32)) dMd_areGood_2 tni_5 ?_
  refine tq_callS ms_Md_in (dc := 0) (as := [vI x0, vI (0 : Int32), vI (5 : Int32)]) (rest := []) kMd_158 (Nat.le_of_ble_eq_true rfl) (Nat.le_of_ble_eq_true rfl) rfl rfl (Nat.le_of_ble_eq_true rfl) dMd_areGood_3 (s_Md_in hw) (fun _ _ hx => False.elim hx) (tk_i fun v2 h1 hw => ?_)
  refine tq_ifeq (tgt := 33) dMd_areGood_6 (by decide) (fun c3 => ?_) (fun c3 => ?_)
  · have hw := hw.1 c3
    refine tq_iconst (v := (0 : Int32)) dMd_areGood_33 tni_0 ?_
    exact tq_iret rfl (by decide) dMd_areGood_34 hw
  · have hw := hw.2 c3
    refine tq_iload_n dMd_areGood_9 rfl rfl ?_
    refine tq_iconst (v := (0 : Int32)) dMd_areGood_10 tni_0 ?_
    refine tq_bipush (v := (99 : Int32)) dMd_areGood_11 tnb_99 ?_
    refine tq_callS ms_Md_in (dc := 0) (as := [vI x1, vI (0 : Int32), vI (99 : Int32)]) (rest := []) kMd_158 (Nat.le_of_ble_eq_true rfl) (Nat.le_of_ble_eq_true rfl) rfl rfl (Nat.le_of_ble_eq_true rfl) dMd_areGood_13 (s_Md_in hw) (fun _ _ hx => False.elim hx) (tk_i fun v5 h4 hw => ?_)
    refine tq_ifeq (tgt := 33) dMd_areGood_16 (by decide) (fun c6 => ?_) (fun c6 => ?_)
    · have hw := hw.1 c6
      refine tq_iconst (v := (0 : Int32)) dMd_areGood_33 tni_0 ?_
      exact tq_iret rfl (by decide) dMd_areGood_34 hw
    · have hw := hw.2 c6
      refine tq_iload_n dMd_areGood_19 rfl rfl ?_
      refine tq_iconst (v := (-1 : Int32)) dMd_areGood_20 tni_m1 ?_
      refine tq_bipush (v := (99 : Int32)) dMd_areGood_21 tnb_99 ?_
      refine tq_callS ms_Md_in (dc := 0) (as := [vI x2, vI (-1 : Int32), vI (99 : Int32)]) (rest := []) kMd_158 (Nat.le_of_ble_eq_true rfl) (Nat.le_of_ble_eq_true rfl) rfl rfl (Nat.le_of_ble_eq_true rfl) dMd_areGood_23 (s_Md_in hw) (fun _ _ hx => False.elim hx) (tk_i fun v8 h7 hw => ?_)
      refine tq_ifeq (tgt := 33) dMd_areGood_26 (by decide) (fun c9 => ?_) (fun c9 => ?_)
      · have hw := hw.1 c9
        refine tq_iconst (v := (0 : Int32)) dMd_areGood_33 tni_0 ?_
        exact tq_iret rfl (by decide) dMd_areGood_34 hw
      · have hw := hw.2 c9
        refine tq_iconst (v := (1 : Int32)) dMd_areGood_29 tni_1 ?_
        refine tq_goto (tgt := 34) dMd_areGood_30 (by decide) ?_
        exact tq_iret rfl (by decide) dMd_areGood_34 hw
/-! TModel.newMark -/
theorem dMd_newMark_0 : decode (mB Md_newMark) 0 = .ok (.aload_n 0, 1) := by decide +kernel
theorem dMd_newMark_1 : decode (mB Md_newMark) 1 = .ok (.getfield 162, 3) := by decide +kernel
theorem dMd_newMark_4 : decode (mB Md_newMark) 4 = .ok (.istore 5, 2) := by decide +kernel
theorem dMd_newMark_6 : decode (mB Md_newMark) 6 = .ok (.aload_n 0, 1) := by decide +kernel
theorem dMd_newMark_7 : decode (mB Md_newMark) 7 = .ok (.getfield 7, 3) := by decide +kernel
theorem dMd_newMark_10 : decode (mB Md_newMark) 10 = .ok (.iload 5, 2) := by decide +kernel
theorem dMd_newMark_12 : decode (mB Md_newMark) 12 = .ok (.iload_n 2, 1) := by decide +kernel
theorem dMd_newMark_13 : decode (mB Md_newMark) 13 = .ok (.iastore, 1) := by decide +kernel
theorem dMd_newMark_14 : decode (mB Md_newMark) 14 = .ok (.aload_n 0, 1) := by decide +kernel
theorem dMd_newMark_15 : decode (mB Md_newMark) 15 = .ok (.getfield 13, 3) := by decide +kernel
theorem dMd_newMark_18 : decode (mB Md_newMark) 18 = .ok (.iload 5, 2) := by decide +kernel
theorem dMd_newMark_20 : decode (mB Md_newMark) 20 = .ok (.iload 4, 2) := by decide +kernel
theorem dMd_newMark_22 : decode (mB Md_newMark) 22 = .ok (.iastore, 1) := by decide +kernel
theorem dMd_newMark_23 : decode (mB Md_newMark) 23 = .ok (.aload_n 0, 1) := by decide +kernel
theorem dMd_newMark_24 : decode (mB Md_newMark) 24 = .ok (.getfield 22, 3) := by decide +kernel
theorem dMd_newMark_27 : decode (mB Md_newMark) 27 = .ok (.sipush 300, 3) := by decide +kernel
theorem dMd_newMark_30 : decode (mB Md_newMark) 30 = .ok (.iload_n 1, 1) := by decide +kernel
theorem dMd_newMark_31 : decode (mB Md_newMark) 31 = .ok (.imul, 1) := by decide +kernel
theorem dMd_newMark_32 : decode (mB Md_newMark) 32 = .ok (.iload 5, 2) := by decide +kernel
theorem dMd_newMark_34 : decode (mB Md_newMark) 34 = .ok (.iadd, 1) := by decide +kernel
theorem dMd_newMark_35 : decode (mB Md_newMark) 35 = .ok (.iload_n 3, 1) := by decide +kernel
theorem dMd_newMark_36 : decode (mB Md_newMark) 36 = .ok (.iastore, 1) := by decide +kernel
theorem dMd_newMark_37 : decode (mB Md_newMark) 37 = .ok (.aload_n 0, 1) := by decide +kernel
theorem dMd_newMark_38 : decode (mB Md_newMark) 38 = .ok (.getfield 25, 3) := by decide +kernel
theorem dMd_newMark_41 : decode (mB Md_newMark) 41 = .ok (.sipush 300, 3) := by decide +kernel
theorem dMd_newMark_44 : decode (mB Md_newMark) 44 = .ok (.iload_n 1, 1) := by decide +kernel
theorem dMd_newMark_45 : decode (mB Md_newMark) 45 = .ok (.imul, 1) := by decide +kernel
theorem dMd_newMark_46 : decode (mB Md_newMark) 46 = .ok (.iload 5, 2) := by decide +kernel
theorem dMd_newMark_48 : decode (mB Md_newMark) 48 = .ok (.iadd, 1) := by decide +kernel
theorem dMd_newMark_49 : decode (mB Md_newMark) 49 = .ok (.iconst (-1), 1) := by decide +kernel
theorem dMd_newMark_50 : decode (mB Md_newMark) 50 = .ok (.iastore, 1) := by decide +kernel
theorem dMd_newMark_51 : decode (mB Md_newMark) 51 = .ok (.aload_n 0, 1) := by decide +kernel
theorem dMd_newMark_52 : decode (mB Md_newMark) 52 = .ok (.getfield 28, 3) := by decide +kernel
theorem dMd_newMark_55 : decode (mB Md_newMark) 55 = .ok (.sipush 300, 3) := by decide +kernel
theorem dMd_newMark_58 : decode (mB Md_newMark) 58 = .ok (.iload_n 1, 1) := by decide +kernel
theorem dMd_newMark_59 : decode (mB Md_newMark) 59 = .ok (.imul, 1) := by decide +kernel
theorem dMd_newMark_60 : decode (mB Md_newMark) 60 = .ok (.iload 5, 2) := by decide +kernel
theorem dMd_newMark_62 : decode (mB Md_newMark) 62 = .ok (.iadd, 1) := by decide +kernel
theorem dMd_newMark_63 : decode (mB Md_newMark) 63 = .ok (.iconst (-1), 1) := by decide +kernel
theorem dMd_newMark_64 : decode (mB Md_newMark) 64 = .ok (.iastore, 1) := by decide +kernel
theorem dMd_newMark_65 : decode (mB Md_newMark) 65 = .ok (.aload_n 0, 1) := by decide +kernel
theorem dMd_newMark_66 : decode (mB Md_newMark) 66 = .ok (.dup, 1) := by decide +kernel
theorem dMd_newMark_67 : decode (mB Md_newMark) 67 = .ok (.getfield 162, 3) := by decide +kernel
theorem dMd_newMark_70 : decode (mB Md_newMark) 70 = .ok (.iconst 1, 1) := by decide +kernel
theorem dMd_newMark_71 : decode (mB Md_newMark) 71 = .ok (.iadd, 1) := by decide +kernel
theorem dMd_newMark_72 : decode (mB Md_newMark) 72 = .ok (.putfield 162, 3) := by decide +kernel
theorem dMd_newMark_75 : decode (mB Md_newMark) 75 = .ok (.iload 5, 2) := by decide +kernel
theorem dMd_newMark_77 : decode (mB Md_newMark) 77 = .ok (.ireturn, 1) := by decide +kernel
def w_Md_newMark (o : Nat) (x1 : Int32) (x2 : Int32) (x3 : Int32) (x4 : Int32) (h : tpH) (R : Int32 → tpH → Prop) : Prop :=
  hT h o = 14 ∧ (∃ a2, (hR h o 1) = some a2 ∧ hT h a2 = 15 ∧ (vp_in (hI h o 0) (hL h a2) ∧ (∀ h6, h6 = sI h a2 (hI h o 0).toNatClampNeg x2 → (∃ a8, (hR h6 o 2) = some a8 ∧ hT h6 a8 = 15 ∧ (vp_in (hI h o 0) (hL h6 a8) ∧ (∀ h12, h12 = sI h6 a8 (hI h o 0).toNatClampNeg x4 → (∃ a14, (hR h12 o 7) = some a14 ∧ hT h12 a14 = 15 ∧ (vp_in (((300 : Int32) * x1) + (hI h o 0)) (hL h12 a14) ∧ (∀ h18, h18 = sI h12 a14 (((300 : Int32) * x1) + (hI h o 0)).toNatClampNeg x3 → (∃ a20, (hR h18 o 8) = some a20 ∧ hT h18 a20 = 15 ∧ (vp_in (((300 : Int32) * x1) + (hI h o 0)) (hL h18 a20) ∧ (∀ h24, h24 = sI h18 a20 (((300 : Int32) * x1) + (hI h o 0)).toNatClampNeg (-1 : Int32) → (∃ a26, (hR h24 o 9) = some a26 ∧ hT h24 a26 = 15 ∧ (vp_in (((300 : Int32) * x1) + (hI h o 0)) (hL h24 a26) ∧ (∀ h30, h30 = sI h24 a26 (((300 : Int32) * x1) + (hI h o 0)).toNatClampNeg (-1 : Int32) → (∀ h32, h32 = sI h30 o 0 ((hI h30 o 0) + (1 : Int32)) → (R (hI h o 0) h32)))))))))))))))))
theorem s_Md_newMark {o : Nat} {x1 : Int32} {x2 : Int32} {x3 : Int32} {x4 : Int32} {h : tpH} {R : Int32 → tpH → Prop} (hw : w_Md_newMark o x1 x2 x3 x4 h R) : tpC Md_newMark 0 [vR (some o), vI x1, vI x2, vI x3, vI x4] h (tpOi R (fun _ _ => False)) := by
  refine tpC_of mv_Md_newMark.2.2.2.1 rfl rfl (Nat.le_of_ble_eq_true rfl) ?_
  show tpR Md_newMark 0 h _ _ 0 [some (vR (some o)), some (vI x1), some (vI x2), some (vI x3), some (vI x4), none] [] h
  unfold w_Md_newMark at hw
  refine tq_aload_n dMd_newMark_0 rfl rfl ?_
  obtain ⟨f1, hw⟩ := hw
  refine te_geti dMd_newMark_1 fMd_162 rfl rfl f1 ?_
  refine tq_istore (ls' := [some (vR (some o)), some (vI x1), some (vI x2), some (vI x3), some (vI x4), some (vI (hI h o 0))]) dMd_newMark_4 (Nat.le_of_ble_eq_true rfl) rfl ?_
  refine tq_aload_n dMd_newMark_6 rfl rfl ?_
  refine te_getr dMd_newMark_7 fMd_7 rfl rfl f1 ?_
  refine tq_iload dMd_newMark_10 rfl ?_
  refine tq_iload_n dMd_newMark_12 rfl rfl ?_
  obtain ⟨a2, e3, f4, hw⟩ := hw
  obtain ⟨f5, hw⟩ := hw
  refine te_iast dMd_newMark_13 e3 f4 f5 (fun h6 e7 => ?_)
  have hw := hw h6 e7
  refine tq_aload_n dMd_newMark_14 rfl rfl ?_
  refine te_getr dMd_newMark_15 fMd_13 rfl rfl (by rw [e7]; exact f1) ?_
  refine tq_iload dMd_newMark_18 rfl ?_
  refine tq_iload dMd_newMark_20 rfl ?_
  obtain ⟨a8, e9, f10, hw⟩ := hw
  obtain ⟨f11, hw⟩ := hw
  refine te_iast dMd_newMark_22 e9 f10 f11 (fun h12 e13 => ?_)
  have hw := hw h12 e13
  refine tq_aload_n dMd_newMark_23 rfl rfl ?_
  refine te_getr dMd_newMark_24 fMd_22 rfl rfl (by rw [e13]; exact (by rw [e7]; exact f1)) ?_
  refine tq_sipush (v := (300 : Int32)) dMd_newMark_27 tns_300 ?_
  refine tq_iload_n dMd_newMark_30 rfl rfl ?_
  refine tq_imul dMd_newMark_31 ?_
  refine tq_iload dMd_newMark_32 rfl ?_
  refine tq_iadd dMd_newMark_34 ?_
  refine tq_iload_n dMd_newMark_35 rfl rfl ?_
  obtain ⟨a14, e15, f16, hw⟩ := hw
  obtain ⟨f17, hw⟩ := hw
  refine te_iast dMd_newMark_36 e15 f16 f17 (fun h18 e19 => ?_)
  have hw := hw h18 e19
  refine tq_aload_n dMd_newMark_37 rfl rfl ?_
  refine te_getr dMd_newMark_38 fMd_25 rfl rfl (by rw [e19]; exact (by rw [e13]; exact (by rw [e7]; exact f1))) ?_
  refine tq_sipush (v := (300 : Int32)) dMd_newMark_41 tns_300 ?_
  refine tq_iload_n dMd_newMark_44 rfl rfl ?_
  refine tq_imul dMd_newMark_45 ?_
  refine tq_iload dMd_newMark_46 rfl ?_
  refine tq_iadd dMd_newMark_48 ?_
  refine tq_iconst (v := (-1 : Int32)) dMd_newMark_49 tni_m1 ?_
  obtain ⟨a20, e21, f22, hw⟩ := hw
  obtain ⟨f23, hw⟩ := hw
  refine te_iast dMd_newMark_50 e21 f22 f23 (fun h24 e25 => ?_)
  have hw := hw h24 e25
  refine tq_aload_n dMd_newMark_51 rfl rfl ?_
  refine te_getr dMd_newMark_52 fMd_28 rfl rfl (by rw [e25]; exact (by rw [e19]; exact (by rw [e13]; exact (by rw [e7]; exact f1)))) ?_
  refine tq_sipush (v := (300 : Int32)) dMd_newMark_55 tns_300 ?_
  refine tq_iload_n dMd_newMark_58 rfl rfl ?_
  refine tq_imul dMd_newMark_59 ?_
  refine tq_iload dMd_newMark_60 rfl ?_
  refine tq_iadd dMd_newMark_62 ?_
  refine tq_iconst (v := (-1 : Int32)) dMd_newMark_63 tni_m1 ?_
  obtain ⟨a26, e27, f28, hw⟩ := hw
  obtain ⟨f29, hw⟩ := hw
  refine te_iast dMd_newMark_64 e27 f28 f29 (fun h30 e31 => ?_)
  have hw := hw h30 e31
  refine tq_aload_n dMd_newMark_65 rfl rfl ?_
  refine tq_dup dMd_newMark_66 rfl ?_
  refine te_geti dMd_newMark_67 fMd_162 rfl rfl (by rw [e31]; exact (by rw [e25]; exact (by rw [e19]; exact (by rw [e13]; exact (by rw [e7]; exact f1))))) ?_
  refine tq_iconst (v := (1 : Int32)) dMd_newMark_70 tni_1 ?_
  refine tq_iadd dMd_newMark_71 ?_
  refine te_puti dMd_newMark_72 pMd_162 rfl rfl rfl (by rw [e31]; exact (by rw [e25]; exact (by rw [e19]; exact (by rw [e13]; exact (by rw [e7]; exact f1))))) ⟨rfl, rfl⟩ (fun h32 e33 => ?_)
  have hw := hw h32 e33
  refine tq_iload dMd_newMark_75 rfl ?_
  exact tq_iret rfl rfl dMd_newMark_77 hw
/-! TModel.begin -/
theorem dMd_begin_0 : decode (mB Md_begin) 0 = .ok (.aload_n 0, 1) := by decide +kernel
theorem dMd_begin_1 : decode (mB Md_begin) 1 = .ok (.iload_n 1, 1) := by decide +kernel
theorem dMd_begin_2 : decode (mB Md_begin) 2 = .ok (.iload_n 2, 1) := by decide +kernel
theorem dMd_begin_3 : decode (mB Md_begin) 3 = .ok (.iload_n 3, 1) := by decide +kernel
theorem dMd_begin_4 : decode (mB Md_begin) 4 = .ok (.invokestatic 186, 3) := by decide +kernel
theorem dMd_begin_7 : decode (mB Md_begin) 7 = .ok (.ifCond .ne 7, 3) := by decide +kernel
theorem dMd_begin_10 : decode (mB Md_begin) 10 = .ok (.iconst 1, 1) := by decide +kernel
theorem dMd_begin_11 : decode (mB Md_begin) 11 = .ok (.goto 18, 3) := by decide +kernel
theorem dMd_begin_14 : decode (mB Md_begin) 14 = .ok (.aload_n 0, 1) := by decide +kernel
theorem dMd_begin_15 : decode (mB Md_begin) 15 = .ok (.getfield 162, 3) := by decide +kernel
theorem dMd_begin_18 : decode (mB Md_begin) 18 = .ok (.sipush 300, 3) := by decide +kernel
theorem dMd_begin_21 : decode (mB Md_begin) 21 = .ok (.if_icmp .ne 7, 3) := by decide +kernel
theorem dMd_begin_24 : decode (mB Md_begin) 24 = .ok (.iconst 2, 1) := by decide +kernel
theorem dMd_begin_25 : decode (mB Md_begin) 25 = .ok (.goto 4, 3) := by decide +kernel
theorem dMd_begin_28 : decode (mB Md_begin) 28 = .ok (.iconst 0, 1) := by decide +kernel
theorem dMd_begin_29 : decode (mB Md_begin) 29 = .ok (.putfield 151, 3) := by decide +kernel
theorem dMd_begin_32 : decode (mB Md_begin) 32 = .ok (.aload_n 0, 1) := by decide +kernel
theorem dMd_begin_33 : decode (mB Md_begin) 33 = .ok (.getfield 151, 3) := by decide +kernel
theorem dMd_begin_36 : decode (mB Md_begin) 36 = .ok (.ifCond .le 5, 3) := by decide +kernel
theorem dMd_begin_39 : decode (mB Md_begin) 39 = .ok (.iconst 0, 1) := by decide +kernel
theorem dMd_begin_40 : decode (mB Md_begin) 40 = .ok (.ireturn, 1) := by decide +kernel
theorem dMd_begin_41 : decode (mB Md_begin) 41 = .ok (.aload_n 0, 1) := by decide +kernel
theorem dMd_begin_42 : decode (mB Md_begin) 42 = .ok (.bipush 40, 2) := by decide +kernel
theorem dMd_begin_44 : decode (mB Md_begin) 44 = .ok (.invokevirtual 189, 3) := by decide +kernel
theorem dMd_begin_47 : decode (mB Md_begin) 47 = .ok (.aload_n 0, 1) := by decide +kernel
theorem dMd_begin_48 : decode (mB Md_begin) 48 = .ok (.iconst 1, 1) := by decide +kernel
theorem dMd_begin_49 : decode (mB Md_begin) 49 = .ok (.putfield 193, 3) := by decide +kernel
theorem dMd_begin_52 : decode (mB Md_begin) 52 = .ok (.aload_n 0, 1) := by decide +kernel
theorem dMd_begin_53 : decode (mB Md_begin) 53 = .ok (.bipush 40, 2) := by decide +kernel
theorem dMd_begin_55 : decode (mB Md_begin) 55 = .ok (.iload_n 1, 1) := by decide +kernel
theorem dMd_begin_56 : decode (mB Md_begin) 56 = .ok (.iload_n 2, 1) := by decide +kernel
theorem dMd_begin_57 : decode (mB Md_begin) 57 = .ok (.iload_n 3, 1) := by decide +kernel
theorem dMd_begin_58 : decode (mB Md_begin) 58 = .ok (.invokevirtual 197, 3) := by decide +kernel
theorem dMd_begin_61 : decode (mB Md_begin) 61 = .ok (.istore 4, 2) := by decide +kernel
theorem dMd_begin_63 : decode (mB Md_begin) 63 = .ok (.aload_n 0, 1) := by decide +kernel
theorem dMd_begin_64 : decode (mB Md_begin) 64 = .ok (.getfield 19, 3) := by decide +kernel
theorem dMd_begin_67 : decode (mB Md_begin) 67 = .ok (.sipush 12000, 3) := by decide +kernel
theorem dMd_begin_70 : decode (mB Md_begin) 70 = .ok (.iload 4, 2) := by decide +kernel
theorem dMd_begin_72 : decode (mB Md_begin) 72 = .ok (.iadd, 1) := by decide +kernel
theorem dMd_begin_73 : decode (mB Md_begin) 73 = .ok (.iconst (-1), 1) := by decide +kernel
theorem dMd_begin_74 : decode (mB Md_begin) 74 = .ok (.iastore, 1) := by decide +kernel
theorem dMd_begin_75 : decode (mB Md_begin) 75 = .ok (.aload_n 0, 1) := by decide +kernel
theorem dMd_begin_76 : decode (mB Md_begin) 76 = .ok (.getfield 16, 3) := by decide +kernel
theorem dMd_begin_79 : decode (mB Md_begin) 79 = .ok (.bipush 40, 2) := by decide +kernel
theorem dMd_begin_81 : decode (mB Md_begin) 81 = .ok (.iload 4, 2) := by decide +kernel
theorem dMd_begin_83 : decode (mB Md_begin) 83 = .ok (.iastore, 1) := by decide +kernel
theorem dMd_begin_84 : decode (mB Md_begin) 84 = .ok (.iload 4, 2) := by decide +kernel
theorem dMd_begin_86 : decode (mB Md_begin) 86 = .ok (.ireturn, 1) := by decide +kernel
def w_Md_begin_29 (R : Int32 → tpH → Prop) (o : Nat) (x1 : Int32) (x2 : Int32) (x3 : Int32) (t0 : Int32) (t1 : Option Nat) (h : tpH) : Prop :=
  ∃ a1, t1 = some a1 ∧ hT h a1 = 14 ∧ (∀ h4, h4 = sI h a1 31 t0 → (hT h4 o = 14 ∧ (((hI h4 o 31) ≤ 0 → (w_Md_clear o (40 : Int32) h4 (fun h8 => hT h8 o = 14 ∧ (∀ h10, h10 = sI h8 o 4 (1 : Int32) → (w_Md_newMark o (40 : Int32) x1 x2 x3 h10 (fun v13 h12 => hT h12 o = 14 ∧ (∃ a15, (hR h12 o 6) = some a15 ∧ hT h12 a15 = 15 ∧ (vp_in ((12000 : Int32) + v13) (hL h12 a15) ∧ (∀ h19, h19 = sI h12 a15 ((12000 : Int32) + v13).toNatClampNeg (-1 : Int32) → (∃ a21, (hR h19 o 5) = some a21 ∧ hT h19 a21 = 15 ∧ (vp_in (40 : Int32) (hL h19 a21) ∧ (∀ h25, h25 = sI h19 a21 (40 : Int32).toNatClampNeg v13 → (R v13 h25))))))))))))) ∧ (¬ (hI h4 o 31) ≤ 0 → (R (0 : Int32) h4)))))
def w_Md_begin (o : Nat) (x1 : Int32) (x2 : Int32) (x3 : Int32) (h : tpH) (R : Int32 → tpH → Prop) : Prop :=
  w_Md_areGood x1 x2 x3 h (fun v2 h1 => (¬ v2 = 0 → (hT h1 o = 14 ∧ ((¬ (hI h1 o 0) = (300 : Int32) → (w_Md_begin_29 R o x1 x2 x3 (0 : Int32) (some o) h1)) ∧ ((hI h1 o 0) = (300 : Int32) → (w_Md_begin_29 R o x1 x2 x3 (2 : Int32) (some o) h1))))) ∧ (v2 = 0 → (w_Md_begin_29 R o x1 x2 x3 (1 : Int32) (some o) h1)))
theorem s_Md_begin_29 {h0 : tpH} {av : List tpV} {R : Int32 → tpH → Prop} : ∀ (o : Nat) (x1 : Int32) (x2 : Int32) (x3 : Int32) (t0 : Int32) (t1 : Option Nat) (h : tpH), w_Md_begin_29 R o x1 x2 x3 t0 t1 h → tpR Md_begin 2 h0 av (tpOi R (fun _ _ => False)) 29 [some (vR (some o)), some (vI x1), some (vI x2), some (vI x3), none] [vI t0, vR t1] h := by
  intro o x1 x2 x3 t0 t1 h hw
  unfold w_Md_begin_29 at hw
  obtain ⟨a1, e2, f3, hw⟩ := hw
  refine te_puti dMd_begin_29 pMd_151 rfl rfl e2 f3 ⟨rfl, rfl⟩ (fun h4 e5 => ?_)
  have hw := hw h4 e5
  refine tq_aload_n dMd_begin_32 rfl rfl ?_
  obtain ⟨f6, hw⟩ := hw
  refine te_geti dMd_begin_33 fMd_151 rfl rfl f6 ?_
  refine tq_ifle (tgt := 41) dMd_begin_36 (by decide) (fun c7 => ?_) (fun c7 => ?_)
  · have hw := hw.1 c7
    refine tq_aload_n dMd_begin_41 rfl rfl ?_
    refine tq_bipush (v := (40 : Int32)) dMd_begin_42 tnb_40 ?_
    refine te_callV mv_Md_clear (ci := 13) (dc := 0) (as := [vI (40 : Int32)]) (rest := []) kMd_189 rfl (Nat.le_of_ble_eq_true rfl) (Nat.le_of_ble_eq_true rfl) rfl rfl rfl f6 (Nat.le_of_ble_eq_true rfl) dMd_begin_44 (s_Md_clear hw) (fun _ _ hx => False.elim hx) (tk_v fun h8 hw => ?_)
    refine tq_aload_n dMd_begin_47 rfl rfl ?_
    refine tq_iconst (v := (1 : Int32)) dMd_begin_48 tni_1 ?_
    obtain ⟨f9, hw⟩ := hw
    refine te_puti dMd_begin_49 pMd_193 rfl rfl rfl f9 (by decide) (fun h10 e11 => ?_)
    have hw := hw h10 e11
    refine tq_aload_n dMd_begin_52 rfl rfl ?_
    refine tq_bipush (v := (40 : Int32)) dMd_begin_53 tnb_40 ?_
    refine tq_iload_n dMd_begin_55 rfl rfl ?_
    refine tq_iload_n dMd_begin_56 rfl rfl ?_
    refine tq_iload_n dMd_begin_57 rfl rfl ?_
    refine te_callV mv_Md_newMark (ci := 13) (dc := 0) (as := [vI (40 : Int32), vI x1, vI x2, vI x3]) (rest := []) kMd_197 rfl (Nat.le_of_ble_eq_true rfl) (Nat.le_of_ble_eq_true rfl) rfl rfl rfl (by rw [e11]; exact f9) (Nat.le_of_ble_eq_true rfl) dMd_begin_58 (s_Md_newMark hw) (fun _ _ hx => False.elim hx) (tk_i fun v13 h12 hw => ?_)
    refine tq_istore (ls' := [some (vR (some o)), some (vI x1), some (vI x2), some (vI x3), some (vI v13)]) dMd_begin_61 (Nat.le_of_ble_eq_true rfl) rfl ?_
    refine tq_aload_n dMd_begin_63 rfl rfl ?_
    obtain ⟨f14, hw⟩ := hw
    refine te_getr dMd_begin_64 fMd_19 rfl rfl f14 ?_
    refine tq_sipush (v := (12000 : Int32)) dMd_begin_67 tns_12000 ?_
    refine tq_iload dMd_begin_70 rfl ?_
    refine tq_iadd dMd_begin_72 ?_
    refine tq_iconst (v := (-1 : Int32)) dMd_begin_73 tni_m1 ?_
    obtain ⟨a15, e16, f17, hw⟩ := hw
    obtain ⟨f18, hw⟩ := hw
    refine te_iast dMd_begin_74 e16 f17 f18 (fun h19 e20 => ?_)
    have hw := hw h19 e20
    refine tq_aload_n dMd_begin_75 rfl rfl ?_
    refine te_getr dMd_begin_76 fMd_16 rfl rfl (by rw [e20]; exact f14) ?_
    refine tq_bipush (v := (40 : Int32)) dMd_begin_79 tnb_40 ?_
    refine tq_iload dMd_begin_81 rfl ?_
    obtain ⟨a21, e22, f23, hw⟩ := hw
    obtain ⟨f24, hw⟩ := hw
    refine te_iast dMd_begin_83 e22 f23 f24 (fun h25 e26 => ?_)
    have hw := hw h25 e26
    refine tq_iload dMd_begin_84 rfl ?_
    exact tq_iret rfl rfl dMd_begin_86 hw
  · have hw := hw.2 c7
    refine tq_iconst (v := (0 : Int32)) dMd_begin_39 tni_0 ?_
    exact tq_iret rfl rfl dMd_begin_40 hw
theorem s_Md_begin {o : Nat} {x1 : Int32} {x2 : Int32} {x3 : Int32} {h : tpH} {R : Int32 → tpH → Prop} (hw : w_Md_begin o x1 x2 x3 h R) : tpC Md_begin 2 [vR (some o), vI x1, vI x2, vI x3] h (tpOi R (fun _ _ => False)) := by
  refine tpC_of mv_Md_begin.2.2.2.1 rfl rfl (Nat.le_of_ble_eq_true rfl) ?_
  show tpR Md_begin 2 h _ _ 0 [some (vR (some o)), some (vI x1), some (vI x2), some (vI x3), none] [] h
  unfold w_Md_begin at hw
  refine tq_aload_n dMd_begin_0 rfl rfl ?_
  refine tq_iload_n dMd_begin_1 rfl rfl ?_
  refine tq_iload_n dMd_begin_2 rfl rfl ?_
  refine tq_iload_n dMd_begin_3 rfl rfl ?_
  refine tq_callS ms_Md_areGood (dc := 1) (as := [vI x1, vI x2, vI x3]) (rest := [vR (some o)]) kMd_186 (Nat.le_of_ble_eq_true rfl) (Nat.le_of_ble_eq_true rfl) rfl rfl (Nat.le_of_ble_eq_true rfl) dMd_begin_4 (s_Md_areGood hw) (fun _ _ hx => False.elim hx) (tk_i fun v2 h1 hw => ?_)
  refine tq_ifne (tgt := 14) dMd_begin_7 (by decide) (fun c3 => ?_) (fun c3 => ?_)
  · have hw := hw.1 c3
    refine tq_aload_n dMd_begin_14 rfl rfl ?_
    obtain ⟨f4, hw⟩ := hw
    refine te_geti dMd_begin_15 fMd_162 rfl rfl f4 ?_
    refine tq_sipush (v := (300 : Int32)) dMd_begin_18 tns_300 ?_
    refine tq_icmpne (tgt := 28) dMd_begin_21 (by decide) (fun c5 => ?_) (fun c5 => ?_)
    · have hw := hw.1 c5
      refine tq_iconst (v := (0 : Int32)) dMd_begin_28 tni_0 ?_
      refine tpR.fo (ls' := [some (vR (some o)), some (vI x1), some (vI x2), some (vI x3), none]) ?_ (And.intro rfl (And.intro rfl (And.intro rfl (And.intro rfl trivial))))
      exact s_Md_begin_29 _ _ _ _ _ _ _ hw
    · have hw := hw.2 c5
      refine tq_iconst (v := (2 : Int32)) dMd_begin_24 tni_2 ?_
      refine tq_goto (tgt := 29) dMd_begin_25 (by decide) ?_
      refine tpR.fo (ls' := [some (vR (some o)), some (vI x1), some (vI x2), some (vI x3), none]) ?_ (And.intro rfl (And.intro rfl (And.intro rfl (And.intro rfl trivial))))
      exact s_Md_begin_29 _ _ _ _ _ _ _ hw
  · have hw := hw.2 c3
    refine tq_iconst (v := (1 : Int32)) dMd_begin_10 tni_1 ?_
    refine tq_goto (tgt := 29) dMd_begin_11 (by decide) ?_
    refine tpR.fo (ls' := [some (vR (some o)), some (vI x1), some (vI x2), some (vI x3), none]) ?_ (And.intro rfl (And.intro rfl (And.intro rfl (And.intro rfl trivial))))
    exact s_Md_begin_29 _ _ _ _ _ _ _ hw
/-! TModel.copy -/
theorem dMd_copy_0 : decode (mB Md_copy) 0 = .ok (.aload_n 0, 1) := by decide +kernel
theorem dMd_copy_1 : decode (mB Md_copy) 1 = .ok (.aload_n 0, 1) := by decide +kernel
theorem dMd_copy_2 : decode (mB Md_copy) 2 = .ok (.iload_n 1, 1) := by decide +kernel
theorem dMd_copy_3 : decode (mB Md_copy) 3 = .ok (.invokevirtual 201, 3) := by decide +kernel
theorem dMd_copy_6 : decode (mB Md_copy) 6 = .ok (.ifCond .eq 7, 3) := by decide +kernel
theorem dMd_copy_9 : decode (mB Md_copy) 9 = .ok (.iconst 0, 1) := by decide +kernel
theorem dMd_copy_10 : decode (mB Md_copy) 10 = .ok (.goto 4, 3) := by decide +kernel
theorem dMd_copy_13 : decode (mB Md_copy) 13 = .ok (.iconst 1, 1) := by decide +kernel
theorem dMd_copy_14 : decode (mB Md_copy) 14 = .ok (.putfield 151, 3) := by decide +kernel
theorem dMd_copy_17 : decode (mB Md_copy) 17 = .ok (.aload_n 0, 1) := by decide +kernel
theorem dMd_copy_18 : decode (mB Md_copy) 18 = .ok (.getfield 151, 3) := by decide +kernel
theorem dMd_copy_21 : decode (mB Md_copy) 21 = .ok (.ifCond .le 5, 3) := by decide +kernel
theorem dMd_copy_24 : decode (mB Md_copy) 24 = .ok (.iconst 0, 1) := by decide +kernel
theorem dMd_copy_25 : decode (mB Md_copy) 25 = .ok (.ireturn, 1) := by decide +kernel
theorem dMd_copy_26 : decode (mB Md_copy) 26 = .ok (.aload_n 0, 1) := by decide +kernel
theorem dMd_copy_27 : decode (mB Md_copy) 27 = .ok (.iload_n 1, 1) := by decide +kernel
theorem dMd_copy_28 : decode (mB Md_copy) 28 = .ok (.bipush 40, 2) := by decide +kernel
theorem dMd_copy_30 : decode (mB Md_copy) 30 = .ok (.invokevirtual 204, 3) := by decide +kernel
theorem dMd_copy_33 : decode (mB Md_copy) 33 = .ok (.aload_n 0, 1) := by decide +kernel
theorem dMd_copy_34 : decode (mB Md_copy) 34 = .ok (.iconst 1, 1) := by decide +kernel
theorem dMd_copy_35 : decode (mB Md_copy) 35 = .ok (.putfield 193, 3) := by decide +kernel
theorem dMd_copy_38 : decode (mB Md_copy) 38 = .ok (.aload_n 0, 1) := by decide +kernel
theorem dMd_copy_39 : decode (mB Md_copy) 39 = .ok (.bipush 40, 2) := by decide +kernel
theorem dMd_copy_41 : decode (mB Md_copy) 41 = .ok (.aload_n 0, 1) := by decide +kernel
theorem dMd_copy_42 : decode (mB Md_copy) 42 = .ok (.getfield 83, 3) := by decide +kernel
theorem dMd_copy_45 : decode (mB Md_copy) 45 = .ok (.invokevirtual 208, 3) := by decide +kernel
theorem dMd_copy_48 : decode (mB Md_copy) 48 = .ok (.ireturn, 1) := by decide +kernel
def w_Md_copy_14 (R : Int32 → tpH → Prop) (o : Nat) (x1 : Int32) (t0 : Int32) (t1 : Option Nat) (h : tpH) : Prop :=
  ∃ a1, t1 = some a1 ∧ hT h a1 = 14 ∧ (∀ h4, h4 = sI h a1 31 t0 → (hT h4 o = 14 ∧ (((hI h4 o 31) ≤ 0 → (w_Md_copyTree o x1 (40 : Int32) h4 (fun h8 => hT h8 o = 14 ∧ (∀ h10, h10 = sI h8 o 4 (1 : Int32) → (w_Md_layOrder o (40 : Int32) (hR h10 o 32) h10 (fun v13 h12 => R v13 h12)))))) ∧ (¬ (hI h4 o 31) ≤ 0 → (R (0 : Int32) h4)))))
def w_Md_copy (o : Nat) (x1 : Int32) (h : tpH) (R : Int32 → tpH → Prop) : Prop :=
  hT h o = 14 ∧ (w_Md_isTree o x1 h (fun v3 h2 => (v3 = 0 → (w_Md_copy_14 R o x1 (1 : Int32) (some o) h2)) ∧ (¬ v3 = 0 → (w_Md_copy_14 R o x1 (0 : Int32) (some o) h2))))
theorem s_Md_copy_14 {h0 : tpH} {av : List tpV} {R : Int32 → tpH → Prop} : ∀ (o : Nat) (x1 : Int32) (t0 : Int32) (t1 : Option Nat) (h : tpH), w_Md_copy_14 R o x1 t0 t1 h → tpR Md_copy 2 h0 av (tpOi R (fun _ _ => False)) 14 [some (vR (some o)), some (vI x1)] [vI t0, vR t1] h := by
  intro o x1 t0 t1 h hw
  unfold w_Md_copy_14 at hw
  obtain ⟨a1, e2, f3, hw⟩ := hw
  refine te_puti dMd_copy_14 pMd_151 rfl rfl e2 f3 ⟨rfl, rfl⟩ (fun h4 e5 => ?_)
  have hw := hw h4 e5
  refine tq_aload_n dMd_copy_17 rfl rfl ?_
  obtain ⟨f6, hw⟩ := hw
  refine te_geti dMd_copy_18 fMd_151 rfl rfl f6 ?_
  refine tq_ifle (tgt := 26) dMd_copy_21 (by decide) (fun c7 => ?_) (fun c7 => ?_)
  · have hw := hw.1 c7
    refine tq_aload_n dMd_copy_26 rfl rfl ?_
    refine tq_iload_n dMd_copy_27 rfl rfl ?_
    refine tq_bipush (v := (40 : Int32)) dMd_copy_28 tnb_40 ?_
    refine te_callV mv_Md_copyTree (ci := 13) (dc := 0) (as := [vI x1, vI (40 : Int32)]) (rest := []) kMd_204 rfl (Nat.le_of_ble_eq_true rfl) (Nat.le_of_ble_eq_true rfl) rfl rfl rfl f6 (Nat.le_of_ble_eq_true rfl) dMd_copy_30 (s_Md_copyTree hw) (fun _ _ hx => False.elim hx) (tk_v fun h8 hw => ?_)
    refine tq_aload_n dMd_copy_33 rfl rfl ?_
    refine tq_iconst (v := (1 : Int32)) dMd_copy_34 tni_1 ?_
    obtain ⟨f9, hw⟩ := hw
    refine te_puti dMd_copy_35 pMd_193 rfl rfl rfl f9 (by decide) (fun h10 e11 => ?_)
    have hw := hw h10 e11
    refine tq_aload_n dMd_copy_38 rfl rfl ?_
    refine tq_bipush (v := (40 : Int32)) dMd_copy_39 tnb_40 ?_
    refine tq_aload_n dMd_copy_41 rfl rfl ?_
    refine te_getr dMd_copy_42 fMd_83 rfl rfl (by rw [e11]; exact f9) ?_
    refine te_callV mv_Md_layOrder (ci := 13) (dc := 1) (as := [vI (40 : Int32), vR (hR h10 o 32)]) (rest := []) kMd_208 rfl (Nat.le_of_ble_eq_true rfl) (Nat.le_of_ble_eq_true rfl) rfl rfl rfl (by rw [e11]; exact f9) (Nat.le_of_ble_eq_true rfl) dMd_copy_45 (s_Md_layOrder hw) (fun _ _ hx => False.elim hx) (tk_i fun v13 h12 hw => ?_)
    exact tq_iret rfl rfl dMd_copy_48 hw
  · have hw := hw.2 c7
    refine tq_iconst (v := (0 : Int32)) dMd_copy_24 tni_0 ?_
    exact tq_iret rfl rfl dMd_copy_25 hw
theorem s_Md_copy {o : Nat} {x1 : Int32} {h : tpH} {R : Int32 → tpH → Prop} (hw : w_Md_copy o x1 h R) : tpC Md_copy 2 [vR (some o), vI x1] h (tpOi R (fun _ _ => False)) := by
  refine tpC_of mv_Md_copy.2.2.2.1 rfl rfl (Nat.le_of_ble_eq_true rfl) ?_
  show tpR Md_copy 2 h _ _ 0 [some (vR (some o)), some (vI x1)] [] h
  unfold w_Md_copy at hw
  refine tq_aload_n dMd_copy_0 rfl rfl ?_
  refine tq_aload_n dMd_copy_1 rfl rfl ?_
  refine tq_iload_n dMd_copy_2 rfl rfl ?_
  obtain ⟨f1, hw⟩ := hw
  refine te_callV mv_Md_isTree (ci := 13) (dc := 1) (as := [vI x1]) (rest := [vR (some o)]) kMd_201 rfl (Nat.le_of_ble_eq_true rfl) (Nat.le_of_ble_eq_true rfl) rfl rfl rfl f1 (Nat.le_of_ble_eq_true rfl) dMd_copy_3 (s_Md_isTree hw) (fun _ _ hx => False.elim hx) (tk_i fun v3 h2 hw => ?_)
  refine tq_ifeq (tgt := 13) dMd_copy_6 (by decide) (fun c4 => ?_) (fun c4 => ?_)
  · have hw := hw.1 c4
    refine tq_iconst (v := (1 : Int32)) dMd_copy_13 tni_1 ?_
    refine tpR.fo (ls' := [some (vR (some o)), some (vI x1)]) ?_ (And.intro rfl (And.intro rfl trivial))
    exact s_Md_copy_14 _ _ _ _ _ hw
  · have hw := hw.2 c4
    refine tq_iconst (v := (0 : Int32)) dMd_copy_9 tni_0 ?_
    refine tq_goto (tgt := 14) dMd_copy_10 (by decide) ?_
    refine tpR.fo (ls' := [some (vR (some o)), some (vI x1)]) ?_ (And.intro rfl (And.intro rfl trivial))
    exact s_Md_copy_14 _ _ _ _ _ hw
/-! TModel.aheadOf -/
theorem dMd_aheadOf_0 : decode (mB Md_aheadOf) 0 = .ok (.iconst (-1), 1) := by decide +kernel
theorem dMd_aheadOf_1 : decode (mB Md_aheadOf) 1 = .ok (.istore_n 3, 1) := by decide +kernel
theorem dMd_aheadOf_2 : decode (mB Md_aheadOf) 2 = .ok (.aload_n 0, 1) := by decide +kernel
theorem dMd_aheadOf_3 : decode (mB Md_aheadOf) 3 = .ok (.bipush 40, 2) := by decide +kernel
theorem dMd_aheadOf_5 : decode (mB Md_aheadOf) 5 = .ok (.iload_n 1, 1) := by decide +kernel
theorem dMd_aheadOf_6 : decode (mB Md_aheadOf) 6 = .ok (.invokevirtual 173, 3) := by decide +kernel
theorem dMd_aheadOf_9 : decode (mB Md_aheadOf) 9 = .ok (.istore 4, 2) := by decide +kernel
theorem dMd_aheadOf_11 : decode (mB Md_aheadOf) 11 = .ok (.iconst 0, 1) := by decide +kernel
theorem dMd_aheadOf_12 : decode (mB Md_aheadOf) 12 = .ok (.istore 5, 2) := by decide +kernel
theorem dMd_aheadOf_14 : decode (mB Md_aheadOf) 14 = .ok (.iload 5, 2) := by decide +kernel
theorem dMd_aheadOf_16 : decode (mB Md_aheadOf) 16 = .ok (.iload_n 2, 1) := by decide +kernel
theorem dMd_aheadOf_17 : decode (mB Md_aheadOf) 17 = .ok (.if_icmp .ge 22, 3) := by decide +kernel
theorem dMd_aheadOf_20 : decode (mB Md_aheadOf) 20 = .ok (.iload 4, 2) := by decide +kernel
theorem dMd_aheadOf_22 : decode (mB Md_aheadOf) 22 = .ok (.istore_n 3, 1) := by decide +kernel
theorem dMd_aheadOf_23 : decode (mB Md_aheadOf) 23 = .ok (.aload_n 0, 1) := by decide +kernel
theorem dMd_aheadOf_24 : decode (mB Md_aheadOf) 24 = .ok (.bipush 40, 2) := by decide +kernel
theorem dMd_aheadOf_26 : decode (mB Md_aheadOf) 26 = .ok (.iload 4, 2) := by decide +kernel
theorem dMd_aheadOf_28 : decode (mB Md_aheadOf) 28 = .ok (.invokevirtual 169, 3) := by decide +kernel
theorem dMd_aheadOf_31 : decode (mB Md_aheadOf) 31 = .ok (.istore 4, 2) := by decide +kernel
theorem dMd_aheadOf_33 : decode (mB Md_aheadOf) 33 = .ok (.iinc 5 1, 3) := by decide +kernel
theorem dMd_aheadOf_36 : decode (mB Md_aheadOf) 36 = .ok (.goto (-22), 3) := by decide +kernel
theorem dMd_aheadOf_39 : decode (mB Md_aheadOf) 39 = .ok (.iload_n 3, 1) := by decide +kernel
theorem dMd_aheadOf_40 : decode (mB Md_aheadOf) 40 = .ok (.ireturn, 1) := by decide +kernel
def b_Md_aheadOf_14 (R : Int32 → tpH → Prop) (Y : Nat → Int32 → Int32 → Int32 → Int32 → tpH → Prop) (o : Nat) (x2 : Int32) (x3 : Int32) (x4 : Int32) (x5 : Int32) (h : tpH) : Prop :=
  (x2 ≤ x5 → (R x3 h)) ∧ (¬ x2 ≤ x5 → (hT h o = 14 ∧ (w_Md_nextIn o (40 : Int32) x4 h (fun v4 h3 => Y o x2 x4 v4 (x5 + (1 : Int32)) h3))))
def w_Md_aheadOf_14 (R : Int32 → tpH → Prop) : Nat → Nat → Int32 → Int32 → Int32 → Int32 → tpH → Prop
  | 0 => fun _ _ _ _ _ _ => False
  | n + 1 => b_Md_aheadOf_14 R (w_Md_aheadOf_14 R n)
def w_Md_aheadOf (o : Nat) (x1 : Int32) (x2 : Int32) (h : tpH) (R : Int32 → tpH → Prop) : Prop :=
  hT h o = 14 ∧ (w_Md_firstIn o (40 : Int32) x1 h (fun v3 h2 => ∃ n, w_Md_aheadOf_14 R n o x2 (-1 : Int32) v3 (0 : Int32) h2))
theorem s_Md_aheadOf_14 {h0 : tpH} {av : List tpV} {R : Int32 → tpH → Prop} : ∀ (n : Nat) (o : Nat) (x2 : Int32) (x3 : Int32) (x4 : Int32) (x5 : Int32) (h : tpH), w_Md_aheadOf_14 R n o x2 x3 x4 x5 h → tpR Md_aheadOf 1 h0 av (tpOi R (fun _ _ => False)) 14 [some (vR (some o)), none, some (vI x2), some (vI x3), some (vI x4), some (vI x5)] [] h := by
  intro n
  induction n with
  | zero => intro o x2 x3 x4 x5 h hw; exact False.elim hw
  | succ n ih =>
    intro o x2 x3 x4 x5 h hw
    change b_Md_aheadOf_14 R (w_Md_aheadOf_14 R n) o x2 x3 x4 x5 h at hw
    unfold b_Md_aheadOf_14 at hw
    refine tq_iload dMd_aheadOf_14 rfl ?_
    refine tq_iload_n dMd_aheadOf_16 rfl rfl ?_
    refine tq_icmpge (tgt := 39) dMd_aheadOf_17 (by decide) (fun c1 => ?_) (fun c1 => ?_)
    · have hw := hw.1 c1
      refine tq_iload_n dMd_aheadOf_39 rfl rfl ?_
      exact tq_iret rfl rfl dMd_aheadOf_40 hw
    · have hw := hw.2 c1
      refine tq_iload dMd_aheadOf_20 rfl ?_
      refine tq_istore_n (ls' := [some (vR (some o)), none, some (vI x2), some (vI x4), some (vI x4), some (vI x5)]) dMd_aheadOf_22 rfl (Nat.le_of_ble_eq_true rfl) rfl ?_
      refine tq_aload_n dMd_aheadOf_23 rfl rfl ?_
      refine tq_bipush (v := (40 : Int32)) dMd_aheadOf_24 tnb_40 ?_
      refine tq_iload dMd_aheadOf_26 rfl ?_
      obtain ⟨f2, hw⟩ := hw
      refine te_callV mv_Md_nextIn (ci := 13) (dc := 0) (as := [vI (40 : Int32), vI x4]) (rest := []) kMd_169 rfl (Nat.le_of_ble_eq_true rfl) (Nat.le_of_ble_eq_true rfl) rfl rfl rfl f2 (Nat.le_of_ble_eq_true rfl) dMd_aheadOf_28 (s_Md_nextIn hw) (fun _ _ hx => False.elim hx) (tk_i fun v4 h3 hw => ?_)
      refine tq_istore (ls' := [some (vR (some o)), none, some (vI x2), some (vI x4), some (vI v4), some (vI x5)]) dMd_aheadOf_31 (Nat.le_of_ble_eq_true rfl) rfl ?_
      refine tq_inc (k := (1 : Int32)) (ls' := [some (vR (some o)), none, some (vI x2), some (vI x4), some (vI v4), some (vI (x5 + (1 : Int32)))]) dMd_aheadOf_33 rfl tni_1 (Nat.le_of_ble_eq_true rfl) rfl ?_
      refine tq_goto (tgt := 14) dMd_aheadOf_36 (by decide) ?_
      refine tpR.fo (ls' := [some (vR (some o)), none, some (vI x2), some (vI x4), some (vI v4), some (vI (x5 + (1 : Int32)))]) ?_ (And.intro rfl (And.intro rfl (And.intro rfl (And.intro rfl (And.intro rfl trivial)))))
      exact ih _ _ _ _ _ _ hw
theorem s_Md_aheadOf {o : Nat} {x1 : Int32} {x2 : Int32} {h : tpH} {R : Int32 → tpH → Prop} (hw : w_Md_aheadOf o x1 x2 h R) : tpC Md_aheadOf 1 [vR (some o), vI x1, vI x2] h (tpOi R (fun _ _ => False)) := by
  refine tpC_of mv_Md_aheadOf.2.2.2.1 rfl rfl (Nat.le_of_ble_eq_true rfl) ?_
  show tpR Md_aheadOf 1 h _ _ 0 [some (vR (some o)), some (vI x1), some (vI x2), none, none, none] [] h
  unfold w_Md_aheadOf at hw
  refine tq_iconst (v := (-1 : Int32)) dMd_aheadOf_0 tni_m1 ?_
  refine tq_istore_n (ls' := [some (vR (some o)), some (vI x1), some (vI x2), some (vI (-1 : Int32)), none, none]) dMd_aheadOf_1 rfl (Nat.le_of_ble_eq_true rfl) rfl ?_
  refine tq_aload_n dMd_aheadOf_2 rfl rfl ?_
  refine tq_bipush (v := (40 : Int32)) dMd_aheadOf_3 tnb_40 ?_
  refine tq_iload_n dMd_aheadOf_5 rfl rfl ?_
  obtain ⟨f1, hw⟩ := hw
  refine te_callV mv_Md_firstIn (ci := 13) (dc := 0) (as := [vI (40 : Int32), vI x1]) (rest := []) kMd_173 rfl (Nat.le_of_ble_eq_true rfl) (Nat.le_of_ble_eq_true rfl) rfl rfl rfl f1 (Nat.le_of_ble_eq_true rfl) dMd_aheadOf_6 (s_Md_firstIn hw) (fun _ _ hx => False.elim hx) (tk_i fun v3 h2 hw => ?_)
  refine tq_istore (ls' := [some (vR (some o)), some (vI x1), some (vI x2), some (vI (-1 : Int32)), some (vI v3), none]) dMd_aheadOf_9 (Nat.le_of_ble_eq_true rfl) rfl ?_
  refine tq_iconst (v := (0 : Int32)) dMd_aheadOf_11 tni_0 ?_
  refine tq_istore (ls' := [some (vR (some o)), some (vI x1), some (vI x2), some (vI (-1 : Int32)), some (vI v3), some (vI (0 : Int32))]) dMd_aheadOf_12 (Nat.le_of_ble_eq_true rfl) rfl ?_
  refine tpR.fo (ls' := [some (vR (some o)), none, some (vI x2), some (vI (-1 : Int32)), some (vI v3), some (vI (0 : Int32))]) ?_ (And.intro rfl (And.intro rfl (And.intro rfl (And.intro rfl (And.intro rfl trivial)))))
  obtain ⟨n, hw⟩ := hw
  exact s_Md_aheadOf_14 n _ _ _ _ _ _ hw
/-! TModel.node -/
theorem dMd_node_0 : decode (mB Md_node) 0 = .ok (.aload_n 0, 1) := by decide +kernel
theorem dMd_node_1 : decode (mB Md_node) 1 = .ok (.bipush 40, 2) := by decide +kernel
theorem dMd_node_3 : decode (mB Md_node) 3 = .ok (.iload_n 1, 1) := by decide +kernel
theorem dMd_node_4 : decode (mB Md_node) 4 = .ok (.invokevirtual 212, 3) := by decide +kernel
theorem dMd_node_7 : decode (mB Md_node) 7 = .ok (.ifCond .eq 30, 3) := by decide +kernel
theorem dMd_node_10 : decode (mB Md_node) 10 = .ok (.aload_n 0, 1) := by decide +kernel
theorem dMd_node_11 : decode (mB Md_node) 11 = .ok (.iload_n 1, 1) := by decide +kernel
theorem dMd_node_12 : decode (mB Md_node) 12 = .ok (.invokevirtual 176, 3) := by decide +kernel
theorem dMd_node_15 : decode (mB Md_node) 15 = .ok (.ifCond .eq 18, 3) := by decide +kernel
theorem dMd_node_18 : decode (mB Md_node) 18 = .ok (.iload_n 2, 1) := by decide +kernel
theorem dMd_node_19 : decode (mB Md_node) 19 = .ok (.iconst 0, 1) := by decide +kernel
theorem dMd_node_20 : decode (mB Md_node) 20 = .ok (.aload_n 0, 1) := by decide +kernel
theorem dMd_node_21 : decode (mB Md_node) 21 = .ok (.bipush 40, 2) := by decide +kernel
theorem dMd_node_23 : decode (mB Md_node) 23 = .ok (.iload_n 1, 1) := by decide +kernel
theorem dMd_node_24 : decode (mB Md_node) 24 = .ok (.invokevirtual 216, 3) := by decide +kernel
theorem dMd_node_27 : decode (mB Md_node) 27 = .ok (.invokestatic 158, 3) := by decide +kernel
theorem dMd_node_30 : decode (mB Md_node) 30 = .ok (.ifCond .eq 7, 3) := by decide +kernel
theorem dMd_node_33 : decode (mB Md_node) 33 = .ok (.iconst 1, 1) := by decide +kernel
theorem dMd_node_34 : decode (mB Md_node) 34 = .ok (.goto 4, 3) := by decide +kernel
theorem dMd_node_37 : decode (mB Md_node) 37 = .ok (.iconst 0, 1) := by decide +kernel
theorem dMd_node_38 : decode (mB Md_node) 38 = .ok (.istore 6, 2) := by decide +kernel
theorem dMd_node_40 : decode (mB Md_node) 40 = .ok (.aload_n 0, 1) := by decide +kernel
theorem dMd_node_41 : decode (mB Md_node) 41 = .ok (.iload 6, 2) := by decide +kernel
theorem dMd_node_43 : decode (mB Md_node) 43 = .ok (.ifCond .ne 7, 3) := by decide +kernel
theorem dMd_node_46 : decode (mB Md_node) 46 = .ok (.iconst 1, 1) := by decide +kernel
theorem dMd_node_47 : decode (mB Md_node) 47 = .ok (.goto 48, 3) := by decide +kernel
theorem dMd_node_50 : decode (mB Md_node) 50 = .ok (.iload_n 3, 1) := by decide +kernel
theorem dMd_node_51 : decode (mB Md_node) 51 = .ok (.iload 4, 2) := by decide +kernel
theorem dMd_node_53 : decode (mB Md_node) 53 = .ok (.iload 5, 2) := by decide +kernel
theorem dMd_node_55 : decode (mB Md_node) 55 = .ok (.invokestatic 186, 3) := by decide +kernel
theorem dMd_node_58 : decode (mB Md_node) 58 = .ok (.ifCond .ne 7, 3) := by decide +kernel
theorem dMd_node_61 : decode (mB Md_node) 61 = .ok (.iconst 2, 1) := by decide +kernel
theorem dMd_node_62 : decode (mB Md_node) 62 = .ok (.goto 33, 3) := by decide +kernel
theorem dMd_node_65 : decode (mB Md_node) 65 = .ok (.aload_n 0, 1) := by decide +kernel
theorem dMd_node_66 : decode (mB Md_node) 66 = .ok (.getfield 162, 3) := by decide +kernel
theorem dMd_node_69 : decode (mB Md_node) 69 = .ok (.sipush 300, 3) := by decide +kernel
theorem dMd_node_72 : decode (mB Md_node) 72 = .ok (.if_icmp .eq 18, 3) := by decide +kernel
theorem dMd_node_75 : decode (mB Md_node) 75 = .ok (.aload_n 0, 1) := by decide +kernel
theorem dMd_node_76 : decode (mB Md_node) 76 = .ok (.bipush 40, 2) := by decide +kernel
theorem dMd_node_78 : decode (mB Md_node) 78 = .ok (.aload_n 0, 1) := by decide +kernel
theorem dMd_node_79 : decode (mB Md_node) 79 = .ok (.getfield 83, 3) := by decide +kernel
theorem dMd_node_82 : decode (mB Md_node) 82 = .ok (.invokevirtual 208, 3) := by decide +kernel
theorem dMd_node_85 : decode (mB Md_node) 85 = .ok (.bipush 24, 2) := by decide +kernel
theorem dMd_node_87 : decode (mB Md_node) 87 = .ok (.if_icmp .lt 7, 3) := by decide +kernel
theorem dMd_node_90 : decode (mB Md_node) 90 = .ok (.iconst 3, 1) := by decide +kernel
theorem dMd_node_91 : decode (mB Md_node) 91 = .ok (.goto 4, 3) := by decide +kernel
theorem dMd_node_94 : decode (mB Md_node) 94 = .ok (.iconst 0, 1) := by decide +kernel
theorem dMd_node_95 : decode (mB Md_node) 95 = .ok (.putfield 151, 3) := by decide +kernel
theorem dMd_node_98 : decode (mB Md_node) 98 = .ok (.aload_n 0, 1) := by decide +kernel
theorem dMd_node_99 : decode (mB Md_node) 99 = .ok (.getfield 151, 3) := by decide +kernel
theorem dMd_node_102 : decode (mB Md_node) 102 = .ok (.ifCond .le 5, 3) := by decide +kernel
theorem dMd_node_105 : decode (mB Md_node) 105 = .ok (.iconst 0, 1) := by decide +kernel
theorem dMd_node_106 : decode (mB Md_node) 106 = .ok (.ireturn, 1) := by decide +kernel
theorem dMd_node_107 : decode (mB Md_node) 107 = .ok (.aload_n 0, 1) := by decide +kernel
theorem dMd_node_108 : decode (mB Md_node) 108 = .ok (.bipush 40, 2) := by decide +kernel
theorem dMd_node_110 : decode (mB Md_node) 110 = .ok (.iload_n 3, 1) := by decide +kernel
theorem dMd_node_111 : decode (mB Md_node) 111 = .ok (.iload 4, 2) := by decide +kernel
theorem dMd_node_113 : decode (mB Md_node) 113 = .ok (.iload 5, 2) := by decide +kernel
theorem dMd_node_115 : decode (mB Md_node) 115 = .ok (.invokevirtual 197, 3) := by decide +kernel
theorem dMd_node_118 : decode (mB Md_node) 118 = .ok (.istore 7, 2) := by decide +kernel
theorem dMd_node_120 : decode (mB Md_node) 120 = .ok (.aload_n 0, 1) := by decide +kernel
theorem dMd_node_121 : decode (mB Md_node) 121 = .ok (.bipush 40, 2) := by decide +kernel
theorem dMd_node_123 : decode (mB Md_node) 123 = .ok (.iload 7, 2) := by decide +kernel
theorem dMd_node_125 : decode (mB Md_node) 125 = .ok (.iload_n 1, 1) := by decide +kernel
theorem dMd_node_126 : decode (mB Md_node) 126 = .ok (.aload_n 0, 1) := by decide +kernel
theorem dMd_node_127 : decode (mB Md_node) 127 = .ok (.iload_n 1, 1) := by decide +kernel
theorem dMd_node_128 : decode (mB Md_node) 128 = .ok (.invokevirtual 176, 3) := by decide +kernel
theorem dMd_node_131 : decode (mB Md_node) 131 = .ok (.ifCond .eq 12, 3) := by decide +kernel
theorem dMd_node_134 : decode (mB Md_node) 134 = .ok (.aload_n 0, 1) := by decide +kernel
theorem dMd_node_135 : decode (mB Md_node) 135 = .ok (.iload_n 1, 1) := by decide +kernel
theorem dMd_node_136 : decode (mB Md_node) 136 = .ok (.iload_n 2, 1) := by decide +kernel
theorem dMd_node_137 : decode (mB Md_node) 137 = .ok (.invokevirtual 219, 3) := by decide +kernel
theorem dMd_node_140 : decode (mB Md_node) 140 = .ok (.goto 4, 3) := by decide +kernel
theorem dMd_node_143 : decode (mB Md_node) 143 = .ok (.iconst (-1), 1) := by decide +kernel
theorem dMd_node_144 : decode (mB Md_node) 144 = .ok (.invokevirtual 222, 3) := by decide +kernel
theorem dMd_node_147 : decode (mB Md_node) 147 = .ok (.iload 7, 2) := by decide +kernel
theorem dMd_node_149 : decode (mB Md_node) 149 = .ok (.ireturn, 1) := by decide +kernel
def w_Md_node_144 (R : Int32 → tpH → Prop) (x7 : Int32) (t0 : Int32) (t1 : Int32) (t2 : Int32) (t3 : Int32) (t4 : Option Nat) (h : tpH) : Prop :=
  ∃ a1, t4 = some a1 ∧ hT h a1 = 14 ∧ (w_Md_hang a1 t3 t2 t1 t0 h (fun h4 => R x7 h4))
def w_Md_node_95 (R : Int32 → tpH → Prop) (o : Nat) (x1 : Int32) (x2 : Int32) (x3 : Int32) (x4 : Int32) (x5 : Int32) (t0 : Int32) (t1 : Option Nat) (h : tpH) : Prop :=
  ∃ a1, t1 = some a1 ∧ hT h a1 = 14 ∧ (∀ h4, h4 = sI h a1 31 t0 → (hT h4 o = 14 ∧ (((hI h4 o 31) ≤ 0 → (w_Md_newMark o (40 : Int32) x3 x4 x5 h4 (fun v9 h8 => hT h8 o = 14 ∧ (w_Md_isOrdered o x1 h8 (fun v12 h11 => (v12 = 0 → (w_Md_node_144 R v9 (-1 : Int32) x1 v9 (40 : Int32) (some o) h11)) ∧ (¬ v12 = 0 → (hT h11 o = 14 ∧ (w_Md_aheadOf o x1 x2 h11 (fun v16 h15 => w_Md_node_144 R v9 v16 x1 v9 (40 : Int32) (some o) h15))))))))) ∧ (¬ (hI h4 o 31) ≤ 0 → (R (0 : Int32) h4)))))
def w_Md_node_38 (R : Int32 → tpH → Prop) (o : Nat) (x1 : Int32) (x2 : Int32) (x3 : Int32) (x4 : Int32) (x5 : Int32) (t0 : Int32) (h : tpH) : Prop :=
  (¬ t0 = 0 → (w_Md_areGood x3 x4 x5 h (fun v3 h2 => (¬ v3 = 0 → (hT h2 o = 14 ∧ (((hI h2 o 0) = (300 : Int32) → (w_Md_node_95 R o x1 x2 x3 x4 x5 (3 : Int32) (some o) h2)) ∧ (¬ (hI h2 o 0) = (300 : Int32) → (w_Md_layOrder o (40 : Int32) (hR h2 o 32) h2 (fun v8 h7 => (v8 < (24 : Int32) → (w_Md_node_95 R o x1 x2 x3 x4 x5 (0 : Int32) (some o) h7)) ∧ (¬ v8 < (24 : Int32) → (w_Md_node_95 R o x1 x2 x3 x4 x5 (3 : Int32) (some o) h7)))))))) ∧ (v3 = 0 → (w_Md_node_95 R o x1 x2 x3 x4 x5 (2 : Int32) (some o) h2))))) ∧ (t0 = 0 → (w_Md_node_95 R o x1 x2 x3 x4 x5 (1 : Int32) (some o) h))
def w_Md_node (o : Nat) (x1 : Int32) (x2 : Int32) (x3 : Int32) (x4 : Int32) (x5 : Int32) (h : tpH) (R : Int32 → tpH → Prop) : Prop :=
  hT h o = 14 ∧ (w_Md_has o (40 : Int32) x1 h (fun v3 h2 => (v3 = 0 → (w_Md_node_38 R o x1 x2 x3 x4 x5 (0 : Int32) h2)) ∧ (¬ v3 = 0 → (hT h2 o = 14 ∧ (w_Md_isOrdered o x1 h2 (fun v7 h6 => (v7 = 0 → (w_Md_node_38 R o x1 x2 x3 x4 x5 (1 : Int32) h6)) ∧ (¬ v7 = 0 → (hT h6 o = 14 ∧ (w_Md_childMany o (40 : Int32) x1 h6 (fun v11 h10 => w_Md_in x2 (0 : Int32) v11 h10 (fun v13 h12 => (v13 = 0 → (w_Md_node_38 R o x1 x2 x3 x4 x5 (0 : Int32) h12)) ∧ (¬ v13 = 0 → (w_Md_node_38 R o x1 x2 x3 x4 x5 (1 : Int32) h12)))))))))))))
theorem s_Md_node_144 {h0 : tpH} {av : List tpV} {R : Int32 → tpH → Prop} : ∀ (x7 : Int32) (t0 : Int32) (t1 : Int32) (t2 : Int32) (t3 : Int32) (t4 : Option Nat) (h : tpH), w_Md_node_144 R x7 t0 t1 t2 t3 t4 h → tpR Md_node 3 h0 av (tpOi R (fun _ _ => False)) 144 [none, none, none, none, none, none, none, some (vI x7)] [vI t0, vI t1, vI t2, vI t3, vR t4] h := by
  intro x7 t0 t1 t2 t3 t4 h hw
  unfold w_Md_node_144 at hw
  obtain ⟨a1, e2, f3, hw⟩ := hw
  refine te_callV mv_Md_hang (ci := 13) (dc := 1) (as := [vI t3, vI t2, vI t1, vI t0]) (rest := []) kMd_222 rfl (Nat.le_of_ble_eq_true rfl) (Nat.le_of_ble_eq_true rfl) rfl rfl e2 f3 (Nat.le_of_ble_eq_true rfl) dMd_node_144 (s_Md_hang hw) (fun _ _ hx => False.elim hx) (tk_v fun h4 hw => ?_)
  refine tq_iload dMd_node_147 rfl ?_
  exact tq_iret rfl rfl dMd_node_149 hw
theorem s_Md_node_95 {h0 : tpH} {av : List tpV} {R : Int32 → tpH → Prop} : ∀ (o : Nat) (x1 : Int32) (x2 : Int32) (x3 : Int32) (x4 : Int32) (x5 : Int32) (t0 : Int32) (t1 : Option Nat) (h : tpH), w_Md_node_95 R o x1 x2 x3 x4 x5 t0 t1 h → tpR Md_node 3 h0 av (tpOi R (fun _ _ => False)) 95 [some (vR (some o)), some (vI x1), some (vI x2), some (vI x3), some (vI x4), some (vI x5), none, none] [vI t0, vR t1] h := by
  intro o x1 x2 x3 x4 x5 t0 t1 h hw
  unfold w_Md_node_95 at hw
  obtain ⟨a1, e2, f3, hw⟩ := hw
  refine te_puti dMd_node_95 pMd_151 rfl rfl e2 f3 ⟨rfl, rfl⟩ (fun h4 e5 => ?_)
  have hw := hw h4 e5
  refine tq_aload_n dMd_node_98 rfl rfl ?_
  obtain ⟨f6, hw⟩ := hw
  refine te_geti dMd_node_99 fMd_151 rfl rfl f6 ?_
  refine tq_ifle (tgt := 107) dMd_node_102 (by decide) (fun c7 => ?_) (fun c7 => ?_)
  · have hw := hw.1 c7
    refine tq_aload_n dMd_node_107 rfl rfl ?_
    refine tq_bipush (v := (40 : Int32)) dMd_node_108 tnb_40 ?_
    refine tq_iload_n dMd_node_110 rfl rfl ?_
    refine tq_iload dMd_node_111 rfl ?_
    refine tq_iload dMd_node_113 rfl ?_
    refine te_callV mv_Md_newMark (ci := 13) (dc := 0) (as := [vI (40 : Int32), vI x3, vI x4, vI x5]) (rest := []) kMd_197 rfl (Nat.le_of_ble_eq_true rfl) (Nat.le_of_ble_eq_true rfl) rfl rfl rfl f6 (Nat.le_of_ble_eq_true rfl) dMd_node_115 (s_Md_newMark hw) (fun _ _ hx => False.elim hx) (tk_i fun v9 h8 hw => ?_)
    refine tq_istore (ls' := [some (vR (some o)), some (vI x1), some (vI x2), some (vI x3), some (vI x4), some (vI x5), none, some (vI v9)]) dMd_node_118 (Nat.le_of_ble_eq_true rfl) rfl ?_
    refine tq_aload_n dMd_node_120 rfl rfl ?_
    refine tq_bipush (v := (40 : Int32)) dMd_node_121 tnb_40 ?_
    refine tq_iload dMd_node_123 rfl ?_
    refine tq_iload_n dMd_node_125 rfl rfl ?_
    refine tq_aload_n dMd_node_126 rfl rfl ?_
    refine tq_iload_n dMd_node_127 rfl rfl ?_
    obtain ⟨f10, hw⟩ := hw
    refine te_callV mv_Md_isOrdered (ci := 13) (dc := 0) (as := [vI x1]) (rest := [vI x1, vI v9, vI (40 : Int32), vR (some o)]) kMd_176 rfl (Nat.le_of_ble_eq_true rfl) (Nat.le_of_ble_eq_true rfl) rfl rfl rfl f10 (Nat.le_of_ble_eq_true rfl) dMd_node_128 (s_Md_isOrdered hw) (fun _ _ hx => False.elim hx) (tk_i fun v12 h11 hw => ?_)
    refine tq_ifeq (tgt := 143) dMd_node_131 (by decide) (fun c13 => ?_) (fun c13 => ?_)
    · have hw := hw.1 c13
      refine tq_iconst (v := (-1 : Int32)) dMd_node_143 tni_m1 ?_
      refine tpR.fo (ls' := [none, none, none, none, none, none, none, some (vI v9)]) ?_ (And.intro rfl trivial)
      exact s_Md_node_144 _ _ _ _ _ _ _ hw
    · have hw := hw.2 c13
      refine tq_aload_n dMd_node_134 rfl rfl ?_
      refine tq_iload_n dMd_node_135 rfl rfl ?_
      refine tq_iload_n dMd_node_136 rfl rfl ?_
      obtain ⟨f14, hw⟩ := hw
      refine te_callV mv_Md_aheadOf (ci := 13) (dc := 1) (as := [vI x1, vI x2]) (rest := [vI x1, vI v9, vI (40 : Int32), vR (some o)]) kMd_219 rfl (Nat.le_of_ble_eq_true rfl) (Nat.le_of_ble_eq_true rfl) rfl rfl rfl f14 (Nat.le_of_ble_eq_true rfl) dMd_node_137 (s_Md_aheadOf hw) (fun _ _ hx => False.elim hx) (tk_i fun v16 h15 hw => ?_)
      refine tq_goto (tgt := 144) dMd_node_140 (by decide) ?_
      refine tpR.fo (ls' := [none, none, none, none, none, none, none, some (vI v9)]) ?_ (And.intro rfl trivial)
      exact s_Md_node_144 _ _ _ _ _ _ _ hw
  · have hw := hw.2 c7
    refine tq_iconst (v := (0 : Int32)) dMd_node_105 tni_0 ?_
    exact tq_iret rfl rfl dMd_node_106 hw
theorem s_Md_node_38 {h0 : tpH} {av : List tpV} {R : Int32 → tpH → Prop} : ∀ (o : Nat) (x1 : Int32) (x2 : Int32) (x3 : Int32) (x4 : Int32) (x5 : Int32) (t0 : Int32) (h : tpH), w_Md_node_38 R o x1 x2 x3 x4 x5 t0 h → tpR Md_node 3 h0 av (tpOi R (fun _ _ => False)) 38 [some (vR (some o)), some (vI x1), some (vI x2), some (vI x3), some (vI x4), some (vI x5), none, none] [vI t0] h := by
  intro o x1 x2 x3 x4 x5 t0 h hw
  unfold w_Md_node_38 at hw
  refine tq_istore (ls' := [some (vR (some o)), some (vI x1), some (vI x2), some (vI x3), some (vI x4), some (vI x5), some (vI t0), none]) dMd_node_38 (Nat.le_of_ble_eq_true rfl) rfl ?_
  refine tq_aload_n dMd_node_40 rfl rfl ?_
  refine tq_iload dMd_node_41 rfl ?_
  refine tq_ifne (tgt := 50) dMd_node_43 (by decide) (fun c1 => ?_) (fun c1 => ?_)
  · have hw := hw.1 c1
    refine tq_iload_n dMd_node_50 rfl rfl ?_
    refine tq_iload dMd_node_51 rfl ?_
    refine tq_iload dMd_node_53 rfl ?_
    refine tq_callS ms_Md_areGood (dc := 1) (as := [vI x3, vI x4, vI x5]) (rest := [vR (some o)]) kMd_186 (Nat.le_of_ble_eq_true rfl) (Nat.le_of_ble_eq_true rfl) rfl rfl (Nat.le_of_ble_eq_true rfl) dMd_node_55 (s_Md_areGood hw) (fun _ _ hx => False.elim hx) (tk_i fun v3 h2 hw => ?_)
    refine tq_ifne (tgt := 65) dMd_node_58 (by decide) (fun c4 => ?_) (fun c4 => ?_)
    · have hw := hw.1 c4
      refine tq_aload_n dMd_node_65 rfl rfl ?_
      obtain ⟨f5, hw⟩ := hw
      refine te_geti dMd_node_66 fMd_162 rfl rfl f5 ?_
      refine tq_sipush (v := (300 : Int32)) dMd_node_69 tns_300 ?_
      refine tq_icmpeq (tgt := 90) dMd_node_72 (by decide) (fun c6 => ?_) (fun c6 => ?_)
      · have hw := hw.1 c6
        refine tq_iconst (v := (3 : Int32)) dMd_node_90 tni_3 ?_
        refine tq_goto (tgt := 95) dMd_node_91 (by decide) ?_
        refine tpR.fo (ls' := [some (vR (some o)), some (vI x1), some (vI x2), some (vI x3), some (vI x4), some (vI x5), none, none]) ?_ (And.intro rfl (And.intro rfl (And.intro rfl (And.intro rfl (And.intro rfl (And.intro rfl trivial))))))
        exact s_Md_node_95 _ _ _ _ _ _ _ _ _ hw
      · have hw := hw.2 c6
        refine tq_aload_n dMd_node_75 rfl rfl ?_
        refine tq_bipush (v := (40 : Int32)) dMd_node_76 tnb_40 ?_
        refine tq_aload_n dMd_node_78 rfl rfl ?_
        refine te_getr dMd_node_79 fMd_83 rfl rfl f5 ?_
        refine te_callV mv_Md_layOrder (ci := 13) (dc := 1) (as := [vI (40 : Int32), vR (hR h2 o 32)]) (rest := [vR (some o)]) kMd_208 rfl (Nat.le_of_ble_eq_true rfl) (Nat.le_of_ble_eq_true rfl) rfl rfl rfl f5 (Nat.le_of_ble_eq_true rfl) dMd_node_82 (s_Md_layOrder hw) (fun _ _ hx => False.elim hx) (tk_i fun v8 h7 hw => ?_)
        refine tq_bipush (v := (24 : Int32)) dMd_node_85 tnb_24 ?_
        refine tq_icmplt (tgt := 94) dMd_node_87 (by decide) (fun c9 => ?_) (fun c9 => ?_)
        · have hw := hw.1 c9
          refine tq_iconst (v := (0 : Int32)) dMd_node_94 tni_0 ?_
          refine tpR.fo (ls' := [some (vR (some o)), some (vI x1), some (vI x2), some (vI x3), some (vI x4), some (vI x5), none, none]) ?_ (And.intro rfl (And.intro rfl (And.intro rfl (And.intro rfl (And.intro rfl (And.intro rfl trivial))))))
          exact s_Md_node_95 _ _ _ _ _ _ _ _ _ hw
        · have hw := hw.2 c9
          refine tq_iconst (v := (3 : Int32)) dMd_node_90 tni_3 ?_
          refine tq_goto (tgt := 95) dMd_node_91 (by decide) ?_
          refine tpR.fo (ls' := [some (vR (some o)), some (vI x1), some (vI x2), some (vI x3), some (vI x4), some (vI x5), none, none]) ?_ (And.intro rfl (And.intro rfl (And.intro rfl (And.intro rfl (And.intro rfl (And.intro rfl trivial))))))
          exact s_Md_node_95 _ _ _ _ _ _ _ _ _ hw
    · have hw := hw.2 c4
      refine tq_iconst (v := (2 : Int32)) dMd_node_61 tni_2 ?_
      refine tq_goto (tgt := 95) dMd_node_62 (by decide) ?_
      refine tpR.fo (ls' := [some (vR (some o)), some (vI x1), some (vI x2), some (vI x3), some (vI x4), some (vI x5), none, none]) ?_ (And.intro rfl (And.intro rfl (And.intro rfl (And.intro rfl (And.intro rfl (And.intro rfl trivial))))))
      exact s_Md_node_95 _ _ _ _ _ _ _ _ _ hw
  · have hw := hw.2 c1
    refine tq_iconst (v := (1 : Int32)) dMd_node_46 tni_1 ?_
    refine tq_goto (tgt := 95) dMd_node_47 (by decide) ?_
    refine tpR.fo (ls' := [some (vR (some o)), some (vI x1), some (vI x2), some (vI x3), some (vI x4), some (vI x5), none, none]) ?_ (And.intro rfl (And.intro rfl (And.intro rfl (And.intro rfl (And.intro rfl (And.intro rfl trivial))))))
    exact s_Md_node_95 _ _ _ _ _ _ _ _ _ hw
theorem s_Md_node {o : Nat} {x1 : Int32} {x2 : Int32} {x3 : Int32} {x4 : Int32} {x5 : Int32} {h : tpH} {R : Int32 → tpH → Prop} (hw : w_Md_node o x1 x2 x3 x4 x5 h R) : tpC Md_node 3 [vR (some o), vI x1, vI x2, vI x3, vI x4, vI x5] h (tpOi R (fun _ _ => False)) := by
  refine tpC_of mv_Md_node.2.2.2.1 rfl rfl (Nat.le_of_ble_eq_true rfl) ?_
  show tpR Md_node 3 h _ _ 0 [some (vR (some o)), some (vI x1), some (vI x2), some (vI x3), some (vI x4), some (vI x5), none, none] [] h
  unfold w_Md_node at hw
  refine tq_aload_n dMd_node_0 rfl rfl ?_
  refine tq_bipush (v := (40 : Int32)) dMd_node_1 tnb_40 ?_
  refine tq_iload_n dMd_node_3 rfl rfl ?_
  obtain ⟨f1, hw⟩ := hw
  refine te_callV mv_Md_has (ci := 13) (dc := 2) (as := [vI (40 : Int32), vI x1]) (rest := []) kMd_212 rfl (Nat.le_of_ble_eq_true rfl) (Nat.le_of_ble_eq_true rfl) rfl rfl rfl f1 (Nat.le_of_ble_eq_true rfl) dMd_node_4 (s_Md_has hw) (fun _ _ hx => False.elim hx) (tk_i fun v3 h2 hw => ?_)
  refine tq_ifeq (tgt := 37) dMd_node_7 (by decide) (fun c4 => ?_) (fun c4 => ?_)
  · have hw := hw.1 c4
    refine tq_iconst (v := (0 : Int32)) dMd_node_37 tni_0 ?_
    refine tpR.fo (ls' := [some (vR (some o)), some (vI x1), some (vI x2), some (vI x3), some (vI x4), some (vI x5), none, none]) ?_ (And.intro rfl (And.intro rfl (And.intro rfl (And.intro rfl (And.intro rfl (And.intro rfl trivial))))))
    exact s_Md_node_38 _ _ _ _ _ _ _ _ hw
  · have hw := hw.2 c4
    refine tq_aload_n dMd_node_10 rfl rfl ?_
    refine tq_iload_n dMd_node_11 rfl rfl ?_
    obtain ⟨f5, hw⟩ := hw
    refine te_callV mv_Md_isOrdered (ci := 13) (dc := 0) (as := [vI x1]) (rest := []) kMd_176 rfl (Nat.le_of_ble_eq_true rfl) (Nat.le_of_ble_eq_true rfl) rfl rfl rfl f5 (Nat.le_of_ble_eq_true rfl) dMd_node_12 (s_Md_isOrdered hw) (fun _ _ hx => False.elim hx) (tk_i fun v7 h6 hw => ?_)
    refine tq_ifeq (tgt := 33) dMd_node_15 (by decide) (fun c8 => ?_) (fun c8 => ?_)
    · have hw := hw.1 c8
      refine tq_iconst (v := (1 : Int32)) dMd_node_33 tni_1 ?_
      refine tq_goto (tgt := 38) dMd_node_34 (by decide) ?_
      refine tpR.fo (ls' := [some (vR (some o)), some (vI x1), some (vI x2), some (vI x3), some (vI x4), some (vI x5), none, none]) ?_ (And.intro rfl (And.intro rfl (And.intro rfl (And.intro rfl (And.intro rfl (And.intro rfl trivial))))))
      exact s_Md_node_38 _ _ _ _ _ _ _ _ hw
    · have hw := hw.2 c8
      refine tq_iload_n dMd_node_18 rfl rfl ?_
      refine tq_iconst (v := (0 : Int32)) dMd_node_19 tni_0 ?_
      refine tq_aload_n dMd_node_20 rfl rfl ?_
      refine tq_bipush (v := (40 : Int32)) dMd_node_21 tnb_40 ?_
      refine tq_iload_n dMd_node_23 rfl rfl ?_
      obtain ⟨f9, hw⟩ := hw
      refine te_callV mv_Md_childMany (ci := 13) (dc := 1) (as := [vI (40 : Int32), vI x1]) (rest := [vI (0 : Int32), vI x2]) kMd_216 rfl (Nat.le_of_ble_eq_true rfl) (Nat.le_of_ble_eq_true rfl) rfl rfl rfl f9 (Nat.le_of_ble_eq_true rfl) dMd_node_24 (s_Md_childMany hw) (fun _ _ hx => False.elim hx) (tk_i fun v11 h10 hw => ?_)
      refine tq_callS ms_Md_in (dc := 0) (as := [vI x2, vI (0 : Int32), vI v11]) (rest := []) kMd_158 (Nat.le_of_ble_eq_true rfl) (Nat.le_of_ble_eq_true rfl) rfl rfl (Nat.le_of_ble_eq_true rfl) dMd_node_27 (s_Md_in hw) (fun _ _ hx => False.elim hx) (tk_i fun v13 h12 hw => ?_)
      refine tq_ifeq (tgt := 37) dMd_node_30 (by decide) (fun c14 => ?_) (fun c14 => ?_)
      · have hw := hw.1 c14
        refine tq_iconst (v := (0 : Int32)) dMd_node_37 tni_0 ?_
        refine tpR.fo (ls' := [some (vR (some o)), some (vI x1), some (vI x2), some (vI x3), some (vI x4), some (vI x5), none, none]) ?_ (And.intro rfl (And.intro rfl (And.intro rfl (And.intro rfl (And.intro rfl (And.intro rfl trivial))))))
        exact s_Md_node_38 _ _ _ _ _ _ _ _ hw
      · have hw := hw.2 c14
        refine tq_iconst (v := (1 : Int32)) dMd_node_33 tni_1 ?_
        refine tq_goto (tgt := 38) dMd_node_34 (by decide) ?_
        refine tpR.fo (ls' := [some (vR (some o)), some (vI x1), some (vI x2), some (vI x3), some (vI x4), some (vI x5), none, none]) ?_ (And.intro rfl (And.intro rfl (And.intro rfl (And.intro rfl (And.intro rfl (And.intro rfl trivial))))))
        exact s_Md_node_38 _ _ _ _ _ _ _ _ hw
