/-- the law's own body: of its handlers nothing is told -/
def Lw_main : tpM := (x, code, maxLocals, ret, [(0, 0, 0, 0)])
/-! TLaw.law -/
theorem dLw_law_0 : decode (mB Lw_main) 0 = .ok (.new 8, 3) := by decide +kernel
theorem dLw_law_3 : decode (mB Lw_main) 3 = .ok (.dup, 1) := by decide +kernel
theorem dLw_law_4 : decode (mB Lw_main) 4 = .ok (.invokespecial 120, 3) := by decide +kernel
theorem dLw_law_7 : decode (mB Lw_main) 7 = .ok (.astore_n 1, 1) := by decide +kernel
theorem dLw_law_8 : decode (mB Lw_main) 8 = .ok (.new 121, 3) := by decide +kernel
theorem dLw_law_11 : decode (mB Lw_main) 11 = .ok (.dup, 1) := by decide +kernel
theorem dLw_law_12 : decode (mB Lw_main) 12 = .ok (.invokespecial 123, 3) := by decide +kernel
theorem dLw_law_15 : decode (mB Lw_main) 15 = .ok (.astore_n 2, 1) := by decide +kernel
theorem dLw_law_16 : decode (mB Lw_main) 16 = .ok (.iconst 1, 1) := by decide +kernel
theorem dLw_law_17 : decode (mB Lw_main) 17 = .ok (.newarray .long, 2) := by decide +kernel
theorem dLw_law_19 : decode (mB Lw_main) 19 = .ok (.astore_n 3, 1) := by decide +kernel
theorem dLw_law_20 : decode (mB Lw_main) 20 = .ok (.iconst 1, 1) := by decide +kernel
theorem dLw_law_21 : decode (mB Lw_main) 21 = .ok (.newarray .double, 2) := by decide +kernel
theorem dLw_law_23 : decode (mB Lw_main) 23 = .ok (.astore 4, 2) := by decide +kernel
theorem dLw_law_25 : decode (mB Lw_main) 25 = .ok (.iconst 0, 1) := by decide +kernel
theorem dLw_law_26 : decode (mB Lw_main) 26 = .ok (.istore 5, 2) := by decide +kernel
theorem dLw_law_28 : decode (mB Lw_main) 28 = .ok (.iload 5, 2) := by decide +kernel
theorem dLw_law_30 : decode (mB Lw_main) 30 = .ok (.aload_n 0, 1) := by decide +kernel
theorem dLw_law_31 : decode (mB Lw_main) 31 = .ok (.arraylength, 1) := by decide +kernel
theorem dLw_law_32 : decode (mB Lw_main) 32 = .ok (.bipush 6, 2) := by decide +kernel
theorem dLw_law_34 : decode (mB Lw_main) 34 = .ok (.isub, 1) := by decide +kernel
theorem dLw_law_35 : decode (mB Lw_main) 35 = .ok (.if_icmp .gt 2491, 3) := by decide +kernel
theorem dLw_law_38 : decode (mB Lw_main) 38 = .ok (.aload_n 0, 1) := by decide +kernel
theorem dLw_law_39 : decode (mB Lw_main) 39 = .ok (.iload 5, 2) := by decide +kernel
theorem dLw_law_41 : decode (mB Lw_main) 41 = .ok (.iaload, 1) := by decide +kernel
theorem dLw_law_42 : decode (mB Lw_main) 42 = .ok (.bipush 63, 2) := by decide +kernel
theorem dLw_law_44 : decode (mB Lw_main) 44 = .ok (.iand, 1) := by decide +kernel
theorem dLw_law_45 : decode (mB Lw_main) 45 = .ok (.tableswitch 2475 0 35 #[159, 239, 295, 399, 467, 547, 603, 647, 715, 771, 839, 852, 920, 1000, 1080, 1148, 1216, 1229, 1285, 1353, 1421, 1489, 1564, 1639, 1719, 1833, 1889, 1957, 2025, 2121, 2134, 2190, 2246, 2259, 2315, 2383], 159) := by decide +kernel
theorem dLw_law_204 : decode (mB Lw_main) 204 = .ok (.aload_n 1, 1) := by decide +kernel
theorem dLw_law_205 : decode (mB Lw_main) 205 = .ok (.aload_n 0, 1) := by decide +kernel
theorem dLw_law_206 : decode (mB Lw_main) 206 = .ok (.iload 5, 2) := by decide +kernel
theorem dLw_law_208 : decode (mB Lw_main) 208 = .ok (.iconst 1, 1) := by decide +kernel
theorem dLw_law_209 : decode (mB Lw_main) 209 = .ok (.iadd, 1) := by decide +kernel
theorem dLw_law_210 : decode (mB Lw_main) 210 = .ok (.iaload, 1) := by decide +kernel
theorem dLw_law_211 : decode (mB Lw_main) 211 = .ok (.aload_n 0, 1) := by decide +kernel
theorem dLw_law_212 : decode (mB Lw_main) 212 = .ok (.iload 5, 2) := by decide +kernel
theorem dLw_law_214 : decode (mB Lw_main) 214 = .ok (.iconst 2, 1) := by decide +kernel
theorem dLw_law_215 : decode (mB Lw_main) 215 = .ok (.iadd, 1) := by decide +kernel
theorem dLw_law_216 : decode (mB Lw_main) 216 = .ok (.iaload, 1) := by decide +kernel
theorem dLw_law_217 : decode (mB Lw_main) 217 = .ok (.aload_n 0, 1) := by decide +kernel
theorem dLw_law_218 : decode (mB Lw_main) 218 = .ok (.iload 5, 2) := by decide +kernel
theorem dLw_law_220 : decode (mB Lw_main) 220 = .ok (.iconst 3, 1) := by decide +kernel
theorem dLw_law_221 : decode (mB Lw_main) 221 = .ok (.iadd, 1) := by decide +kernel
theorem dLw_law_222 : decode (mB Lw_main) 222 = .ok (.iaload, 1) := by decide +kernel
theorem dLw_law_223 : decode (mB Lw_main) 223 = .ok (.aload_n 3, 1) := by decide +kernel
theorem dLw_law_224 : decode (mB Lw_main) 224 = .ok (.invokestatic 124, 3) := by decide +kernel
theorem dLw_law_227 : decode (mB Lw_main) 227 = .ok (.istore 6, 2) := by decide +kernel
theorem dLw_law_229 : decode (mB Lw_main) 229 = .ok (.aload_n 2, 1) := by decide +kernel
theorem dLw_law_230 : decode (mB Lw_main) 230 = .ok (.aload_n 0, 1) := by decide +kernel
theorem dLw_law_231 : decode (mB Lw_main) 231 = .ok (.iload 5, 2) := by decide +kernel
theorem dLw_law_233 : decode (mB Lw_main) 233 = .ok (.iconst 1, 1) := by decide +kernel
theorem dLw_law_234 : decode (mB Lw_main) 234 = .ok (.iadd, 1) := by decide +kernel
theorem dLw_law_235 : decode (mB Lw_main) 235 = .ok (.iaload, 1) := by decide +kernel
theorem dLw_law_236 : decode (mB Lw_main) 236 = .ok (.aload_n 0, 1) := by decide +kernel
theorem dLw_law_237 : decode (mB Lw_main) 237 = .ok (.iload 5, 2) := by decide +kernel
theorem dLw_law_239 : decode (mB Lw_main) 239 = .ok (.iconst 2, 1) := by decide +kernel
theorem dLw_law_240 : decode (mB Lw_main) 240 = .ok (.iadd, 1) := by decide +kernel
theorem dLw_law_241 : decode (mB Lw_main) 241 = .ok (.iaload, 1) := by decide +kernel
theorem dLw_law_242 : decode (mB Lw_main) 242 = .ok (.aload_n 0, 1) := by decide +kernel
theorem dLw_law_243 : decode (mB Lw_main) 243 = .ok (.iload 5, 2) := by decide +kernel
theorem dLw_law_245 : decode (mB Lw_main) 245 = .ok (.iconst 3, 1) := by decide +kernel
theorem dLw_law_246 : decode (mB Lw_main) 246 = .ok (.iadd, 1) := by decide +kernel
theorem dLw_law_247 : decode (mB Lw_main) 247 = .ok (.iaload, 1) := by decide +kernel
theorem dLw_law_248 : decode (mB Lw_main) 248 = .ok (.invokevirtual 129, 3) := by decide +kernel
theorem dLw_law_251 : decode (mB Lw_main) 251 = .ok (.istore 7, 2) := by decide +kernel
theorem dLw_law_253 : decode (mB Lw_main) 253 = .ok (.aload_n 2, 1) := by decide +kernel
theorem dLw_law_254 : decode (mB Lw_main) 254 = .ok (.invokevirtual 130, 3) := by decide +kernel
theorem dLw_law_257 : decode (mB Lw_main) 257 = .ok (.iload 6, 2) := by decide +kernel
theorem dLw_law_259 : decode (mB Lw_main) 259 = .ok (.if_icmp .eq 5, 3) := by decide +kernel
theorem dLw_law_262 : decode (mB Lw_main) 262 = .ok (.iconst 0, 1) := by decide +kernel
theorem dLw_law_263 : decode (mB Lw_main) 263 = .ok (.ireturn, 1) := by decide +kernel
theorem dLw_law_264 : decode (mB Lw_main) 264 = .ok (.iload 6, 2) := by decide +kernel
theorem dLw_law_266 : decode (mB Lw_main) 266 = .ok (.ifCond .ne 15, 3) := by decide +kernel
theorem dLw_law_269 : decode (mB Lw_main) 269 = .ok (.aload_n 3, 1) := by decide +kernel
theorem dLw_law_270 : decode (mB Lw_main) 270 = .ok (.iconst 0, 1) := by decide +kernel
theorem dLw_law_271 : decode (mB Lw_main) 271 = .ok (.laload, 1) := by decide +kernel
theorem dLw_law_272 : decode (mB Lw_main) 272 = .ok (.iload 7, 2) := by decide +kernel
theorem dLw_law_274 : decode (mB Lw_main) 274 = .ok (.i2l, 1) := by decide +kernel
theorem dLw_law_275 : decode (mB Lw_main) 275 = .ok (.lcmp, 1) := by decide +kernel
theorem dLw_law_276 : decode (mB Lw_main) 276 = .ok (.ifCond .eq 5, 3) := by decide +kernel
theorem dLw_law_279 : decode (mB Lw_main) 279 = .ok (.iconst 0, 1) := by decide +kernel
theorem dLw_law_280 : decode (mB Lw_main) 280 = .ok (.ireturn, 1) := by decide +kernel
theorem dLw_law_281 : decode (mB Lw_main) 281 = .ok (.goto 2239, 3) := by decide +kernel
theorem dLw_law_284 : decode (mB Lw_main) 284 = .ok (.aload_n 1, 1) := by decide +kernel
theorem dLw_law_285 : decode (mB Lw_main) 285 = .ok (.aload_n 0, 1) := by decide +kernel
theorem dLw_law_286 : decode (mB Lw_main) 286 = .ok (.iload 5, 2) := by decide +kernel
theorem dLw_law_288 : decode (mB Lw_main) 288 = .ok (.iconst 1, 1) := by decide +kernel
theorem dLw_law_289 : decode (mB Lw_main) 289 = .ok (.iadd, 1) := by decide +kernel
theorem dLw_law_290 : decode (mB Lw_main) 290 = .ok (.iaload, 1) := by decide +kernel
theorem dLw_law_291 : decode (mB Lw_main) 291 = .ok (.aload_n 3, 1) := by decide +kernel
theorem dLw_law_292 : decode (mB Lw_main) 292 = .ok (.invokestatic 133, 3) := by decide +kernel
theorem dLw_law_295 : decode (mB Lw_main) 295 = .ok (.istore 6, 2) := by decide +kernel
theorem dLw_law_297 : decode (mB Lw_main) 297 = .ok (.aload_n 2, 1) := by decide +kernel
theorem dLw_law_298 : decode (mB Lw_main) 298 = .ok (.aload_n 0, 1) := by decide +kernel
theorem dLw_law_299 : decode (mB Lw_main) 299 = .ok (.iload 5, 2) := by decide +kernel
theorem dLw_law_301 : decode (mB Lw_main) 301 = .ok (.iconst 1, 1) := by decide +kernel
theorem dLw_law_302 : decode (mB Lw_main) 302 = .ok (.iadd, 1) := by decide +kernel
theorem dLw_law_303 : decode (mB Lw_main) 303 = .ok (.iaload, 1) := by decide +kernel
theorem dLw_law_304 : decode (mB Lw_main) 304 = .ok (.invokevirtual 136, 3) := by decide +kernel
theorem dLw_law_307 : decode (mB Lw_main) 307 = .ok (.istore 7, 2) := by decide +kernel
theorem dLw_law_309 : decode (mB Lw_main) 309 = .ok (.aload_n 2, 1) := by decide +kernel
theorem dLw_law_310 : decode (mB Lw_main) 310 = .ok (.invokevirtual 130, 3) := by decide +kernel
theorem dLw_law_313 : decode (mB Lw_main) 313 = .ok (.iload 6, 2) := by decide +kernel
theorem dLw_law_315 : decode (mB Lw_main) 315 = .ok (.if_icmp .eq 5, 3) := by decide +kernel
theorem dLw_law_318 : decode (mB Lw_main) 318 = .ok (.iconst 0, 1) := by decide +kernel
theorem dLw_law_319 : decode (mB Lw_main) 319 = .ok (.ireturn, 1) := by decide +kernel
theorem dLw_law_320 : decode (mB Lw_main) 320 = .ok (.iload 6, 2) := by decide +kernel
theorem dLw_law_322 : decode (mB Lw_main) 322 = .ok (.ifCond .ne 15, 3) := by decide +kernel
theorem dLw_law_325 : decode (mB Lw_main) 325 = .ok (.aload_n 3, 1) := by decide +kernel
theorem dLw_law_326 : decode (mB Lw_main) 326 = .ok (.iconst 0, 1) := by decide +kernel
theorem dLw_law_327 : decode (mB Lw_main) 327 = .ok (.laload, 1) := by decide +kernel
theorem dLw_law_328 : decode (mB Lw_main) 328 = .ok (.iload 7, 2) := by decide +kernel
theorem dLw_law_330 : decode (mB Lw_main) 330 = .ok (.i2l, 1) := by decide +kernel
theorem dLw_law_331 : decode (mB Lw_main) 331 = .ok (.lcmp, 1) := by decide +kernel
theorem dLw_law_332 : decode (mB Lw_main) 332 = .ok (.ifCond .eq 5, 3) := by decide +kernel
theorem dLw_law_335 : decode (mB Lw_main) 335 = .ok (.iconst 0, 1) := by decide +kernel
theorem dLw_law_336 : decode (mB Lw_main) 336 = .ok (.ireturn, 1) := by decide +kernel
theorem dLw_law_337 : decode (mB Lw_main) 337 = .ok (.goto 2183, 3) := by decide +kernel
theorem dLw_law_340 : decode (mB Lw_main) 340 = .ok (.aload_n 1, 1) := by decide +kernel
theorem dLw_law_341 : decode (mB Lw_main) 341 = .ok (.aload_n 0, 1) := by decide +kernel
theorem dLw_law_342 : decode (mB Lw_main) 342 = .ok (.iload 5, 2) := by decide +kernel
theorem dLw_law_344 : decode (mB Lw_main) 344 = .ok (.iconst 1, 1) := by decide +kernel
theorem dLw_law_345 : decode (mB Lw_main) 345 = .ok (.iadd, 1) := by decide +kernel
theorem dLw_law_346 : decode (mB Lw_main) 346 = .ok (.iaload, 1) := by decide +kernel
theorem dLw_law_347 : decode (mB Lw_main) 347 = .ok (.aload_n 0, 1) := by decide +kernel
theorem dLw_law_348 : decode (mB Lw_main) 348 = .ok (.iload 5, 2) := by decide +kernel
theorem dLw_law_350 : decode (mB Lw_main) 350 = .ok (.iconst 2, 1) := by decide +kernel
theorem dLw_law_351 : decode (mB Lw_main) 351 = .ok (.iadd, 1) := by decide +kernel
theorem dLw_law_352 : decode (mB Lw_main) 352 = .ok (.iaload, 1) := by decide +kernel
theorem dLw_law_353 : decode (mB Lw_main) 353 = .ok (.aload_n 0, 1) := by decide +kernel
theorem dLw_law_354 : decode (mB Lw_main) 354 = .ok (.iload 5, 2) := by decide +kernel
theorem dLw_law_356 : decode (mB Lw_main) 356 = .ok (.iconst 3, 1) := by decide +kernel
theorem dLw_law_357 : decode (mB Lw_main) 357 = .ok (.iadd, 1) := by decide +kernel
theorem dLw_law_358 : decode (mB Lw_main) 358 = .ok (.iaload, 1) := by decide +kernel
theorem dLw_law_359 : decode (mB Lw_main) 359 = .ok (.aload_n 0, 1) := by decide +kernel
theorem dLw_law_360 : decode (mB Lw_main) 360 = .ok (.iload 5, 2) := by decide +kernel
theorem dLw_law_362 : decode (mB Lw_main) 362 = .ok (.iconst 4, 1) := by decide +kernel
theorem dLw_law_363 : decode (mB Lw_main) 363 = .ok (.iadd, 1) := by decide +kernel
theorem dLw_law_364 : decode (mB Lw_main) 364 = .ok (.iaload, 1) := by decide +kernel
theorem dLw_law_365 : decode (mB Lw_main) 365 = .ok (.aload_n 0, 1) := by decide +kernel
theorem dLw_law_366 : decode (mB Lw_main) 366 = .ok (.iload 5, 2) := by decide +kernel
theorem dLw_law_368 : decode (mB Lw_main) 368 = .ok (.iconst 5, 1) := by decide +kernel
theorem dLw_law_369 : decode (mB Lw_main) 369 = .ok (.iadd, 1) := by decide +kernel
theorem dLw_law_370 : decode (mB Lw_main) 370 = .ok (.iaload, 1) := by decide +kernel
theorem dLw_law_371 : decode (mB Lw_main) 371 = .ok (.aload_n 3, 1) := by decide +kernel
theorem dLw_law_372 : decode (mB Lw_main) 372 = .ok (.invokestatic 137, 3) := by decide +kernel
theorem dLw_law_375 : decode (mB Lw_main) 375 = .ok (.istore 6, 2) := by decide +kernel
theorem dLw_law_377 : decode (mB Lw_main) 377 = .ok (.aload_n 2, 1) := by decide +kernel
theorem dLw_law_378 : decode (mB Lw_main) 378 = .ok (.aload_n 0, 1) := by decide +kernel
theorem dLw_law_379 : decode (mB Lw_main) 379 = .ok (.iload 5, 2) := by decide +kernel
theorem dLw_law_381 : decode (mB Lw_main) 381 = .ok (.iconst 1, 1) := by decide +kernel
theorem dLw_law_382 : decode (mB Lw_main) 382 = .ok (.iadd, 1) := by decide +kernel
theorem dLw_law_383 : decode (mB Lw_main) 383 = .ok (.iaload, 1) := by decide +kernel
theorem dLw_law_384 : decode (mB Lw_main) 384 = .ok (.aload_n 0, 1) := by decide +kernel
theorem dLw_law_385 : decode (mB Lw_main) 385 = .ok (.iload 5, 2) := by decide +kernel
theorem dLw_law_387 : decode (mB Lw_main) 387 = .ok (.iconst 2, 1) := by decide +kernel
theorem dLw_law_388 : decode (mB Lw_main) 388 = .ok (.iadd, 1) := by decide +kernel
theorem dLw_law_389 : decode (mB Lw_main) 389 = .ok (.iaload, 1) := by decide +kernel
theorem dLw_law_390 : decode (mB Lw_main) 390 = .ok (.aload_n 0, 1) := by decide +kernel
theorem dLw_law_391 : decode (mB Lw_main) 391 = .ok (.iload 5, 2) := by decide +kernel
theorem dLw_law_393 : decode (mB Lw_main) 393 = .ok (.iconst 3, 1) := by decide +kernel
theorem dLw_law_394 : decode (mB Lw_main) 394 = .ok (.iadd, 1) := by decide +kernel
theorem dLw_law_395 : decode (mB Lw_main) 395 = .ok (.iaload, 1) := by decide +kernel
theorem dLw_law_396 : decode (mB Lw_main) 396 = .ok (.aload_n 0, 1) := by decide +kernel
theorem dLw_law_397 : decode (mB Lw_main) 397 = .ok (.iload 5, 2) := by decide +kernel
theorem dLw_law_399 : decode (mB Lw_main) 399 = .ok (.iconst 4, 1) := by decide +kernel
theorem dLw_law_400 : decode (mB Lw_main) 400 = .ok (.iadd, 1) := by decide +kernel
theorem dLw_law_401 : decode (mB Lw_main) 401 = .ok (.iaload, 1) := by decide +kernel
theorem dLw_law_402 : decode (mB Lw_main) 402 = .ok (.aload_n 0, 1) := by decide +kernel
theorem dLw_law_403 : decode (mB Lw_main) 403 = .ok (.iload 5, 2) := by decide +kernel
theorem dLw_law_405 : decode (mB Lw_main) 405 = .ok (.iconst 5, 1) := by decide +kernel
theorem dLw_law_406 : decode (mB Lw_main) 406 = .ok (.iadd, 1) := by decide +kernel
theorem dLw_law_407 : decode (mB Lw_main) 407 = .ok (.iaload, 1) := by decide +kernel
theorem dLw_law_408 : decode (mB Lw_main) 408 = .ok (.invokevirtual 140, 3) := by decide +kernel
theorem dLw_law_411 : decode (mB Lw_main) 411 = .ok (.istore 7, 2) := by decide +kernel
theorem dLw_law_413 : decode (mB Lw_main) 413 = .ok (.aload_n 2, 1) := by decide +kernel
theorem dLw_law_414 : decode (mB Lw_main) 414 = .ok (.invokevirtual 130, 3) := by decide +kernel
theorem dLw_law_417 : decode (mB Lw_main) 417 = .ok (.iload 6, 2) := by decide +kernel
theorem dLw_law_419 : decode (mB Lw_main) 419 = .ok (.if_icmp .eq 5, 3) := by decide +kernel
theorem dLw_law_422 : decode (mB Lw_main) 422 = .ok (.iconst 0, 1) := by decide +kernel
theorem dLw_law_423 : decode (mB Lw_main) 423 = .ok (.ireturn, 1) := by decide +kernel
theorem dLw_law_424 : decode (mB Lw_main) 424 = .ok (.iload 6, 2) := by decide +kernel
theorem dLw_law_426 : decode (mB Lw_main) 426 = .ok (.ifCond .ne 15, 3) := by decide +kernel
theorem dLw_law_429 : decode (mB Lw_main) 429 = .ok (.aload_n 3, 1) := by decide +kernel
theorem dLw_law_430 : decode (mB Lw_main) 430 = .ok (.iconst 0, 1) := by decide +kernel
theorem dLw_law_431 : decode (mB Lw_main) 431 = .ok (.laload, 1) := by decide +kernel
theorem dLw_law_432 : decode (mB Lw_main) 432 = .ok (.iload 7, 2) := by decide +kernel
theorem dLw_law_434 : decode (mB Lw_main) 434 = .ok (.i2l, 1) := by decide +kernel
theorem dLw_law_435 : decode (mB Lw_main) 435 = .ok (.lcmp, 1) := by decide +kernel
theorem dLw_law_436 : decode (mB Lw_main) 436 = .ok (.ifCond .eq 5, 3) := by decide +kernel
theorem dLw_law_439 : decode (mB Lw_main) 439 = .ok (.iconst 0, 1) := by decide +kernel
theorem dLw_law_440 : decode (mB Lw_main) 440 = .ok (.ireturn, 1) := by decide +kernel
theorem dLw_law_441 : decode (mB Lw_main) 441 = .ok (.goto 2079, 3) := by decide +kernel
theorem dLw_law_444 : decode (mB Lw_main) 444 = .ok (.aload_n 1, 1) := by decide +kernel
theorem dLw_law_445 : decode (mB Lw_main) 445 = .ok (.aload_n 0, 1) := by decide +kernel
theorem dLw_law_446 : decode (mB Lw_main) 446 = .ok (.iload 5, 2) := by decide +kernel
theorem dLw_law_448 : decode (mB Lw_main) 448 = .ok (.iconst 1, 1) := by decide +kernel
theorem dLw_law_449 : decode (mB Lw_main) 449 = .ok (.iadd, 1) := by decide +kernel
theorem dLw_law_450 : decode (mB Lw_main) 450 = .ok (.iaload, 1) := by decide +kernel
theorem dLw_law_451 : decode (mB Lw_main) 451 = .ok (.aload_n 0, 1) := by decide +kernel
theorem dLw_law_452 : decode (mB Lw_main) 452 = .ok (.iload 5, 2) := by decide +kernel
theorem dLw_law_454 : decode (mB Lw_main) 454 = .ok (.iconst 2, 1) := by decide +kernel
theorem dLw_law_455 : decode (mB Lw_main) 455 = .ok (.iadd, 1) := by decide +kernel
theorem dLw_law_456 : decode (mB Lw_main) 456 = .ok (.iaload, 1) := by decide +kernel
theorem dLw_law_457 : decode (mB Lw_main) 457 = .ok (.aload_n 3, 1) := by decide +kernel
theorem dLw_law_458 : decode (mB Lw_main) 458 = .ok (.invokestatic 141, 3) := by decide +kernel
theorem dLw_law_461 : decode (mB Lw_main) 461 = .ok (.istore 6, 2) := by decide +kernel
theorem dLw_law_463 : decode (mB Lw_main) 463 = .ok (.aload_n 2, 1) := by decide +kernel
theorem dLw_law_464 : decode (mB Lw_main) 464 = .ok (.aload_n 0, 1) := by decide +kernel
theorem dLw_law_465 : decode (mB Lw_main) 465 = .ok (.iload 5, 2) := by decide +kernel
theorem dLw_law_467 : decode (mB Lw_main) 467 = .ok (.iconst 1, 1) := by decide +kernel
theorem dLw_law_468 : decode (mB Lw_main) 468 = .ok (.iadd, 1) := by decide +kernel
theorem dLw_law_469 : decode (mB Lw_main) 469 = .ok (.iaload, 1) := by decide +kernel
theorem dLw_law_470 : decode (mB Lw_main) 470 = .ok (.aload_n 0, 1) := by decide +kernel
theorem dLw_law_471 : decode (mB Lw_main) 471 = .ok (.iload 5, 2) := by decide +kernel
theorem dLw_law_473 : decode (mB Lw_main) 473 = .ok (.iconst 2, 1) := by decide +kernel
theorem dLw_law_474 : decode (mB Lw_main) 474 = .ok (.iadd, 1) := by decide +kernel
theorem dLw_law_475 : decode (mB Lw_main) 475 = .ok (.iaload, 1) := by decide +kernel
theorem dLw_law_476 : decode (mB Lw_main) 476 = .ok (.invokevirtual 144, 3) := by decide +kernel
theorem dLw_law_479 : decode (mB Lw_main) 479 = .ok (.istore 7, 2) := by decide +kernel
theorem dLw_law_481 : decode (mB Lw_main) 481 = .ok (.aload_n 2, 1) := by decide +kernel
theorem dLw_law_482 : decode (mB Lw_main) 482 = .ok (.invokevirtual 130, 3) := by decide +kernel
theorem dLw_law_485 : decode (mB Lw_main) 485 = .ok (.iload 6, 2) := by decide +kernel
theorem dLw_law_487 : decode (mB Lw_main) 487 = .ok (.if_icmp .eq 5, 3) := by decide +kernel
theorem dLw_law_490 : decode (mB Lw_main) 490 = .ok (.iconst 0, 1) := by decide +kernel
theorem dLw_law_491 : decode (mB Lw_main) 491 = .ok (.ireturn, 1) := by decide +kernel
theorem dLw_law_492 : decode (mB Lw_main) 492 = .ok (.iload 6, 2) := by decide +kernel
theorem dLw_law_494 : decode (mB Lw_main) 494 = .ok (.ifCond .ne 15, 3) := by decide +kernel
theorem dLw_law_497 : decode (mB Lw_main) 497 = .ok (.aload_n 3, 1) := by decide +kernel
theorem dLw_law_498 : decode (mB Lw_main) 498 = .ok (.iconst 0, 1) := by decide +kernel
theorem dLw_law_499 : decode (mB Lw_main) 499 = .ok (.laload, 1) := by decide +kernel
theorem dLw_law_500 : decode (mB Lw_main) 500 = .ok (.iload 7, 2) := by decide +kernel
theorem dLw_law_502 : decode (mB Lw_main) 502 = .ok (.i2l, 1) := by decide +kernel
theorem dLw_law_503 : decode (mB Lw_main) 503 = .ok (.lcmp, 1) := by decide +kernel
theorem dLw_law_504 : decode (mB Lw_main) 504 = .ok (.ifCond .eq 5, 3) := by decide +kernel
theorem dLw_law_507 : decode (mB Lw_main) 507 = .ok (.iconst 0, 1) := by decide +kernel
theorem dLw_law_508 : decode (mB Lw_main) 508 = .ok (.ireturn, 1) := by decide +kernel
theorem dLw_law_509 : decode (mB Lw_main) 509 = .ok (.goto 2011, 3) := by decide +kernel
theorem dLw_law_512 : decode (mB Lw_main) 512 = .ok (.aload_n 1, 1) := by decide +kernel
theorem dLw_law_513 : decode (mB Lw_main) 513 = .ok (.aload_n 0, 1) := by decide +kernel
theorem dLw_law_514 : decode (mB Lw_main) 514 = .ok (.iload 5, 2) := by decide +kernel
theorem dLw_law_516 : decode (mB Lw_main) 516 = .ok (.iconst 1, 1) := by decide +kernel
theorem dLw_law_517 : decode (mB Lw_main) 517 = .ok (.iadd, 1) := by decide +kernel
theorem dLw_law_518 : decode (mB Lw_main) 518 = .ok (.iaload, 1) := by decide +kernel
theorem dLw_law_519 : decode (mB Lw_main) 519 = .ok (.aload_n 0, 1) := by decide +kernel
theorem dLw_law_520 : decode (mB Lw_main) 520 = .ok (.iload 5, 2) := by decide +kernel
theorem dLw_law_522 : decode (mB Lw_main) 522 = .ok (.iconst 2, 1) := by decide +kernel
theorem dLw_law_523 : decode (mB Lw_main) 523 = .ok (.iadd, 1) := by decide +kernel
theorem dLw_law_524 : decode (mB Lw_main) 524 = .ok (.iaload, 1) := by decide +kernel
theorem dLw_law_525 : decode (mB Lw_main) 525 = .ok (.aload_n 0, 1) := by decide +kernel
theorem dLw_law_526 : decode (mB Lw_main) 526 = .ok (.iload 5, 2) := by decide +kernel
theorem dLw_law_528 : decode (mB Lw_main) 528 = .ok (.iconst 3, 1) := by decide +kernel
theorem dLw_law_529 : decode (mB Lw_main) 529 = .ok (.iadd, 1) := by decide +kernel
theorem dLw_law_530 : decode (mB Lw_main) 530 = .ok (.iaload, 1) := by decide +kernel
theorem dLw_law_531 : decode (mB Lw_main) 531 = .ok (.aload_n 3, 1) := by decide +kernel
theorem dLw_law_532 : decode (mB Lw_main) 532 = .ok (.invokestatic 145, 3) := by decide +kernel
theorem dLw_law_535 : decode (mB Lw_main) 535 = .ok (.istore 6, 2) := by decide +kernel
theorem dLw_law_537 : decode (mB Lw_main) 537 = .ok (.aload_n 2, 1) := by decide +kernel
theorem dLw_law_538 : decode (mB Lw_main) 538 = .ok (.aload_n 0, 1) := by decide +kernel
theorem dLw_law_539 : decode (mB Lw_main) 539 = .ok (.iload 5, 2) := by decide +kernel
theorem dLw_law_541 : decode (mB Lw_main) 541 = .ok (.iconst 1, 1) := by decide +kernel
theorem dLw_law_542 : decode (mB Lw_main) 542 = .ok (.iadd, 1) := by decide +kernel
theorem dLw_law_543 : decode (mB Lw_main) 543 = .ok (.iaload, 1) := by decide +kernel
theorem dLw_law_544 : decode (mB Lw_main) 544 = .ok (.aload_n 0, 1) := by decide +kernel
theorem dLw_law_545 : decode (mB Lw_main) 545 = .ok (.iload 5, 2) := by decide +kernel
theorem dLw_law_547 : decode (mB Lw_main) 547 = .ok (.iconst 2, 1) := by decide +kernel
theorem dLw_law_548 : decode (mB Lw_main) 548 = .ok (.iadd, 1) := by decide +kernel
theorem dLw_law_549 : decode (mB Lw_main) 549 = .ok (.iaload, 1) := by decide +kernel
theorem dLw_law_550 : decode (mB Lw_main) 550 = .ok (.aload_n 0, 1) := by decide +kernel
theorem dLw_law_551 : decode (mB Lw_main) 551 = .ok (.iload 5, 2) := by decide +kernel
theorem dLw_law_553 : decode (mB Lw_main) 553 = .ok (.iconst 3, 1) := by decide +kernel
theorem dLw_law_554 : decode (mB Lw_main) 554 = .ok (.iadd, 1) := by decide +kernel
theorem dLw_law_555 : decode (mB Lw_main) 555 = .ok (.iaload, 1) := by decide +kernel
theorem dLw_law_556 : decode (mB Lw_main) 556 = .ok (.invokevirtual 147, 3) := by decide +kernel
theorem dLw_law_559 : decode (mB Lw_main) 559 = .ok (.istore 7, 2) := by decide +kernel
theorem dLw_law_561 : decode (mB Lw_main) 561 = .ok (.aload_n 2, 1) := by decide +kernel
theorem dLw_law_562 : decode (mB Lw_main) 562 = .ok (.invokevirtual 130, 3) := by decide +kernel
theorem dLw_law_565 : decode (mB Lw_main) 565 = .ok (.iload 6, 2) := by decide +kernel
theorem dLw_law_567 : decode (mB Lw_main) 567 = .ok (.if_icmp .eq 5, 3) := by decide +kernel
theorem dLw_law_570 : decode (mB Lw_main) 570 = .ok (.iconst 0, 1) := by decide +kernel
theorem dLw_law_571 : decode (mB Lw_main) 571 = .ok (.ireturn, 1) := by decide +kernel
theorem dLw_law_572 : decode (mB Lw_main) 572 = .ok (.iload 6, 2) := by decide +kernel
theorem dLw_law_574 : decode (mB Lw_main) 574 = .ok (.ifCond .ne 15, 3) := by decide +kernel
theorem dLw_law_577 : decode (mB Lw_main) 577 = .ok (.aload_n 3, 1) := by decide +kernel
theorem dLw_law_578 : decode (mB Lw_main) 578 = .ok (.iconst 0, 1) := by decide +kernel
theorem dLw_law_579 : decode (mB Lw_main) 579 = .ok (.laload, 1) := by decide +kernel
theorem dLw_law_580 : decode (mB Lw_main) 580 = .ok (.iload 7, 2) := by decide +kernel
theorem dLw_law_582 : decode (mB Lw_main) 582 = .ok (.i2l, 1) := by decide +kernel
theorem dLw_law_583 : decode (mB Lw_main) 583 = .ok (.lcmp, 1) := by decide +kernel
theorem dLw_law_584 : decode (mB Lw_main) 584 = .ok (.ifCond .eq 5, 3) := by decide +kernel
theorem dLw_law_587 : decode (mB Lw_main) 587 = .ok (.iconst 0, 1) := by decide +kernel
theorem dLw_law_588 : decode (mB Lw_main) 588 = .ok (.ireturn, 1) := by decide +kernel
theorem dLw_law_589 : decode (mB Lw_main) 589 = .ok (.goto 1931, 3) := by decide +kernel
theorem dLw_law_592 : decode (mB Lw_main) 592 = .ok (.aload_n 1, 1) := by decide +kernel
theorem dLw_law_593 : decode (mB Lw_main) 593 = .ok (.aload_n 0, 1) := by decide +kernel
theorem dLw_law_594 : decode (mB Lw_main) 594 = .ok (.iload 5, 2) := by decide +kernel
theorem dLw_law_596 : decode (mB Lw_main) 596 = .ok (.iconst 1, 1) := by decide +kernel
theorem dLw_law_597 : decode (mB Lw_main) 597 = .ok (.iadd, 1) := by decide +kernel
theorem dLw_law_598 : decode (mB Lw_main) 598 = .ok (.iaload, 1) := by decide +kernel
theorem dLw_law_599 : decode (mB Lw_main) 599 = .ok (.aload_n 3, 1) := by decide +kernel
theorem dLw_law_600 : decode (mB Lw_main) 600 = .ok (.invokestatic 148, 3) := by decide +kernel
theorem dLw_law_603 : decode (mB Lw_main) 603 = .ok (.istore 6, 2) := by decide +kernel
theorem dLw_law_605 : decode (mB Lw_main) 605 = .ok (.aload_n 2, 1) := by decide +kernel
theorem dLw_law_606 : decode (mB Lw_main) 606 = .ok (.aload_n 0, 1) := by decide +kernel
theorem dLw_law_607 : decode (mB Lw_main) 607 = .ok (.iload 5, 2) := by decide +kernel
theorem dLw_law_609 : decode (mB Lw_main) 609 = .ok (.iconst 1, 1) := by decide +kernel
theorem dLw_law_610 : decode (mB Lw_main) 610 = .ok (.iadd, 1) := by decide +kernel
theorem dLw_law_611 : decode (mB Lw_main) 611 = .ok (.iaload, 1) := by decide +kernel
theorem dLw_law_612 : decode (mB Lw_main) 612 = .ok (.invokevirtual 150, 3) := by decide +kernel
theorem dLw_law_615 : decode (mB Lw_main) 615 = .ok (.istore 7, 2) := by decide +kernel
theorem dLw_law_617 : decode (mB Lw_main) 617 = .ok (.aload_n 2, 1) := by decide +kernel
theorem dLw_law_618 : decode (mB Lw_main) 618 = .ok (.invokevirtual 130, 3) := by decide +kernel
theorem dLw_law_621 : decode (mB Lw_main) 621 = .ok (.iload 6, 2) := by decide +kernel
theorem dLw_law_623 : decode (mB Lw_main) 623 = .ok (.if_icmp .eq 5, 3) := by decide +kernel
theorem dLw_law_626 : decode (mB Lw_main) 626 = .ok (.iconst 0, 1) := by decide +kernel
theorem dLw_law_627 : decode (mB Lw_main) 627 = .ok (.ireturn, 1) := by decide +kernel
theorem dLw_law_628 : decode (mB Lw_main) 628 = .ok (.iload 6, 2) := by decide +kernel
theorem dLw_law_630 : decode (mB Lw_main) 630 = .ok (.ifCond .ne 15, 3) := by decide +kernel
theorem dLw_law_633 : decode (mB Lw_main) 633 = .ok (.aload_n 3, 1) := by decide +kernel
theorem dLw_law_634 : decode (mB Lw_main) 634 = .ok (.iconst 0, 1) := by decide +kernel
theorem dLw_law_635 : decode (mB Lw_main) 635 = .ok (.laload, 1) := by decide +kernel
theorem dLw_law_636 : decode (mB Lw_main) 636 = .ok (.iload 7, 2) := by decide +kernel
theorem dLw_law_638 : decode (mB Lw_main) 638 = .ok (.i2l, 1) := by decide +kernel
theorem dLw_law_639 : decode (mB Lw_main) 639 = .ok (.lcmp, 1) := by decide +kernel
theorem dLw_law_640 : decode (mB Lw_main) 640 = .ok (.ifCond .eq 5, 3) := by decide +kernel
theorem dLw_law_643 : decode (mB Lw_main) 643 = .ok (.iconst 0, 1) := by decide +kernel
theorem dLw_law_644 : decode (mB Lw_main) 644 = .ok (.ireturn, 1) := by decide +kernel
theorem dLw_law_645 : decode (mB Lw_main) 645 = .ok (.goto 1875, 3) := by decide +kernel
theorem dLw_law_648 : decode (mB Lw_main) 648 = .ok (.aload_n 1, 1) := by decide +kernel
theorem dLw_law_649 : decode (mB Lw_main) 649 = .ok (.aload_n 3, 1) := by decide +kernel
theorem dLw_law_650 : decode (mB Lw_main) 650 = .ok (.invokestatic 151, 3) := by decide +kernel
theorem dLw_law_653 : decode (mB Lw_main) 653 = .ok (.istore 6, 2) := by decide +kernel
theorem dLw_law_655 : decode (mB Lw_main) 655 = .ok (.aload_n 2, 1) := by decide +kernel
theorem dLw_law_656 : decode (mB Lw_main) 656 = .ok (.invokevirtual 154, 3) := by decide +kernel
theorem dLw_law_659 : decode (mB Lw_main) 659 = .ok (.istore 7, 2) := by decide +kernel
theorem dLw_law_661 : decode (mB Lw_main) 661 = .ok (.aload_n 2, 1) := by decide +kernel
theorem dLw_law_662 : decode (mB Lw_main) 662 = .ok (.invokevirtual 130, 3) := by decide +kernel
theorem dLw_law_665 : decode (mB Lw_main) 665 = .ok (.iload 6, 2) := by decide +kernel
theorem dLw_law_667 : decode (mB Lw_main) 667 = .ok (.if_icmp .eq 5, 3) := by decide +kernel
theorem dLw_law_670 : decode (mB Lw_main) 670 = .ok (.iconst 0, 1) := by decide +kernel
theorem dLw_law_671 : decode (mB Lw_main) 671 = .ok (.ireturn, 1) := by decide +kernel
theorem dLw_law_672 : decode (mB Lw_main) 672 = .ok (.iload 6, 2) := by decide +kernel
theorem dLw_law_674 : decode (mB Lw_main) 674 = .ok (.ifCond .ne 15, 3) := by decide +kernel
theorem dLw_law_677 : decode (mB Lw_main) 677 = .ok (.aload_n 3, 1) := by decide +kernel
theorem dLw_law_678 : decode (mB Lw_main) 678 = .ok (.iconst 0, 1) := by decide +kernel
theorem dLw_law_679 : decode (mB Lw_main) 679 = .ok (.laload, 1) := by decide +kernel
theorem dLw_law_680 : decode (mB Lw_main) 680 = .ok (.iload 7, 2) := by decide +kernel
theorem dLw_law_682 : decode (mB Lw_main) 682 = .ok (.i2l, 1) := by decide +kernel
theorem dLw_law_683 : decode (mB Lw_main) 683 = .ok (.lcmp, 1) := by decide +kernel
theorem dLw_law_684 : decode (mB Lw_main) 684 = .ok (.ifCond .eq 5, 3) := by decide +kernel
theorem dLw_law_687 : decode (mB Lw_main) 687 = .ok (.iconst 0, 1) := by decide +kernel
theorem dLw_law_688 : decode (mB Lw_main) 688 = .ok (.ireturn, 1) := by decide +kernel
theorem dLw_law_689 : decode (mB Lw_main) 689 = .ok (.goto 1831, 3) := by decide +kernel
theorem dLw_law_692 : decode (mB Lw_main) 692 = .ok (.aload_n 1, 1) := by decide +kernel
theorem dLw_law_693 : decode (mB Lw_main) 693 = .ok (.aload_n 0, 1) := by decide +kernel
theorem dLw_law_694 : decode (mB Lw_main) 694 = .ok (.iload 5, 2) := by decide +kernel
theorem dLw_law_696 : decode (mB Lw_main) 696 = .ok (.iconst 1, 1) := by decide +kernel
theorem dLw_law_697 : decode (mB Lw_main) 697 = .ok (.iadd, 1) := by decide +kernel
theorem dLw_law_698 : decode (mB Lw_main) 698 = .ok (.iaload, 1) := by decide +kernel
theorem dLw_law_699 : decode (mB Lw_main) 699 = .ok (.aload_n 0, 1) := by decide +kernel
theorem dLw_law_700 : decode (mB Lw_main) 700 = .ok (.iload 5, 2) := by decide +kernel
theorem dLw_law_702 : decode (mB Lw_main) 702 = .ok (.iconst 2, 1) := by decide +kernel
theorem dLw_law_703 : decode (mB Lw_main) 703 = .ok (.iadd, 1) := by decide +kernel
theorem dLw_law_704 : decode (mB Lw_main) 704 = .ok (.iaload, 1) := by decide +kernel
theorem dLw_law_705 : decode (mB Lw_main) 705 = .ok (.aload_n 3, 1) := by decide +kernel
theorem dLw_law_706 : decode (mB Lw_main) 706 = .ok (.invokestatic 155, 3) := by decide +kernel
theorem dLw_law_709 : decode (mB Lw_main) 709 = .ok (.istore 6, 2) := by decide +kernel
theorem dLw_law_711 : decode (mB Lw_main) 711 = .ok (.aload_n 2, 1) := by decide +kernel
theorem dLw_law_712 : decode (mB Lw_main) 712 = .ok (.aload_n 0, 1) := by decide +kernel
theorem dLw_law_713 : decode (mB Lw_main) 713 = .ok (.iload 5, 2) := by decide +kernel
theorem dLw_law_715 : decode (mB Lw_main) 715 = .ok (.iconst 1, 1) := by decide +kernel
theorem dLw_law_716 : decode (mB Lw_main) 716 = .ok (.iadd, 1) := by decide +kernel
theorem dLw_law_717 : decode (mB Lw_main) 717 = .ok (.iaload, 1) := by decide +kernel
theorem dLw_law_718 : decode (mB Lw_main) 718 = .ok (.aload_n 0, 1) := by decide +kernel
theorem dLw_law_719 : decode (mB Lw_main) 719 = .ok (.iload 5, 2) := by decide +kernel
theorem dLw_law_721 : decode (mB Lw_main) 721 = .ok (.iconst 2, 1) := by decide +kernel
theorem dLw_law_722 : decode (mB Lw_main) 722 = .ok (.iadd, 1) := by decide +kernel
theorem dLw_law_723 : decode (mB Lw_main) 723 = .ok (.iaload, 1) := by decide +kernel
theorem dLw_law_724 : decode (mB Lw_main) 724 = .ok (.invokevirtual 157, 3) := by decide +kernel
theorem dLw_law_727 : decode (mB Lw_main) 727 = .ok (.istore 7, 2) := by decide +kernel
theorem dLw_law_729 : decode (mB Lw_main) 729 = .ok (.aload_n 2, 1) := by decide +kernel
theorem dLw_law_730 : decode (mB Lw_main) 730 = .ok (.invokevirtual 130, 3) := by decide +kernel
theorem dLw_law_733 : decode (mB Lw_main) 733 = .ok (.iload 6, 2) := by decide +kernel
theorem dLw_law_735 : decode (mB Lw_main) 735 = .ok (.if_icmp .eq 5, 3) := by decide +kernel
theorem dLw_law_738 : decode (mB Lw_main) 738 = .ok (.iconst 0, 1) := by decide +kernel
theorem dLw_law_739 : decode (mB Lw_main) 739 = .ok (.ireturn, 1) := by decide +kernel
theorem dLw_law_740 : decode (mB Lw_main) 740 = .ok (.iload 6, 2) := by decide +kernel
theorem dLw_law_742 : decode (mB Lw_main) 742 = .ok (.ifCond .ne 15, 3) := by decide +kernel
theorem dLw_law_745 : decode (mB Lw_main) 745 = .ok (.aload_n 3, 1) := by decide +kernel
theorem dLw_law_746 : decode (mB Lw_main) 746 = .ok (.iconst 0, 1) := by decide +kernel
theorem dLw_law_747 : decode (mB Lw_main) 747 = .ok (.laload, 1) := by decide +kernel
theorem dLw_law_748 : decode (mB Lw_main) 748 = .ok (.iload 7, 2) := by decide +kernel
theorem dLw_law_750 : decode (mB Lw_main) 750 = .ok (.i2l, 1) := by decide +kernel
theorem dLw_law_751 : decode (mB Lw_main) 751 = .ok (.lcmp, 1) := by decide +kernel
theorem dLw_law_752 : decode (mB Lw_main) 752 = .ok (.ifCond .eq 5, 3) := by decide +kernel
theorem dLw_law_755 : decode (mB Lw_main) 755 = .ok (.iconst 0, 1) := by decide +kernel
theorem dLw_law_756 : decode (mB Lw_main) 756 = .ok (.ireturn, 1) := by decide +kernel
theorem dLw_law_757 : decode (mB Lw_main) 757 = .ok (.goto 1763, 3) := by decide +kernel
theorem dLw_law_760 : decode (mB Lw_main) 760 = .ok (.aload_n 1, 1) := by decide +kernel
theorem dLw_law_761 : decode (mB Lw_main) 761 = .ok (.aload_n 0, 1) := by decide +kernel
theorem dLw_law_762 : decode (mB Lw_main) 762 = .ok (.iload 5, 2) := by decide +kernel
theorem dLw_law_764 : decode (mB Lw_main) 764 = .ok (.iconst 1, 1) := by decide +kernel
theorem dLw_law_765 : decode (mB Lw_main) 765 = .ok (.iadd, 1) := by decide +kernel
theorem dLw_law_766 : decode (mB Lw_main) 766 = .ok (.iaload, 1) := by decide +kernel
theorem dLw_law_767 : decode (mB Lw_main) 767 = .ok (.aload_n 3, 1) := by decide +kernel
theorem dLw_law_768 : decode (mB Lw_main) 768 = .ok (.invokestatic 158, 3) := by decide +kernel
theorem dLw_law_771 : decode (mB Lw_main) 771 = .ok (.istore 6, 2) := by decide +kernel
theorem dLw_law_773 : decode (mB Lw_main) 773 = .ok (.aload_n 2, 1) := by decide +kernel
theorem dLw_law_774 : decode (mB Lw_main) 774 = .ok (.aload_n 0, 1) := by decide +kernel
theorem dLw_law_775 : decode (mB Lw_main) 775 = .ok (.iload 5, 2) := by decide +kernel
theorem dLw_law_777 : decode (mB Lw_main) 777 = .ok (.iconst 1, 1) := by decide +kernel
theorem dLw_law_778 : decode (mB Lw_main) 778 = .ok (.iadd, 1) := by decide +kernel
theorem dLw_law_779 : decode (mB Lw_main) 779 = .ok (.iaload, 1) := by decide +kernel
theorem dLw_law_780 : decode (mB Lw_main) 780 = .ok (.invokevirtual 160, 3) := by decide +kernel
theorem dLw_law_783 : decode (mB Lw_main) 783 = .ok (.istore 7, 2) := by decide +kernel
theorem dLw_law_785 : decode (mB Lw_main) 785 = .ok (.aload_n 2, 1) := by decide +kernel
theorem dLw_law_786 : decode (mB Lw_main) 786 = .ok (.invokevirtual 130, 3) := by decide +kernel
theorem dLw_law_789 : decode (mB Lw_main) 789 = .ok (.iload 6, 2) := by decide +kernel
theorem dLw_law_791 : decode (mB Lw_main) 791 = .ok (.if_icmp .eq 5, 3) := by decide +kernel
theorem dLw_law_794 : decode (mB Lw_main) 794 = .ok (.iconst 0, 1) := by decide +kernel
theorem dLw_law_795 : decode (mB Lw_main) 795 = .ok (.ireturn, 1) := by decide +kernel
theorem dLw_law_796 : decode (mB Lw_main) 796 = .ok (.iload 6, 2) := by decide +kernel
theorem dLw_law_798 : decode (mB Lw_main) 798 = .ok (.ifCond .ne 15, 3) := by decide +kernel
theorem dLw_law_801 : decode (mB Lw_main) 801 = .ok (.aload_n 3, 1) := by decide +kernel
theorem dLw_law_802 : decode (mB Lw_main) 802 = .ok (.iconst 0, 1) := by decide +kernel
theorem dLw_law_803 : decode (mB Lw_main) 803 = .ok (.laload, 1) := by decide +kernel
theorem dLw_law_804 : decode (mB Lw_main) 804 = .ok (.iload 7, 2) := by decide +kernel
theorem dLw_law_806 : decode (mB Lw_main) 806 = .ok (.i2l, 1) := by decide +kernel
theorem dLw_law_807 : decode (mB Lw_main) 807 = .ok (.lcmp, 1) := by decide +kernel
theorem dLw_law_808 : decode (mB Lw_main) 808 = .ok (.ifCond .eq 5, 3) := by decide +kernel
theorem dLw_law_811 : decode (mB Lw_main) 811 = .ok (.iconst 0, 1) := by decide +kernel
theorem dLw_law_812 : decode (mB Lw_main) 812 = .ok (.ireturn, 1) := by decide +kernel
theorem dLw_law_813 : decode (mB Lw_main) 813 = .ok (.goto 1707, 3) := by decide +kernel
theorem dLw_law_816 : decode (mB Lw_main) 816 = .ok (.aload_n 1, 1) := by decide +kernel
theorem dLw_law_817 : decode (mB Lw_main) 817 = .ok (.aload_n 0, 1) := by decide +kernel
theorem dLw_law_818 : decode (mB Lw_main) 818 = .ok (.iload 5, 2) := by decide +kernel
theorem dLw_law_820 : decode (mB Lw_main) 820 = .ok (.iconst 1, 1) := by decide +kernel
theorem dLw_law_821 : decode (mB Lw_main) 821 = .ok (.iadd, 1) := by decide +kernel
theorem dLw_law_822 : decode (mB Lw_main) 822 = .ok (.iaload, 1) := by decide +kernel
theorem dLw_law_823 : decode (mB Lw_main) 823 = .ok (.aload_n 0, 1) := by decide +kernel
theorem dLw_law_824 : decode (mB Lw_main) 824 = .ok (.iload 5, 2) := by decide +kernel
theorem dLw_law_826 : decode (mB Lw_main) 826 = .ok (.iconst 2, 1) := by decide +kernel
theorem dLw_law_827 : decode (mB Lw_main) 827 = .ok (.iadd, 1) := by decide +kernel
theorem dLw_law_828 : decode (mB Lw_main) 828 = .ok (.iaload, 1) := by decide +kernel
theorem dLw_law_829 : decode (mB Lw_main) 829 = .ok (.aload_n 3, 1) := by decide +kernel
theorem dLw_law_830 : decode (mB Lw_main) 830 = .ok (.invokestatic 161, 3) := by decide +kernel
theorem dLw_law_833 : decode (mB Lw_main) 833 = .ok (.istore 6, 2) := by decide +kernel
theorem dLw_law_835 : decode (mB Lw_main) 835 = .ok (.aload_n 2, 1) := by decide +kernel
theorem dLw_law_836 : decode (mB Lw_main) 836 = .ok (.aload_n 0, 1) := by decide +kernel
theorem dLw_law_837 : decode (mB Lw_main) 837 = .ok (.iload 5, 2) := by decide +kernel
theorem dLw_law_839 : decode (mB Lw_main) 839 = .ok (.iconst 1, 1) := by decide +kernel
theorem dLw_law_840 : decode (mB Lw_main) 840 = .ok (.iadd, 1) := by decide +kernel
theorem dLw_law_841 : decode (mB Lw_main) 841 = .ok (.iaload, 1) := by decide +kernel
theorem dLw_law_842 : decode (mB Lw_main) 842 = .ok (.aload_n 0, 1) := by decide +kernel
theorem dLw_law_843 : decode (mB Lw_main) 843 = .ok (.iload 5, 2) := by decide +kernel
theorem dLw_law_845 : decode (mB Lw_main) 845 = .ok (.iconst 2, 1) := by decide +kernel
theorem dLw_law_846 : decode (mB Lw_main) 846 = .ok (.iadd, 1) := by decide +kernel
theorem dLw_law_847 : decode (mB Lw_main) 847 = .ok (.iaload, 1) := by decide +kernel
theorem dLw_law_848 : decode (mB Lw_main) 848 = .ok (.invokevirtual 163, 3) := by decide +kernel
theorem dLw_law_851 : decode (mB Lw_main) 851 = .ok (.istore 7, 2) := by decide +kernel
theorem dLw_law_853 : decode (mB Lw_main) 853 = .ok (.aload_n 2, 1) := by decide +kernel
theorem dLw_law_854 : decode (mB Lw_main) 854 = .ok (.invokevirtual 130, 3) := by decide +kernel
theorem dLw_law_857 : decode (mB Lw_main) 857 = .ok (.iload 6, 2) := by decide +kernel
theorem dLw_law_859 : decode (mB Lw_main) 859 = .ok (.if_icmp .eq 5, 3) := by decide +kernel
theorem dLw_law_862 : decode (mB Lw_main) 862 = .ok (.iconst 0, 1) := by decide +kernel
theorem dLw_law_863 : decode (mB Lw_main) 863 = .ok (.ireturn, 1) := by decide +kernel
theorem dLw_law_864 : decode (mB Lw_main) 864 = .ok (.iload 6, 2) := by decide +kernel
theorem dLw_law_866 : decode (mB Lw_main) 866 = .ok (.ifCond .ne 15, 3) := by decide +kernel
theorem dLw_law_869 : decode (mB Lw_main) 869 = .ok (.aload_n 3, 1) := by decide +kernel
theorem dLw_law_870 : decode (mB Lw_main) 870 = .ok (.iconst 0, 1) := by decide +kernel
theorem dLw_law_871 : decode (mB Lw_main) 871 = .ok (.laload, 1) := by decide +kernel
theorem dLw_law_872 : decode (mB Lw_main) 872 = .ok (.iload 7, 2) := by decide +kernel
theorem dLw_law_874 : decode (mB Lw_main) 874 = .ok (.i2l, 1) := by decide +kernel
theorem dLw_law_875 : decode (mB Lw_main) 875 = .ok (.lcmp, 1) := by decide +kernel
theorem dLw_law_876 : decode (mB Lw_main) 876 = .ok (.ifCond .eq 5, 3) := by decide +kernel
theorem dLw_law_879 : decode (mB Lw_main) 879 = .ok (.iconst 0, 1) := by decide +kernel
theorem dLw_law_880 : decode (mB Lw_main) 880 = .ok (.ireturn, 1) := by decide +kernel
theorem dLw_law_881 : decode (mB Lw_main) 881 = .ok (.goto 1639, 3) := by decide +kernel
theorem dLw_law_884 : decode (mB Lw_main) 884 = .ok (.aload_n 1, 1) := by decide +kernel
theorem dLw_law_885 : decode (mB Lw_main) 885 = .ok (.invokevirtual 164, 3) := by decide +kernel
theorem dLw_law_888 : decode (mB Lw_main) 888 = .ok (.aload_n 2, 1) := by decide +kernel
theorem dLw_law_889 : decode (mB Lw_main) 889 = .ok (.invokevirtual 167, 3) := by decide +kernel
theorem dLw_law_892 : decode (mB Lw_main) 892 = .ok (.if_icmp .eq 1628, 3) := by decide +kernel
theorem dLw_law_895 : decode (mB Lw_main) 895 = .ok (.iconst 0, 1) := by decide +kernel
theorem dLw_law_896 : decode (mB Lw_main) 896 = .ok (.ireturn, 1) := by decide +kernel
theorem dLw_law_897 : decode (mB Lw_main) 897 = .ok (.aload_n 1, 1) := by decide +kernel
theorem dLw_law_898 : decode (mB Lw_main) 898 = .ok (.aload_n 0, 1) := by decide +kernel
theorem dLw_law_899 : decode (mB Lw_main) 899 = .ok (.iload 5, 2) := by decide +kernel
theorem dLw_law_901 : decode (mB Lw_main) 901 = .ok (.iconst 1, 1) := by decide +kernel
theorem dLw_law_902 : decode (mB Lw_main) 902 = .ok (.iadd, 1) := by decide +kernel
theorem dLw_law_903 : decode (mB Lw_main) 903 = .ok (.iaload, 1) := by decide +kernel
theorem dLw_law_904 : decode (mB Lw_main) 904 = .ok (.aload_n 0, 1) := by decide +kernel
theorem dLw_law_905 : decode (mB Lw_main) 905 = .ok (.iload 5, 2) := by decide +kernel
theorem dLw_law_907 : decode (mB Lw_main) 907 = .ok (.iconst 2, 1) := by decide +kernel
theorem dLw_law_908 : decode (mB Lw_main) 908 = .ok (.iadd, 1) := by decide +kernel
theorem dLw_law_909 : decode (mB Lw_main) 909 = .ok (.iaload, 1) := by decide +kernel
theorem dLw_law_910 : decode (mB Lw_main) 910 = .ok (.aload_n 3, 1) := by decide +kernel
theorem dLw_law_911 : decode (mB Lw_main) 911 = .ok (.invokestatic 168, 3) := by decide +kernel
theorem dLw_law_914 : decode (mB Lw_main) 914 = .ok (.istore 6, 2) := by decide +kernel
theorem dLw_law_916 : decode (mB Lw_main) 916 = .ok (.aload_n 2, 1) := by decide +kernel
theorem dLw_law_917 : decode (mB Lw_main) 917 = .ok (.aload_n 0, 1) := by decide +kernel
theorem dLw_law_918 : decode (mB Lw_main) 918 = .ok (.iload 5, 2) := by decide +kernel
theorem dLw_law_920 : decode (mB Lw_main) 920 = .ok (.iconst 1, 1) := by decide +kernel
theorem dLw_law_921 : decode (mB Lw_main) 921 = .ok (.iadd, 1) := by decide +kernel
theorem dLw_law_922 : decode (mB Lw_main) 922 = .ok (.iaload, 1) := by decide +kernel
theorem dLw_law_923 : decode (mB Lw_main) 923 = .ok (.aload_n 0, 1) := by decide +kernel
theorem dLw_law_924 : decode (mB Lw_main) 924 = .ok (.iload 5, 2) := by decide +kernel
theorem dLw_law_926 : decode (mB Lw_main) 926 = .ok (.iconst 2, 1) := by decide +kernel
theorem dLw_law_927 : decode (mB Lw_main) 927 = .ok (.iadd, 1) := by decide +kernel
theorem dLw_law_928 : decode (mB Lw_main) 928 = .ok (.iaload, 1) := by decide +kernel
theorem dLw_law_929 : decode (mB Lw_main) 929 = .ok (.invokevirtual 170, 3) := by decide +kernel
theorem dLw_law_932 : decode (mB Lw_main) 932 = .ok (.istore 7, 2) := by decide +kernel
theorem dLw_law_934 : decode (mB Lw_main) 934 = .ok (.aload_n 2, 1) := by decide +kernel
theorem dLw_law_935 : decode (mB Lw_main) 935 = .ok (.invokevirtual 130, 3) := by decide +kernel
theorem dLw_law_938 : decode (mB Lw_main) 938 = .ok (.iload 6, 2) := by decide +kernel
theorem dLw_law_940 : decode (mB Lw_main) 940 = .ok (.if_icmp .eq 5, 3) := by decide +kernel
theorem dLw_law_943 : decode (mB Lw_main) 943 = .ok (.iconst 0, 1) := by decide +kernel
theorem dLw_law_944 : decode (mB Lw_main) 944 = .ok (.ireturn, 1) := by decide +kernel
theorem dLw_law_945 : decode (mB Lw_main) 945 = .ok (.iload 6, 2) := by decide +kernel
theorem dLw_law_947 : decode (mB Lw_main) 947 = .ok (.ifCond .ne 15, 3) := by decide +kernel
theorem dLw_law_950 : decode (mB Lw_main) 950 = .ok (.aload_n 3, 1) := by decide +kernel
theorem dLw_law_951 : decode (mB Lw_main) 951 = .ok (.iconst 0, 1) := by decide +kernel
theorem dLw_law_952 : decode (mB Lw_main) 952 = .ok (.laload, 1) := by decide +kernel
theorem dLw_law_953 : decode (mB Lw_main) 953 = .ok (.iload 7, 2) := by decide +kernel
theorem dLw_law_955 : decode (mB Lw_main) 955 = .ok (.i2l, 1) := by decide +kernel
theorem dLw_law_956 : decode (mB Lw_main) 956 = .ok (.lcmp, 1) := by decide +kernel
theorem dLw_law_957 : decode (mB Lw_main) 957 = .ok (.ifCond .eq 5, 3) := by decide +kernel
theorem dLw_law_960 : decode (mB Lw_main) 960 = .ok (.iconst 0, 1) := by decide +kernel
theorem dLw_law_961 : decode (mB Lw_main) 961 = .ok (.ireturn, 1) := by decide +kernel
theorem dLw_law_962 : decode (mB Lw_main) 962 = .ok (.goto 1558, 3) := by decide +kernel
theorem dLw_law_965 : decode (mB Lw_main) 965 = .ok (.aload_n 1, 1) := by decide +kernel
theorem dLw_law_966 : decode (mB Lw_main) 966 = .ok (.aload_n 0, 1) := by decide +kernel
theorem dLw_law_967 : decode (mB Lw_main) 967 = .ok (.iload 5, 2) := by decide +kernel
theorem dLw_law_969 : decode (mB Lw_main) 969 = .ok (.iconst 1, 1) := by decide +kernel
theorem dLw_law_970 : decode (mB Lw_main) 970 = .ok (.iadd, 1) := by decide +kernel
theorem dLw_law_971 : decode (mB Lw_main) 971 = .ok (.iaload, 1) := by decide +kernel
theorem dLw_law_972 : decode (mB Lw_main) 972 = .ok (.aload_n 0, 1) := by decide +kernel
theorem dLw_law_973 : decode (mB Lw_main) 973 = .ok (.iload 5, 2) := by decide +kernel
theorem dLw_law_975 : decode (mB Lw_main) 975 = .ok (.iconst 2, 1) := by decide +kernel
theorem dLw_law_976 : decode (mB Lw_main) 976 = .ok (.iadd, 1) := by decide +kernel
theorem dLw_law_977 : decode (mB Lw_main) 977 = .ok (.iaload, 1) := by decide +kernel
theorem dLw_law_978 : decode (mB Lw_main) 978 = .ok (.aload_n 0, 1) := by decide +kernel
theorem dLw_law_979 : decode (mB Lw_main) 979 = .ok (.iload 5, 2) := by decide +kernel
theorem dLw_law_981 : decode (mB Lw_main) 981 = .ok (.iconst 3, 1) := by decide +kernel
theorem dLw_law_982 : decode (mB Lw_main) 982 = .ok (.iadd, 1) := by decide +kernel
theorem dLw_law_983 : decode (mB Lw_main) 983 = .ok (.iaload, 1) := by decide +kernel
theorem dLw_law_984 : decode (mB Lw_main) 984 = .ok (.aload_n 3, 1) := by decide +kernel
theorem dLw_law_985 : decode (mB Lw_main) 985 = .ok (.invokestatic 171, 3) := by decide +kernel
theorem dLw_law_988 : decode (mB Lw_main) 988 = .ok (.istore 6, 2) := by decide +kernel
theorem dLw_law_990 : decode (mB Lw_main) 990 = .ok (.aload_n 2, 1) := by decide +kernel
theorem dLw_law_991 : decode (mB Lw_main) 991 = .ok (.aload_n 0, 1) := by decide +kernel
theorem dLw_law_992 : decode (mB Lw_main) 992 = .ok (.iload 5, 2) := by decide +kernel
theorem dLw_law_994 : decode (mB Lw_main) 994 = .ok (.iconst 1, 1) := by decide +kernel
theorem dLw_law_995 : decode (mB Lw_main) 995 = .ok (.iadd, 1) := by decide +kernel
theorem dLw_law_996 : decode (mB Lw_main) 996 = .ok (.iaload, 1) := by decide +kernel
theorem dLw_law_997 : decode (mB Lw_main) 997 = .ok (.aload_n 0, 1) := by decide +kernel
theorem dLw_law_998 : decode (mB Lw_main) 998 = .ok (.iload 5, 2) := by decide +kernel
theorem dLw_law_1000 : decode (mB Lw_main) 1000 = .ok (.iconst 2, 1) := by decide +kernel
theorem dLw_law_1001 : decode (mB Lw_main) 1001 = .ok (.iadd, 1) := by decide +kernel
theorem dLw_law_1002 : decode (mB Lw_main) 1002 = .ok (.iaload, 1) := by decide +kernel
theorem dLw_law_1003 : decode (mB Lw_main) 1003 = .ok (.aload_n 0, 1) := by decide +kernel
theorem dLw_law_1004 : decode (mB Lw_main) 1004 = .ok (.iload 5, 2) := by decide +kernel
theorem dLw_law_1006 : decode (mB Lw_main) 1006 = .ok (.iconst 3, 1) := by decide +kernel
theorem dLw_law_1007 : decode (mB Lw_main) 1007 = .ok (.iadd, 1) := by decide +kernel
theorem dLw_law_1008 : decode (mB Lw_main) 1008 = .ok (.iaload, 1) := by decide +kernel
theorem dLw_law_1009 : decode (mB Lw_main) 1009 = .ok (.invokevirtual 173, 3) := by decide +kernel
theorem dLw_law_1012 : decode (mB Lw_main) 1012 = .ok (.istore 7, 2) := by decide +kernel
theorem dLw_law_1014 : decode (mB Lw_main) 1014 = .ok (.aload_n 2, 1) := by decide +kernel
theorem dLw_law_1015 : decode (mB Lw_main) 1015 = .ok (.invokevirtual 130, 3) := by decide +kernel
theorem dLw_law_1018 : decode (mB Lw_main) 1018 = .ok (.iload 6, 2) := by decide +kernel
theorem dLw_law_1020 : decode (mB Lw_main) 1020 = .ok (.if_icmp .eq 5, 3) := by decide +kernel
theorem dLw_law_1023 : decode (mB Lw_main) 1023 = .ok (.iconst 0, 1) := by decide +kernel
theorem dLw_law_1024 : decode (mB Lw_main) 1024 = .ok (.ireturn, 1) := by decide +kernel
theorem dLw_law_1025 : decode (mB Lw_main) 1025 = .ok (.iload 6, 2) := by decide +kernel
theorem dLw_law_1027 : decode (mB Lw_main) 1027 = .ok (.ifCond .ne 15, 3) := by decide +kernel
theorem dLw_law_1030 : decode (mB Lw_main) 1030 = .ok (.aload_n 3, 1) := by decide +kernel
theorem dLw_law_1031 : decode (mB Lw_main) 1031 = .ok (.iconst 0, 1) := by decide +kernel
theorem dLw_law_1032 : decode (mB Lw_main) 1032 = .ok (.laload, 1) := by decide +kernel
theorem dLw_law_1033 : decode (mB Lw_main) 1033 = .ok (.iload 7, 2) := by decide +kernel
theorem dLw_law_1035 : decode (mB Lw_main) 1035 = .ok (.i2l, 1) := by decide +kernel
theorem dLw_law_1036 : decode (mB Lw_main) 1036 = .ok (.lcmp, 1) := by decide +kernel
theorem dLw_law_1037 : decode (mB Lw_main) 1037 = .ok (.ifCond .eq 5, 3) := by decide +kernel
theorem dLw_law_1040 : decode (mB Lw_main) 1040 = .ok (.iconst 0, 1) := by decide +kernel
theorem dLw_law_1041 : decode (mB Lw_main) 1041 = .ok (.ireturn, 1) := by decide +kernel
theorem dLw_law_1042 : decode (mB Lw_main) 1042 = .ok (.goto 1478, 3) := by decide +kernel
theorem dLw_law_1045 : decode (mB Lw_main) 1045 = .ok (.aload_n 1, 1) := by decide +kernel
theorem dLw_law_1046 : decode (mB Lw_main) 1046 = .ok (.aload_n 0, 1) := by decide +kernel
theorem dLw_law_1047 : decode (mB Lw_main) 1047 = .ok (.iload 5, 2) := by decide +kernel
theorem dLw_law_1049 : decode (mB Lw_main) 1049 = .ok (.iconst 1, 1) := by decide +kernel
theorem dLw_law_1050 : decode (mB Lw_main) 1050 = .ok (.iadd, 1) := by decide +kernel
theorem dLw_law_1051 : decode (mB Lw_main) 1051 = .ok (.iaload, 1) := by decide +kernel
theorem dLw_law_1052 : decode (mB Lw_main) 1052 = .ok (.aload_n 0, 1) := by decide +kernel
theorem dLw_law_1053 : decode (mB Lw_main) 1053 = .ok (.iload 5, 2) := by decide +kernel
theorem dLw_law_1055 : decode (mB Lw_main) 1055 = .ok (.iconst 2, 1) := by decide +kernel
theorem dLw_law_1056 : decode (mB Lw_main) 1056 = .ok (.iadd, 1) := by decide +kernel
theorem dLw_law_1057 : decode (mB Lw_main) 1057 = .ok (.iaload, 1) := by decide +kernel
theorem dLw_law_1058 : decode (mB Lw_main) 1058 = .ok (.aload_n 0, 1) := by decide +kernel
theorem dLw_law_1059 : decode (mB Lw_main) 1059 = .ok (.iload 5, 2) := by decide +kernel
theorem dLw_law_1061 : decode (mB Lw_main) 1061 = .ok (.iconst 3, 1) := by decide +kernel
theorem dLw_law_1062 : decode (mB Lw_main) 1062 = .ok (.iadd, 1) := by decide +kernel
theorem dLw_law_1063 : decode (mB Lw_main) 1063 = .ok (.iaload, 1) := by decide +kernel
theorem dLw_law_1064 : decode (mB Lw_main) 1064 = .ok (.aload_n 3, 1) := by decide +kernel
theorem dLw_law_1065 : decode (mB Lw_main) 1065 = .ok (.invokestatic 174, 3) := by decide +kernel
theorem dLw_law_1068 : decode (mB Lw_main) 1068 = .ok (.istore 6, 2) := by decide +kernel
theorem dLw_law_1070 : decode (mB Lw_main) 1070 = .ok (.aload_n 2, 1) := by decide +kernel
theorem dLw_law_1071 : decode (mB Lw_main) 1071 = .ok (.aload_n 0, 1) := by decide +kernel
theorem dLw_law_1072 : decode (mB Lw_main) 1072 = .ok (.iload 5, 2) := by decide +kernel
theorem dLw_law_1074 : decode (mB Lw_main) 1074 = .ok (.iconst 1, 1) := by decide +kernel
theorem dLw_law_1075 : decode (mB Lw_main) 1075 = .ok (.iadd, 1) := by decide +kernel
theorem dLw_law_1076 : decode (mB Lw_main) 1076 = .ok (.iaload, 1) := by decide +kernel
theorem dLw_law_1077 : decode (mB Lw_main) 1077 = .ok (.aload_n 0, 1) := by decide +kernel
theorem dLw_law_1078 : decode (mB Lw_main) 1078 = .ok (.iload 5, 2) := by decide +kernel
theorem dLw_law_1080 : decode (mB Lw_main) 1080 = .ok (.iconst 2, 1) := by decide +kernel
theorem dLw_law_1081 : decode (mB Lw_main) 1081 = .ok (.iadd, 1) := by decide +kernel
theorem dLw_law_1082 : decode (mB Lw_main) 1082 = .ok (.iaload, 1) := by decide +kernel
theorem dLw_law_1083 : decode (mB Lw_main) 1083 = .ok (.aload_n 0, 1) := by decide +kernel
theorem dLw_law_1084 : decode (mB Lw_main) 1084 = .ok (.iload 5, 2) := by decide +kernel
theorem dLw_law_1086 : decode (mB Lw_main) 1086 = .ok (.iconst 3, 1) := by decide +kernel
theorem dLw_law_1087 : decode (mB Lw_main) 1087 = .ok (.iadd, 1) := by decide +kernel
theorem dLw_law_1088 : decode (mB Lw_main) 1088 = .ok (.iaload, 1) := by decide +kernel
theorem dLw_law_1089 : decode (mB Lw_main) 1089 = .ok (.invokevirtual 176, 3) := by decide +kernel
theorem dLw_law_1092 : decode (mB Lw_main) 1092 = .ok (.istore 7, 2) := by decide +kernel
theorem dLw_law_1094 : decode (mB Lw_main) 1094 = .ok (.aload_n 2, 1) := by decide +kernel
theorem dLw_law_1095 : decode (mB Lw_main) 1095 = .ok (.invokevirtual 130, 3) := by decide +kernel
theorem dLw_law_1098 : decode (mB Lw_main) 1098 = .ok (.iload 6, 2) := by decide +kernel
theorem dLw_law_1100 : decode (mB Lw_main) 1100 = .ok (.if_icmp .eq 5, 3) := by decide +kernel
theorem dLw_law_1103 : decode (mB Lw_main) 1103 = .ok (.iconst 0, 1) := by decide +kernel
theorem dLw_law_1104 : decode (mB Lw_main) 1104 = .ok (.ireturn, 1) := by decide +kernel
theorem dLw_law_1105 : decode (mB Lw_main) 1105 = .ok (.iload 6, 2) := by decide +kernel
theorem dLw_law_1107 : decode (mB Lw_main) 1107 = .ok (.ifCond .ne 15, 3) := by decide +kernel
theorem dLw_law_1110 : decode (mB Lw_main) 1110 = .ok (.aload_n 3, 1) := by decide +kernel
theorem dLw_law_1111 : decode (mB Lw_main) 1111 = .ok (.iconst 0, 1) := by decide +kernel
theorem dLw_law_1112 : decode (mB Lw_main) 1112 = .ok (.laload, 1) := by decide +kernel
theorem dLw_law_1113 : decode (mB Lw_main) 1113 = .ok (.iload 7, 2) := by decide +kernel
theorem dLw_law_1115 : decode (mB Lw_main) 1115 = .ok (.i2l, 1) := by decide +kernel
theorem dLw_law_1116 : decode (mB Lw_main) 1116 = .ok (.lcmp, 1) := by decide +kernel
theorem dLw_law_1117 : decode (mB Lw_main) 1117 = .ok (.ifCond .eq 5, 3) := by decide +kernel
theorem dLw_law_1120 : decode (mB Lw_main) 1120 = .ok (.iconst 0, 1) := by decide +kernel
theorem dLw_law_1121 : decode (mB Lw_main) 1121 = .ok (.ireturn, 1) := by decide +kernel
theorem dLw_law_1122 : decode (mB Lw_main) 1122 = .ok (.goto 1398, 3) := by decide +kernel
theorem dLw_law_1125 : decode (mB Lw_main) 1125 = .ok (.aload_n 1, 1) := by decide +kernel
theorem dLw_law_1126 : decode (mB Lw_main) 1126 = .ok (.aload_n 0, 1) := by decide +kernel
theorem dLw_law_1127 : decode (mB Lw_main) 1127 = .ok (.iload 5, 2) := by decide +kernel
theorem dLw_law_1129 : decode (mB Lw_main) 1129 = .ok (.iconst 1, 1) := by decide +kernel
theorem dLw_law_1130 : decode (mB Lw_main) 1130 = .ok (.iadd, 1) := by decide +kernel
theorem dLw_law_1131 : decode (mB Lw_main) 1131 = .ok (.iaload, 1) := by decide +kernel
theorem dLw_law_1132 : decode (mB Lw_main) 1132 = .ok (.aload_n 0, 1) := by decide +kernel
theorem dLw_law_1133 : decode (mB Lw_main) 1133 = .ok (.iload 5, 2) := by decide +kernel
theorem dLw_law_1135 : decode (mB Lw_main) 1135 = .ok (.iconst 2, 1) := by decide +kernel
theorem dLw_law_1136 : decode (mB Lw_main) 1136 = .ok (.iadd, 1) := by decide +kernel
theorem dLw_law_1137 : decode (mB Lw_main) 1137 = .ok (.iaload, 1) := by decide +kernel
theorem dLw_law_1138 : decode (mB Lw_main) 1138 = .ok (.aload_n 3, 1) := by decide +kernel
theorem dLw_law_1139 : decode (mB Lw_main) 1139 = .ok (.invokestatic 177, 3) := by decide +kernel
theorem dLw_law_1142 : decode (mB Lw_main) 1142 = .ok (.istore 6, 2) := by decide +kernel
theorem dLw_law_1144 : decode (mB Lw_main) 1144 = .ok (.aload_n 2, 1) := by decide +kernel
theorem dLw_law_1145 : decode (mB Lw_main) 1145 = .ok (.aload_n 0, 1) := by decide +kernel
theorem dLw_law_1146 : decode (mB Lw_main) 1146 = .ok (.iload 5, 2) := by decide +kernel
theorem dLw_law_1148 : decode (mB Lw_main) 1148 = .ok (.iconst 1, 1) := by decide +kernel
theorem dLw_law_1149 : decode (mB Lw_main) 1149 = .ok (.iadd, 1) := by decide +kernel
theorem dLw_law_1150 : decode (mB Lw_main) 1150 = .ok (.iaload, 1) := by decide +kernel
theorem dLw_law_1151 : decode (mB Lw_main) 1151 = .ok (.aload_n 0, 1) := by decide +kernel
theorem dLw_law_1152 : decode (mB Lw_main) 1152 = .ok (.iload 5, 2) := by decide +kernel
theorem dLw_law_1154 : decode (mB Lw_main) 1154 = .ok (.iconst 2, 1) := by decide +kernel
theorem dLw_law_1155 : decode (mB Lw_main) 1155 = .ok (.iadd, 1) := by decide +kernel
theorem dLw_law_1156 : decode (mB Lw_main) 1156 = .ok (.iaload, 1) := by decide +kernel
theorem dLw_law_1157 : decode (mB Lw_main) 1157 = .ok (.invokevirtual 179, 3) := by decide +kernel
theorem dLw_law_1160 : decode (mB Lw_main) 1160 = .ok (.istore 7, 2) := by decide +kernel
theorem dLw_law_1162 : decode (mB Lw_main) 1162 = .ok (.aload_n 2, 1) := by decide +kernel
theorem dLw_law_1163 : decode (mB Lw_main) 1163 = .ok (.invokevirtual 130, 3) := by decide +kernel
theorem dLw_law_1166 : decode (mB Lw_main) 1166 = .ok (.iload 6, 2) := by decide +kernel
theorem dLw_law_1168 : decode (mB Lw_main) 1168 = .ok (.if_icmp .eq 5, 3) := by decide +kernel
theorem dLw_law_1171 : decode (mB Lw_main) 1171 = .ok (.iconst 0, 1) := by decide +kernel
theorem dLw_law_1172 : decode (mB Lw_main) 1172 = .ok (.ireturn, 1) := by decide +kernel
theorem dLw_law_1173 : decode (mB Lw_main) 1173 = .ok (.iload 6, 2) := by decide +kernel
theorem dLw_law_1175 : decode (mB Lw_main) 1175 = .ok (.ifCond .ne 15, 3) := by decide +kernel
theorem dLw_law_1178 : decode (mB Lw_main) 1178 = .ok (.aload_n 3, 1) := by decide +kernel
theorem dLw_law_1179 : decode (mB Lw_main) 1179 = .ok (.iconst 0, 1) := by decide +kernel
theorem dLw_law_1180 : decode (mB Lw_main) 1180 = .ok (.laload, 1) := by decide +kernel
theorem dLw_law_1181 : decode (mB Lw_main) 1181 = .ok (.iload 7, 2) := by decide +kernel
theorem dLw_law_1183 : decode (mB Lw_main) 1183 = .ok (.i2l, 1) := by decide +kernel
theorem dLw_law_1184 : decode (mB Lw_main) 1184 = .ok (.lcmp, 1) := by decide +kernel
theorem dLw_law_1185 : decode (mB Lw_main) 1185 = .ok (.ifCond .eq 5, 3) := by decide +kernel
theorem dLw_law_1188 : decode (mB Lw_main) 1188 = .ok (.iconst 0, 1) := by decide +kernel
theorem dLw_law_1189 : decode (mB Lw_main) 1189 = .ok (.ireturn, 1) := by decide +kernel
theorem dLw_law_1190 : decode (mB Lw_main) 1190 = .ok (.goto 1330, 3) := by decide +kernel
theorem dLw_law_1193 : decode (mB Lw_main) 1193 = .ok (.aload_n 1, 1) := by decide +kernel
theorem dLw_law_1194 : decode (mB Lw_main) 1194 = .ok (.aload_n 0, 1) := by decide +kernel
theorem dLw_law_1195 : decode (mB Lw_main) 1195 = .ok (.iload 5, 2) := by decide +kernel
theorem dLw_law_1197 : decode (mB Lw_main) 1197 = .ok (.iconst 1, 1) := by decide +kernel
theorem dLw_law_1198 : decode (mB Lw_main) 1198 = .ok (.iadd, 1) := by decide +kernel
theorem dLw_law_1199 : decode (mB Lw_main) 1199 = .ok (.iaload, 1) := by decide +kernel
theorem dLw_law_1200 : decode (mB Lw_main) 1200 = .ok (.aload_n 0, 1) := by decide +kernel
theorem dLw_law_1201 : decode (mB Lw_main) 1201 = .ok (.iload 5, 2) := by decide +kernel
theorem dLw_law_1203 : decode (mB Lw_main) 1203 = .ok (.iconst 2, 1) := by decide +kernel
theorem dLw_law_1204 : decode (mB Lw_main) 1204 = .ok (.iadd, 1) := by decide +kernel
theorem dLw_law_1205 : decode (mB Lw_main) 1205 = .ok (.iaload, 1) := by decide +kernel
theorem dLw_law_1206 : decode (mB Lw_main) 1206 = .ok (.aload_n 3, 1) := by decide +kernel
theorem dLw_law_1207 : decode (mB Lw_main) 1207 = .ok (.invokestatic 180, 3) := by decide +kernel
theorem dLw_law_1210 : decode (mB Lw_main) 1210 = .ok (.istore 6, 2) := by decide +kernel
theorem dLw_law_1212 : decode (mB Lw_main) 1212 = .ok (.aload_n 2, 1) := by decide +kernel
theorem dLw_law_1213 : decode (mB Lw_main) 1213 = .ok (.aload_n 0, 1) := by decide +kernel
theorem dLw_law_1214 : decode (mB Lw_main) 1214 = .ok (.iload 5, 2) := by decide +kernel
theorem dLw_law_1216 : decode (mB Lw_main) 1216 = .ok (.iconst 1, 1) := by decide +kernel
theorem dLw_law_1217 : decode (mB Lw_main) 1217 = .ok (.iadd, 1) := by decide +kernel
theorem dLw_law_1218 : decode (mB Lw_main) 1218 = .ok (.iaload, 1) := by decide +kernel
theorem dLw_law_1219 : decode (mB Lw_main) 1219 = .ok (.aload_n 0, 1) := by decide +kernel
theorem dLw_law_1220 : decode (mB Lw_main) 1220 = .ok (.iload 5, 2) := by decide +kernel
theorem dLw_law_1222 : decode (mB Lw_main) 1222 = .ok (.iconst 2, 1) := by decide +kernel
theorem dLw_law_1223 : decode (mB Lw_main) 1223 = .ok (.iadd, 1) := by decide +kernel
theorem dLw_law_1224 : decode (mB Lw_main) 1224 = .ok (.iaload, 1) := by decide +kernel
theorem dLw_law_1225 : decode (mB Lw_main) 1225 = .ok (.invokevirtual 182, 3) := by decide +kernel
theorem dLw_law_1228 : decode (mB Lw_main) 1228 = .ok (.istore 7, 2) := by decide +kernel
theorem dLw_law_1230 : decode (mB Lw_main) 1230 = .ok (.aload_n 2, 1) := by decide +kernel
theorem dLw_law_1231 : decode (mB Lw_main) 1231 = .ok (.invokevirtual 130, 3) := by decide +kernel
theorem dLw_law_1234 : decode (mB Lw_main) 1234 = .ok (.iload 6, 2) := by decide +kernel
theorem dLw_law_1236 : decode (mB Lw_main) 1236 = .ok (.if_icmp .eq 5, 3) := by decide +kernel
theorem dLw_law_1239 : decode (mB Lw_main) 1239 = .ok (.iconst 0, 1) := by decide +kernel
theorem dLw_law_1240 : decode (mB Lw_main) 1240 = .ok (.ireturn, 1) := by decide +kernel
theorem dLw_law_1241 : decode (mB Lw_main) 1241 = .ok (.iload 6, 2) := by decide +kernel
theorem dLw_law_1243 : decode (mB Lw_main) 1243 = .ok (.ifCond .ne 15, 3) := by decide +kernel
theorem dLw_law_1246 : decode (mB Lw_main) 1246 = .ok (.aload_n 3, 1) := by decide +kernel
theorem dLw_law_1247 : decode (mB Lw_main) 1247 = .ok (.iconst 0, 1) := by decide +kernel
theorem dLw_law_1248 : decode (mB Lw_main) 1248 = .ok (.laload, 1) := by decide +kernel
theorem dLw_law_1249 : decode (mB Lw_main) 1249 = .ok (.iload 7, 2) := by decide +kernel
theorem dLw_law_1251 : decode (mB Lw_main) 1251 = .ok (.i2l, 1) := by decide +kernel
theorem dLw_law_1252 : decode (mB Lw_main) 1252 = .ok (.lcmp, 1) := by decide +kernel
theorem dLw_law_1253 : decode (mB Lw_main) 1253 = .ok (.ifCond .eq 5, 3) := by decide +kernel
theorem dLw_law_1256 : decode (mB Lw_main) 1256 = .ok (.iconst 0, 1) := by decide +kernel
theorem dLw_law_1257 : decode (mB Lw_main) 1257 = .ok (.ireturn, 1) := by decide +kernel
theorem dLw_law_1258 : decode (mB Lw_main) 1258 = .ok (.goto 1262, 3) := by decide +kernel
theorem dLw_law_1261 : decode (mB Lw_main) 1261 = .ok (.aload_n 1, 1) := by decide +kernel
theorem dLw_law_1262 : decode (mB Lw_main) 1262 = .ok (.invokevirtual 183, 3) := by decide +kernel
theorem dLw_law_1265 : decode (mB Lw_main) 1265 = .ok (.aload_n 2, 1) := by decide +kernel
theorem dLw_law_1266 : decode (mB Lw_main) 1266 = .ok (.invokevirtual 186, 3) := by decide +kernel
theorem dLw_law_1269 : decode (mB Lw_main) 1269 = .ok (.if_icmp .eq 1251, 3) := by decide +kernel
theorem dLw_law_1272 : decode (mB Lw_main) 1272 = .ok (.iconst 0, 1) := by decide +kernel
theorem dLw_law_1273 : decode (mB Lw_main) 1273 = .ok (.ireturn, 1) := by decide +kernel
theorem dLw_law_1274 : decode (mB Lw_main) 1274 = .ok (.aload_n 1, 1) := by decide +kernel
theorem dLw_law_1275 : decode (mB Lw_main) 1275 = .ok (.aload_n 0, 1) := by decide +kernel
theorem dLw_law_1276 : decode (mB Lw_main) 1276 = .ok (.iload 5, 2) := by decide +kernel
theorem dLw_law_1278 : decode (mB Lw_main) 1278 = .ok (.iconst 1, 1) := by decide +kernel
theorem dLw_law_1279 : decode (mB Lw_main) 1279 = .ok (.iadd, 1) := by decide +kernel
theorem dLw_law_1280 : decode (mB Lw_main) 1280 = .ok (.iaload, 1) := by decide +kernel
theorem dLw_law_1281 : decode (mB Lw_main) 1281 = .ok (.aload_n 3, 1) := by decide +kernel
theorem dLw_law_1282 : decode (mB Lw_main) 1282 = .ok (.invokestatic 187, 3) := by decide +kernel
theorem dLw_law_1285 : decode (mB Lw_main) 1285 = .ok (.istore 6, 2) := by decide +kernel
theorem dLw_law_1287 : decode (mB Lw_main) 1287 = .ok (.aload_n 2, 1) := by decide +kernel
theorem dLw_law_1288 : decode (mB Lw_main) 1288 = .ok (.aload_n 0, 1) := by decide +kernel
theorem dLw_law_1289 : decode (mB Lw_main) 1289 = .ok (.iload 5, 2) := by decide +kernel
theorem dLw_law_1291 : decode (mB Lw_main) 1291 = .ok (.iconst 1, 1) := by decide +kernel
theorem dLw_law_1292 : decode (mB Lw_main) 1292 = .ok (.iadd, 1) := by decide +kernel
theorem dLw_law_1293 : decode (mB Lw_main) 1293 = .ok (.iaload, 1) := by decide +kernel
theorem dLw_law_1294 : decode (mB Lw_main) 1294 = .ok (.invokevirtual 189, 3) := by decide +kernel
theorem dLw_law_1297 : decode (mB Lw_main) 1297 = .ok (.istore 7, 2) := by decide +kernel
theorem dLw_law_1299 : decode (mB Lw_main) 1299 = .ok (.aload_n 2, 1) := by decide +kernel
theorem dLw_law_1300 : decode (mB Lw_main) 1300 = .ok (.invokevirtual 130, 3) := by decide +kernel
theorem dLw_law_1303 : decode (mB Lw_main) 1303 = .ok (.iload 6, 2) := by decide +kernel
theorem dLw_law_1305 : decode (mB Lw_main) 1305 = .ok (.if_icmp .eq 5, 3) := by decide +kernel
theorem dLw_law_1308 : decode (mB Lw_main) 1308 = .ok (.iconst 0, 1) := by decide +kernel
theorem dLw_law_1309 : decode (mB Lw_main) 1309 = .ok (.ireturn, 1) := by decide +kernel
theorem dLw_law_1310 : decode (mB Lw_main) 1310 = .ok (.iload 6, 2) := by decide +kernel
theorem dLw_law_1312 : decode (mB Lw_main) 1312 = .ok (.ifCond .ne 15, 3) := by decide +kernel
theorem dLw_law_1315 : decode (mB Lw_main) 1315 = .ok (.aload_n 3, 1) := by decide +kernel
theorem dLw_law_1316 : decode (mB Lw_main) 1316 = .ok (.iconst 0, 1) := by decide +kernel
theorem dLw_law_1317 : decode (mB Lw_main) 1317 = .ok (.laload, 1) := by decide +kernel
theorem dLw_law_1318 : decode (mB Lw_main) 1318 = .ok (.iload 7, 2) := by decide +kernel
theorem dLw_law_1320 : decode (mB Lw_main) 1320 = .ok (.i2l, 1) := by decide +kernel
theorem dLw_law_1321 : decode (mB Lw_main) 1321 = .ok (.lcmp, 1) := by decide +kernel
theorem dLw_law_1322 : decode (mB Lw_main) 1322 = .ok (.ifCond .eq 5, 3) := by decide +kernel
theorem dLw_law_1325 : decode (mB Lw_main) 1325 = .ok (.iconst 0, 1) := by decide +kernel
theorem dLw_law_1326 : decode (mB Lw_main) 1326 = .ok (.ireturn, 1) := by decide +kernel
theorem dLw_law_1327 : decode (mB Lw_main) 1327 = .ok (.goto 1193, 3) := by decide +kernel
theorem dLw_law_1330 : decode (mB Lw_main) 1330 = .ok (.aload_n 1, 1) := by decide +kernel
theorem dLw_law_1331 : decode (mB Lw_main) 1331 = .ok (.aload_n 0, 1) := by decide +kernel
theorem dLw_law_1332 : decode (mB Lw_main) 1332 = .ok (.iload 5, 2) := by decide +kernel
theorem dLw_law_1334 : decode (mB Lw_main) 1334 = .ok (.iconst 1, 1) := by decide +kernel
theorem dLw_law_1335 : decode (mB Lw_main) 1335 = .ok (.iadd, 1) := by decide +kernel
theorem dLw_law_1336 : decode (mB Lw_main) 1336 = .ok (.iaload, 1) := by decide +kernel
theorem dLw_law_1337 : decode (mB Lw_main) 1337 = .ok (.aload_n 0, 1) := by decide +kernel
theorem dLw_law_1338 : decode (mB Lw_main) 1338 = .ok (.iload 5, 2) := by decide +kernel
theorem dLw_law_1340 : decode (mB Lw_main) 1340 = .ok (.iconst 2, 1) := by decide +kernel
theorem dLw_law_1341 : decode (mB Lw_main) 1341 = .ok (.iadd, 1) := by decide +kernel
theorem dLw_law_1342 : decode (mB Lw_main) 1342 = .ok (.iaload, 1) := by decide +kernel
theorem dLw_law_1343 : decode (mB Lw_main) 1343 = .ok (.aload_n 3, 1) := by decide +kernel
theorem dLw_law_1344 : decode (mB Lw_main) 1344 = .ok (.invokestatic 190, 3) := by decide +kernel
theorem dLw_law_1347 : decode (mB Lw_main) 1347 = .ok (.istore 6, 2) := by decide +kernel
theorem dLw_law_1349 : decode (mB Lw_main) 1349 = .ok (.aload_n 2, 1) := by decide +kernel
theorem dLw_law_1350 : decode (mB Lw_main) 1350 = .ok (.aload_n 0, 1) := by decide +kernel
theorem dLw_law_1351 : decode (mB Lw_main) 1351 = .ok (.iload 5, 2) := by decide +kernel
theorem dLw_law_1353 : decode (mB Lw_main) 1353 = .ok (.iconst 1, 1) := by decide +kernel
theorem dLw_law_1354 : decode (mB Lw_main) 1354 = .ok (.iadd, 1) := by decide +kernel
theorem dLw_law_1355 : decode (mB Lw_main) 1355 = .ok (.iaload, 1) := by decide +kernel
theorem dLw_law_1356 : decode (mB Lw_main) 1356 = .ok (.aload_n 0, 1) := by decide +kernel
theorem dLw_law_1357 : decode (mB Lw_main) 1357 = .ok (.iload 5, 2) := by decide +kernel
theorem dLw_law_1359 : decode (mB Lw_main) 1359 = .ok (.iconst 2, 1) := by decide +kernel
theorem dLw_law_1360 : decode (mB Lw_main) 1360 = .ok (.iadd, 1) := by decide +kernel
theorem dLw_law_1361 : decode (mB Lw_main) 1361 = .ok (.iaload, 1) := by decide +kernel
theorem dLw_law_1362 : decode (mB Lw_main) 1362 = .ok (.invokevirtual 192, 3) := by decide +kernel
theorem dLw_law_1365 : decode (mB Lw_main) 1365 = .ok (.istore 7, 2) := by decide +kernel
theorem dLw_law_1367 : decode (mB Lw_main) 1367 = .ok (.aload_n 2, 1) := by decide +kernel
theorem dLw_law_1368 : decode (mB Lw_main) 1368 = .ok (.invokevirtual 130, 3) := by decide +kernel
theorem dLw_law_1371 : decode (mB Lw_main) 1371 = .ok (.iload 6, 2) := by decide +kernel
theorem dLw_law_1373 : decode (mB Lw_main) 1373 = .ok (.if_icmp .eq 5, 3) := by decide +kernel
theorem dLw_law_1376 : decode (mB Lw_main) 1376 = .ok (.iconst 0, 1) := by decide +kernel
theorem dLw_law_1377 : decode (mB Lw_main) 1377 = .ok (.ireturn, 1) := by decide +kernel
theorem dLw_law_1378 : decode (mB Lw_main) 1378 = .ok (.iload 6, 2) := by decide +kernel
theorem dLw_law_1380 : decode (mB Lw_main) 1380 = .ok (.ifCond .ne 15, 3) := by decide +kernel
theorem dLw_law_1383 : decode (mB Lw_main) 1383 = .ok (.aload_n 3, 1) := by decide +kernel
theorem dLw_law_1384 : decode (mB Lw_main) 1384 = .ok (.iconst 0, 1) := by decide +kernel
theorem dLw_law_1385 : decode (mB Lw_main) 1385 = .ok (.laload, 1) := by decide +kernel
theorem dLw_law_1386 : decode (mB Lw_main) 1386 = .ok (.iload 7, 2) := by decide +kernel
theorem dLw_law_1388 : decode (mB Lw_main) 1388 = .ok (.i2l, 1) := by decide +kernel
theorem dLw_law_1389 : decode (mB Lw_main) 1389 = .ok (.lcmp, 1) := by decide +kernel
theorem dLw_law_1390 : decode (mB Lw_main) 1390 = .ok (.ifCond .eq 5, 3) := by decide +kernel
theorem dLw_law_1393 : decode (mB Lw_main) 1393 = .ok (.iconst 0, 1) := by decide +kernel
theorem dLw_law_1394 : decode (mB Lw_main) 1394 = .ok (.ireturn, 1) := by decide +kernel
theorem dLw_law_1395 : decode (mB Lw_main) 1395 = .ok (.goto 1125, 3) := by decide +kernel
theorem dLw_law_1398 : decode (mB Lw_main) 1398 = .ok (.aload_n 1, 1) := by decide +kernel
theorem dLw_law_1399 : decode (mB Lw_main) 1399 = .ok (.aload_n 0, 1) := by decide +kernel
theorem dLw_law_1400 : decode (mB Lw_main) 1400 = .ok (.iload 5, 2) := by decide +kernel
theorem dLw_law_1402 : decode (mB Lw_main) 1402 = .ok (.iconst 1, 1) := by decide +kernel
theorem dLw_law_1403 : decode (mB Lw_main) 1403 = .ok (.iadd, 1) := by decide +kernel
theorem dLw_law_1404 : decode (mB Lw_main) 1404 = .ok (.iaload, 1) := by decide +kernel
theorem dLw_law_1405 : decode (mB Lw_main) 1405 = .ok (.aload_n 0, 1) := by decide +kernel
theorem dLw_law_1406 : decode (mB Lw_main) 1406 = .ok (.iload 5, 2) := by decide +kernel
theorem dLw_law_1408 : decode (mB Lw_main) 1408 = .ok (.iconst 2, 1) := by decide +kernel
theorem dLw_law_1409 : decode (mB Lw_main) 1409 = .ok (.iadd, 1) := by decide +kernel
theorem dLw_law_1410 : decode (mB Lw_main) 1410 = .ok (.iaload, 1) := by decide +kernel
theorem dLw_law_1411 : decode (mB Lw_main) 1411 = .ok (.aload_n 3, 1) := by decide +kernel
theorem dLw_law_1412 : decode (mB Lw_main) 1412 = .ok (.invokestatic 193, 3) := by decide +kernel
theorem dLw_law_1415 : decode (mB Lw_main) 1415 = .ok (.istore 6, 2) := by decide +kernel
theorem dLw_law_1417 : decode (mB Lw_main) 1417 = .ok (.aload_n 2, 1) := by decide +kernel
theorem dLw_law_1418 : decode (mB Lw_main) 1418 = .ok (.aload_n 0, 1) := by decide +kernel
theorem dLw_law_1419 : decode (mB Lw_main) 1419 = .ok (.iload 5, 2) := by decide +kernel
theorem dLw_law_1421 : decode (mB Lw_main) 1421 = .ok (.iconst 1, 1) := by decide +kernel
theorem dLw_law_1422 : decode (mB Lw_main) 1422 = .ok (.iadd, 1) := by decide +kernel
theorem dLw_law_1423 : decode (mB Lw_main) 1423 = .ok (.iaload, 1) := by decide +kernel
theorem dLw_law_1424 : decode (mB Lw_main) 1424 = .ok (.aload_n 0, 1) := by decide +kernel
theorem dLw_law_1425 : decode (mB Lw_main) 1425 = .ok (.iload 5, 2) := by decide +kernel
theorem dLw_law_1427 : decode (mB Lw_main) 1427 = .ok (.iconst 2, 1) := by decide +kernel
theorem dLw_law_1428 : decode (mB Lw_main) 1428 = .ok (.iadd, 1) := by decide +kernel
theorem dLw_law_1429 : decode (mB Lw_main) 1429 = .ok (.iaload, 1) := by decide +kernel
theorem dLw_law_1430 : decode (mB Lw_main) 1430 = .ok (.invokevirtual 195, 3) := by decide +kernel
theorem dLw_law_1433 : decode (mB Lw_main) 1433 = .ok (.istore 7, 2) := by decide +kernel
theorem dLw_law_1435 : decode (mB Lw_main) 1435 = .ok (.aload_n 2, 1) := by decide +kernel
theorem dLw_law_1436 : decode (mB Lw_main) 1436 = .ok (.invokevirtual 130, 3) := by decide +kernel
theorem dLw_law_1439 : decode (mB Lw_main) 1439 = .ok (.iload 6, 2) := by decide +kernel
theorem dLw_law_1441 : decode (mB Lw_main) 1441 = .ok (.if_icmp .eq 5, 3) := by decide +kernel
theorem dLw_law_1444 : decode (mB Lw_main) 1444 = .ok (.iconst 0, 1) := by decide +kernel
theorem dLw_law_1445 : decode (mB Lw_main) 1445 = .ok (.ireturn, 1) := by decide +kernel
theorem dLw_law_1446 : decode (mB Lw_main) 1446 = .ok (.iload 6, 2) := by decide +kernel
theorem dLw_law_1448 : decode (mB Lw_main) 1448 = .ok (.ifCond .ne 15, 3) := by decide +kernel
theorem dLw_law_1451 : decode (mB Lw_main) 1451 = .ok (.aload_n 3, 1) := by decide +kernel
theorem dLw_law_1452 : decode (mB Lw_main) 1452 = .ok (.iconst 0, 1) := by decide +kernel
theorem dLw_law_1453 : decode (mB Lw_main) 1453 = .ok (.laload, 1) := by decide +kernel
theorem dLw_law_1454 : decode (mB Lw_main) 1454 = .ok (.iload 7, 2) := by decide +kernel
theorem dLw_law_1456 : decode (mB Lw_main) 1456 = .ok (.i2l, 1) := by decide +kernel
theorem dLw_law_1457 : decode (mB Lw_main) 1457 = .ok (.lcmp, 1) := by decide +kernel
theorem dLw_law_1458 : decode (mB Lw_main) 1458 = .ok (.ifCond .eq 5, 3) := by decide +kernel
theorem dLw_law_1461 : decode (mB Lw_main) 1461 = .ok (.iconst 0, 1) := by decide +kernel
theorem dLw_law_1462 : decode (mB Lw_main) 1462 = .ok (.ireturn, 1) := by decide +kernel
theorem dLw_law_1463 : decode (mB Lw_main) 1463 = .ok (.goto 1057, 3) := by decide +kernel
theorem dLw_law_1466 : decode (mB Lw_main) 1466 = .ok (.aload_n 1, 1) := by decide +kernel
theorem dLw_law_1467 : decode (mB Lw_main) 1467 = .ok (.aload_n 0, 1) := by decide +kernel
theorem dLw_law_1468 : decode (mB Lw_main) 1468 = .ok (.iload 5, 2) := by decide +kernel
theorem dLw_law_1470 : decode (mB Lw_main) 1470 = .ok (.iconst 1, 1) := by decide +kernel
theorem dLw_law_1471 : decode (mB Lw_main) 1471 = .ok (.iadd, 1) := by decide +kernel
theorem dLw_law_1472 : decode (mB Lw_main) 1472 = .ok (.iaload, 1) := by decide +kernel
theorem dLw_law_1473 : decode (mB Lw_main) 1473 = .ok (.aload_n 0, 1) := by decide +kernel
theorem dLw_law_1474 : decode (mB Lw_main) 1474 = .ok (.iload 5, 2) := by decide +kernel
theorem dLw_law_1476 : decode (mB Lw_main) 1476 = .ok (.iconst 2, 1) := by decide +kernel
theorem dLw_law_1477 : decode (mB Lw_main) 1477 = .ok (.iadd, 1) := by decide +kernel
theorem dLw_law_1478 : decode (mB Lw_main) 1478 = .ok (.iaload, 1) := by decide +kernel
theorem dLw_law_1479 : decode (mB Lw_main) 1479 = .ok (.aload_n 3, 1) := by decide +kernel
theorem dLw_law_1480 : decode (mB Lw_main) 1480 = .ok (.invokestatic 196, 3) := by decide +kernel
theorem dLw_law_1483 : decode (mB Lw_main) 1483 = .ok (.istore 6, 2) := by decide +kernel
theorem dLw_law_1485 : decode (mB Lw_main) 1485 = .ok (.aload_n 2, 1) := by decide +kernel
theorem dLw_law_1486 : decode (mB Lw_main) 1486 = .ok (.aload_n 0, 1) := by decide +kernel
theorem dLw_law_1487 : decode (mB Lw_main) 1487 = .ok (.iload 5, 2) := by decide +kernel
theorem dLw_law_1489 : decode (mB Lw_main) 1489 = .ok (.iconst 1, 1) := by decide +kernel
theorem dLw_law_1490 : decode (mB Lw_main) 1490 = .ok (.iadd, 1) := by decide +kernel
theorem dLw_law_1491 : decode (mB Lw_main) 1491 = .ok (.iaload, 1) := by decide +kernel
theorem dLw_law_1492 : decode (mB Lw_main) 1492 = .ok (.aload_n 0, 1) := by decide +kernel
theorem dLw_law_1493 : decode (mB Lw_main) 1493 = .ok (.iload 5, 2) := by decide +kernel
theorem dLw_law_1495 : decode (mB Lw_main) 1495 = .ok (.iconst 2, 1) := by decide +kernel
theorem dLw_law_1496 : decode (mB Lw_main) 1496 = .ok (.iadd, 1) := by decide +kernel
theorem dLw_law_1497 : decode (mB Lw_main) 1497 = .ok (.iaload, 1) := by decide +kernel
theorem dLw_law_1498 : decode (mB Lw_main) 1498 = .ok (.invokevirtual 198, 3) := by decide +kernel
theorem dLw_law_1501 : decode (mB Lw_main) 1501 = .ok (.istore 7, 2) := by decide +kernel
theorem dLw_law_1503 : decode (mB Lw_main) 1503 = .ok (.aload_n 2, 1) := by decide +kernel
theorem dLw_law_1504 : decode (mB Lw_main) 1504 = .ok (.invokevirtual 130, 3) := by decide +kernel
theorem dLw_law_1507 : decode (mB Lw_main) 1507 = .ok (.iload 6, 2) := by decide +kernel
theorem dLw_law_1509 : decode (mB Lw_main) 1509 = .ok (.if_icmp .eq 5, 3) := by decide +kernel
theorem dLw_law_1512 : decode (mB Lw_main) 1512 = .ok (.iconst 0, 1) := by decide +kernel
theorem dLw_law_1513 : decode (mB Lw_main) 1513 = .ok (.ireturn, 1) := by decide +kernel
theorem dLw_law_1514 : decode (mB Lw_main) 1514 = .ok (.iload 6, 2) := by decide +kernel
theorem dLw_law_1516 : decode (mB Lw_main) 1516 = .ok (.ifCond .ne 15, 3) := by decide +kernel
theorem dLw_law_1519 : decode (mB Lw_main) 1519 = .ok (.aload_n 3, 1) := by decide +kernel
theorem dLw_law_1520 : decode (mB Lw_main) 1520 = .ok (.iconst 0, 1) := by decide +kernel
theorem dLw_law_1521 : decode (mB Lw_main) 1521 = .ok (.laload, 1) := by decide +kernel
theorem dLw_law_1522 : decode (mB Lw_main) 1522 = .ok (.iload 7, 2) := by decide +kernel
theorem dLw_law_1524 : decode (mB Lw_main) 1524 = .ok (.i2l, 1) := by decide +kernel
theorem dLw_law_1525 : decode (mB Lw_main) 1525 = .ok (.lcmp, 1) := by decide +kernel
theorem dLw_law_1526 : decode (mB Lw_main) 1526 = .ok (.ifCond .eq 5, 3) := by decide +kernel
theorem dLw_law_1529 : decode (mB Lw_main) 1529 = .ok (.iconst 0, 1) := by decide +kernel
theorem dLw_law_1530 : decode (mB Lw_main) 1530 = .ok (.ireturn, 1) := by decide +kernel
theorem dLw_law_1531 : decode (mB Lw_main) 1531 = .ok (.goto 989, 3) := by decide +kernel
theorem dLw_law_1534 : decode (mB Lw_main) 1534 = .ok (.aload_n 1, 1) := by decide +kernel
theorem dLw_law_1535 : decode (mB Lw_main) 1535 = .ok (.aload_n 0, 1) := by decide +kernel
theorem dLw_law_1536 : decode (mB Lw_main) 1536 = .ok (.iload 5, 2) := by decide +kernel
theorem dLw_law_1538 : decode (mB Lw_main) 1538 = .ok (.iconst 1, 1) := by decide +kernel
theorem dLw_law_1539 : decode (mB Lw_main) 1539 = .ok (.iadd, 1) := by decide +kernel
theorem dLw_law_1540 : decode (mB Lw_main) 1540 = .ok (.iaload, 1) := by decide +kernel
theorem dLw_law_1541 : decode (mB Lw_main) 1541 = .ok (.aload_n 0, 1) := by decide +kernel
theorem dLw_law_1542 : decode (mB Lw_main) 1542 = .ok (.iload 5, 2) := by decide +kernel
theorem dLw_law_1544 : decode (mB Lw_main) 1544 = .ok (.iconst 2, 1) := by decide +kernel
theorem dLw_law_1545 : decode (mB Lw_main) 1545 = .ok (.iadd, 1) := by decide +kernel
theorem dLw_law_1546 : decode (mB Lw_main) 1546 = .ok (.iaload, 1) := by decide +kernel
theorem dLw_law_1547 : decode (mB Lw_main) 1547 = .ok (.aload_n 3, 1) := by decide +kernel
theorem dLw_law_1548 : decode (mB Lw_main) 1548 = .ok (.invokestatic 199, 3) := by decide +kernel
theorem dLw_law_1551 : decode (mB Lw_main) 1551 = .ok (.istore 6, 2) := by decide +kernel
theorem dLw_law_1553 : decode (mB Lw_main) 1553 = .ok (.aload_n 2, 1) := by decide +kernel
theorem dLw_law_1554 : decode (mB Lw_main) 1554 = .ok (.aload_n 0, 1) := by decide +kernel
theorem dLw_law_1555 : decode (mB Lw_main) 1555 = .ok (.iload 5, 2) := by decide +kernel
theorem dLw_law_1557 : decode (mB Lw_main) 1557 = .ok (.iconst 1, 1) := by decide +kernel
theorem dLw_law_1558 : decode (mB Lw_main) 1558 = .ok (.iadd, 1) := by decide +kernel
theorem dLw_law_1559 : decode (mB Lw_main) 1559 = .ok (.iaload, 1) := by decide +kernel
theorem dLw_law_1560 : decode (mB Lw_main) 1560 = .ok (.aload_n 0, 1) := by decide +kernel
theorem dLw_law_1561 : decode (mB Lw_main) 1561 = .ok (.iload 5, 2) := by decide +kernel
theorem dLw_law_1563 : decode (mB Lw_main) 1563 = .ok (.iconst 2, 1) := by decide +kernel
theorem dLw_law_1564 : decode (mB Lw_main) 1564 = .ok (.iadd, 1) := by decide +kernel
theorem dLw_law_1565 : decode (mB Lw_main) 1565 = .ok (.iaload, 1) := by decide +kernel
theorem dLw_law_1566 : decode (mB Lw_main) 1566 = .ok (.invokevirtual 201, 3) := by decide +kernel
theorem dLw_law_1569 : decode (mB Lw_main) 1569 = .ok (.istore 7, 2) := by decide +kernel
theorem dLw_law_1571 : decode (mB Lw_main) 1571 = .ok (.aload_n 2, 1) := by decide +kernel
theorem dLw_law_1572 : decode (mB Lw_main) 1572 = .ok (.invokevirtual 130, 3) := by decide +kernel
theorem dLw_law_1575 : decode (mB Lw_main) 1575 = .ok (.iload 6, 2) := by decide +kernel
theorem dLw_law_1577 : decode (mB Lw_main) 1577 = .ok (.if_icmp .eq 5, 3) := by decide +kernel
theorem dLw_law_1580 : decode (mB Lw_main) 1580 = .ok (.iconst 0, 1) := by decide +kernel
theorem dLw_law_1581 : decode (mB Lw_main) 1581 = .ok (.ireturn, 1) := by decide +kernel
theorem dLw_law_1582 : decode (mB Lw_main) 1582 = .ok (.iload 6, 2) := by decide +kernel
theorem dLw_law_1584 : decode (mB Lw_main) 1584 = .ok (.ifCond .ne 22, 3) := by decide +kernel
theorem dLw_law_1587 : decode (mB Lw_main) 1587 = .ok (.aload_n 3, 1) := by decide +kernel
theorem dLw_law_1588 : decode (mB Lw_main) 1588 = .ok (.iconst 0, 1) := by decide +kernel
theorem dLw_law_1589 : decode (mB Lw_main) 1589 = .ok (.laload, 1) := by decide +kernel
theorem dLw_law_1590 : decode (mB Lw_main) 1590 = .ok (.iload 7, 2) := by decide +kernel
theorem dLw_law_1592 : decode (mB Lw_main) 1592 = .ok (.ifCond .eq 7, 3) := by decide +kernel
theorem dLw_law_1595 : decode (mB Lw_main) 1595 = .ok (.lconst 1, 1) := by decide +kernel
theorem dLw_law_1596 : decode (mB Lw_main) 1596 = .ok (.goto 4, 3) := by decide +kernel
theorem dLw_law_1599 : decode (mB Lw_main) 1599 = .ok (.lconst 0, 1) := by decide +kernel
theorem dLw_law_1600 : decode (mB Lw_main) 1600 = .ok (.lcmp, 1) := by decide +kernel
theorem dLw_law_1601 : decode (mB Lw_main) 1601 = .ok (.ifCond .eq 5, 3) := by decide +kernel
theorem dLw_law_1604 : decode (mB Lw_main) 1604 = .ok (.iconst 0, 1) := by decide +kernel
theorem dLw_law_1605 : decode (mB Lw_main) 1605 = .ok (.ireturn, 1) := by decide +kernel
theorem dLw_law_1606 : decode (mB Lw_main) 1606 = .ok (.goto 914, 3) := by decide +kernel
theorem dLw_law_1609 : decode (mB Lw_main) 1609 = .ok (.aload_n 1, 1) := by decide +kernel
theorem dLw_law_1610 : decode (mB Lw_main) 1610 = .ok (.aload_n 0, 1) := by decide +kernel
theorem dLw_law_1611 : decode (mB Lw_main) 1611 = .ok (.iload 5, 2) := by decide +kernel
theorem dLw_law_1613 : decode (mB Lw_main) 1613 = .ok (.iconst 1, 1) := by decide +kernel
theorem dLw_law_1614 : decode (mB Lw_main) 1614 = .ok (.iadd, 1) := by decide +kernel
theorem dLw_law_1615 : decode (mB Lw_main) 1615 = .ok (.iaload, 1) := by decide +kernel
theorem dLw_law_1616 : decode (mB Lw_main) 1616 = .ok (.aload_n 0, 1) := by decide +kernel
theorem dLw_law_1617 : decode (mB Lw_main) 1617 = .ok (.iload 5, 2) := by decide +kernel
theorem dLw_law_1619 : decode (mB Lw_main) 1619 = .ok (.iconst 2, 1) := by decide +kernel
theorem dLw_law_1620 : decode (mB Lw_main) 1620 = .ok (.iadd, 1) := by decide +kernel
theorem dLw_law_1621 : decode (mB Lw_main) 1621 = .ok (.iaload, 1) := by decide +kernel
theorem dLw_law_1622 : decode (mB Lw_main) 1622 = .ok (.aload_n 3, 1) := by decide +kernel
theorem dLw_law_1623 : decode (mB Lw_main) 1623 = .ok (.invokestatic 202, 3) := by decide +kernel
theorem dLw_law_1626 : decode (mB Lw_main) 1626 = .ok (.istore 6, 2) := by decide +kernel
theorem dLw_law_1628 : decode (mB Lw_main) 1628 = .ok (.aload_n 2, 1) := by decide +kernel
theorem dLw_law_1629 : decode (mB Lw_main) 1629 = .ok (.aload_n 0, 1) := by decide +kernel
theorem dLw_law_1630 : decode (mB Lw_main) 1630 = .ok (.iload 5, 2) := by decide +kernel
theorem dLw_law_1632 : decode (mB Lw_main) 1632 = .ok (.iconst 1, 1) := by decide +kernel
theorem dLw_law_1633 : decode (mB Lw_main) 1633 = .ok (.iadd, 1) := by decide +kernel
theorem dLw_law_1634 : decode (mB Lw_main) 1634 = .ok (.iaload, 1) := by decide +kernel
theorem dLw_law_1635 : decode (mB Lw_main) 1635 = .ok (.aload_n 0, 1) := by decide +kernel
theorem dLw_law_1636 : decode (mB Lw_main) 1636 = .ok (.iload 5, 2) := by decide +kernel
theorem dLw_law_1638 : decode (mB Lw_main) 1638 = .ok (.iconst 2, 1) := by decide +kernel
theorem dLw_law_1639 : decode (mB Lw_main) 1639 = .ok (.iadd, 1) := by decide +kernel
theorem dLw_law_1640 : decode (mB Lw_main) 1640 = .ok (.iaload, 1) := by decide +kernel
theorem dLw_law_1641 : decode (mB Lw_main) 1641 = .ok (.invokevirtual 204, 3) := by decide +kernel
theorem dLw_law_1644 : decode (mB Lw_main) 1644 = .ok (.istore 7, 2) := by decide +kernel
theorem dLw_law_1646 : decode (mB Lw_main) 1646 = .ok (.aload_n 2, 1) := by decide +kernel
theorem dLw_law_1647 : decode (mB Lw_main) 1647 = .ok (.invokevirtual 130, 3) := by decide +kernel
theorem dLw_law_1650 : decode (mB Lw_main) 1650 = .ok (.iload 6, 2) := by decide +kernel
theorem dLw_law_1652 : decode (mB Lw_main) 1652 = .ok (.if_icmp .eq 5, 3) := by decide +kernel
theorem dLw_law_1655 : decode (mB Lw_main) 1655 = .ok (.iconst 0, 1) := by decide +kernel
theorem dLw_law_1656 : decode (mB Lw_main) 1656 = .ok (.ireturn, 1) := by decide +kernel
theorem dLw_law_1657 : decode (mB Lw_main) 1657 = .ok (.iload 6, 2) := by decide +kernel
theorem dLw_law_1659 : decode (mB Lw_main) 1659 = .ok (.ifCond .ne 22, 3) := by decide +kernel
theorem dLw_law_1662 : decode (mB Lw_main) 1662 = .ok (.aload_n 3, 1) := by decide +kernel
theorem dLw_law_1663 : decode (mB Lw_main) 1663 = .ok (.iconst 0, 1) := by decide +kernel
theorem dLw_law_1664 : decode (mB Lw_main) 1664 = .ok (.laload, 1) := by decide +kernel
theorem dLw_law_1665 : decode (mB Lw_main) 1665 = .ok (.iload 7, 2) := by decide +kernel
theorem dLw_law_1667 : decode (mB Lw_main) 1667 = .ok (.ifCond .eq 7, 3) := by decide +kernel
theorem dLw_law_1670 : decode (mB Lw_main) 1670 = .ok (.lconst 1, 1) := by decide +kernel
theorem dLw_law_1671 : decode (mB Lw_main) 1671 = .ok (.goto 4, 3) := by decide +kernel
theorem dLw_law_1674 : decode (mB Lw_main) 1674 = .ok (.lconst 0, 1) := by decide +kernel
theorem dLw_law_1675 : decode (mB Lw_main) 1675 = .ok (.lcmp, 1) := by decide +kernel
theorem dLw_law_1676 : decode (mB Lw_main) 1676 = .ok (.ifCond .eq 5, 3) := by decide +kernel
theorem dLw_law_1679 : decode (mB Lw_main) 1679 = .ok (.iconst 0, 1) := by decide +kernel
theorem dLw_law_1680 : decode (mB Lw_main) 1680 = .ok (.ireturn, 1) := by decide +kernel
theorem dLw_law_1681 : decode (mB Lw_main) 1681 = .ok (.goto 839, 3) := by decide +kernel
theorem dLw_law_1684 : decode (mB Lw_main) 1684 = .ok (.aload_n 1, 1) := by decide +kernel
theorem dLw_law_1685 : decode (mB Lw_main) 1685 = .ok (.aload_n 0, 1) := by decide +kernel
theorem dLw_law_1686 : decode (mB Lw_main) 1686 = .ok (.iload 5, 2) := by decide +kernel
theorem dLw_law_1688 : decode (mB Lw_main) 1688 = .ok (.iconst 1, 1) := by decide +kernel
theorem dLw_law_1689 : decode (mB Lw_main) 1689 = .ok (.iadd, 1) := by decide +kernel
theorem dLw_law_1690 : decode (mB Lw_main) 1690 = .ok (.iaload, 1) := by decide +kernel
theorem dLw_law_1691 : decode (mB Lw_main) 1691 = .ok (.aload_n 0, 1) := by decide +kernel
theorem dLw_law_1692 : decode (mB Lw_main) 1692 = .ok (.iload 5, 2) := by decide +kernel
theorem dLw_law_1694 : decode (mB Lw_main) 1694 = .ok (.iconst 2, 1) := by decide +kernel
theorem dLw_law_1695 : decode (mB Lw_main) 1695 = .ok (.iadd, 1) := by decide +kernel
theorem dLw_law_1696 : decode (mB Lw_main) 1696 = .ok (.iaload, 1) := by decide +kernel
theorem dLw_law_1697 : decode (mB Lw_main) 1697 = .ok (.aload_n 0, 1) := by decide +kernel
theorem dLw_law_1698 : decode (mB Lw_main) 1698 = .ok (.iload 5, 2) := by decide +kernel
theorem dLw_law_1700 : decode (mB Lw_main) 1700 = .ok (.iconst 3, 1) := by decide +kernel
theorem dLw_law_1701 : decode (mB Lw_main) 1701 = .ok (.iadd, 1) := by decide +kernel
theorem dLw_law_1702 : decode (mB Lw_main) 1702 = .ok (.iaload, 1) := by decide +kernel
theorem dLw_law_1703 : decode (mB Lw_main) 1703 = .ok (.aload_n 3, 1) := by decide +kernel
theorem dLw_law_1704 : decode (mB Lw_main) 1704 = .ok (.invokestatic 205, 3) := by decide +kernel
theorem dLw_law_1707 : decode (mB Lw_main) 1707 = .ok (.istore 6, 2) := by decide +kernel
theorem dLw_law_1709 : decode (mB Lw_main) 1709 = .ok (.aload_n 2, 1) := by decide +kernel
theorem dLw_law_1710 : decode (mB Lw_main) 1710 = .ok (.aload_n 0, 1) := by decide +kernel
theorem dLw_law_1711 : decode (mB Lw_main) 1711 = .ok (.iload 5, 2) := by decide +kernel
theorem dLw_law_1713 : decode (mB Lw_main) 1713 = .ok (.iconst 1, 1) := by decide +kernel
theorem dLw_law_1714 : decode (mB Lw_main) 1714 = .ok (.iadd, 1) := by decide +kernel
theorem dLw_law_1715 : decode (mB Lw_main) 1715 = .ok (.iaload, 1) := by decide +kernel
theorem dLw_law_1716 : decode (mB Lw_main) 1716 = .ok (.aload_n 0, 1) := by decide +kernel
theorem dLw_law_1717 : decode (mB Lw_main) 1717 = .ok (.iload 5, 2) := by decide +kernel
theorem dLw_law_1719 : decode (mB Lw_main) 1719 = .ok (.iconst 2, 1) := by decide +kernel
theorem dLw_law_1720 : decode (mB Lw_main) 1720 = .ok (.iadd, 1) := by decide +kernel
theorem dLw_law_1721 : decode (mB Lw_main) 1721 = .ok (.iaload, 1) := by decide +kernel
theorem dLw_law_1722 : decode (mB Lw_main) 1722 = .ok (.aload_n 0, 1) := by decide +kernel
theorem dLw_law_1723 : decode (mB Lw_main) 1723 = .ok (.iload 5, 2) := by decide +kernel
theorem dLw_law_1725 : decode (mB Lw_main) 1725 = .ok (.iconst 3, 1) := by decide +kernel
theorem dLw_law_1726 : decode (mB Lw_main) 1726 = .ok (.iadd, 1) := by decide +kernel
theorem dLw_law_1727 : decode (mB Lw_main) 1727 = .ok (.iaload, 1) := by decide +kernel
theorem dLw_law_1728 : decode (mB Lw_main) 1728 = .ok (.invokevirtual 207, 3) := by decide +kernel
theorem dLw_law_1731 : decode (mB Lw_main) 1731 = .ok (.istore 7, 2) := by decide +kernel
theorem dLw_law_1733 : decode (mB Lw_main) 1733 = .ok (.aload_n 2, 1) := by decide +kernel
theorem dLw_law_1734 : decode (mB Lw_main) 1734 = .ok (.invokevirtual 130, 3) := by decide +kernel
theorem dLw_law_1737 : decode (mB Lw_main) 1737 = .ok (.iload 6, 2) := by decide +kernel
theorem dLw_law_1739 : decode (mB Lw_main) 1739 = .ok (.if_icmp .eq 5, 3) := by decide +kernel
theorem dLw_law_1742 : decode (mB Lw_main) 1742 = .ok (.iconst 0, 1) := by decide +kernel
theorem dLw_law_1743 : decode (mB Lw_main) 1743 = .ok (.ireturn, 1) := by decide +kernel
theorem dLw_law_1744 : decode (mB Lw_main) 1744 = .ok (.iload 6, 2) := by decide +kernel
theorem dLw_law_1746 : decode (mB Lw_main) 1746 = .ok (.ifCond .ne 15, 3) := by decide +kernel
theorem dLw_law_1749 : decode (mB Lw_main) 1749 = .ok (.aload_n 3, 1) := by decide +kernel
theorem dLw_law_1750 : decode (mB Lw_main) 1750 = .ok (.iconst 0, 1) := by decide +kernel
theorem dLw_law_1751 : decode (mB Lw_main) 1751 = .ok (.laload, 1) := by decide +kernel
theorem dLw_law_1752 : decode (mB Lw_main) 1752 = .ok (.iload 7, 2) := by decide +kernel
theorem dLw_law_1754 : decode (mB Lw_main) 1754 = .ok (.i2l, 1) := by decide +kernel
theorem dLw_law_1755 : decode (mB Lw_main) 1755 = .ok (.lcmp, 1) := by decide +kernel
theorem dLw_law_1756 : decode (mB Lw_main) 1756 = .ok (.ifCond .eq 5, 3) := by decide +kernel
theorem dLw_law_1759 : decode (mB Lw_main) 1759 = .ok (.iconst 0, 1) := by decide +kernel
theorem dLw_law_1760 : decode (mB Lw_main) 1760 = .ok (.ireturn, 1) := by decide +kernel
theorem dLw_law_1761 : decode (mB Lw_main) 1761 = .ok (.goto 759, 3) := by decide +kernel
theorem dLw_law_1764 : decode (mB Lw_main) 1764 = .ok (.aload_n 1, 1) := by decide +kernel
theorem dLw_law_1765 : decode (mB Lw_main) 1765 = .ok (.aload_n 0, 1) := by decide +kernel
theorem dLw_law_1766 : decode (mB Lw_main) 1766 = .ok (.iload 5, 2) := by decide +kernel
theorem dLw_law_1768 : decode (mB Lw_main) 1768 = .ok (.iconst 1, 1) := by decide +kernel
theorem dLw_law_1769 : decode (mB Lw_main) 1769 = .ok (.iadd, 1) := by decide +kernel
theorem dLw_law_1770 : decode (mB Lw_main) 1770 = .ok (.iaload, 1) := by decide +kernel
theorem dLw_law_1771 : decode (mB Lw_main) 1771 = .ok (.aload_n 0, 1) := by decide +kernel
theorem dLw_law_1772 : decode (mB Lw_main) 1772 = .ok (.iload 5, 2) := by decide +kernel
theorem dLw_law_1774 : decode (mB Lw_main) 1774 = .ok (.iconst 2, 1) := by decide +kernel
theorem dLw_law_1775 : decode (mB Lw_main) 1775 = .ok (.iadd, 1) := by decide +kernel
theorem dLw_law_1776 : decode (mB Lw_main) 1776 = .ok (.iaload, 1) := by decide +kernel
theorem dLw_law_1777 : decode (mB Lw_main) 1777 = .ok (.aload_n 0, 1) := by decide +kernel
theorem dLw_law_1778 : decode (mB Lw_main) 1778 = .ok (.iload 5, 2) := by decide +kernel
theorem dLw_law_1780 : decode (mB Lw_main) 1780 = .ok (.iconst 3, 1) := by decide +kernel
theorem dLw_law_1781 : decode (mB Lw_main) 1781 = .ok (.iadd, 1) := by decide +kernel
theorem dLw_law_1782 : decode (mB Lw_main) 1782 = .ok (.iaload, 1) := by decide +kernel
theorem dLw_law_1783 : decode (mB Lw_main) 1783 = .ok (.aload_n 0, 1) := by decide +kernel
theorem dLw_law_1784 : decode (mB Lw_main) 1784 = .ok (.iload 5, 2) := by decide +kernel
theorem dLw_law_1786 : decode (mB Lw_main) 1786 = .ok (.iconst 4, 1) := by decide +kernel
theorem dLw_law_1787 : decode (mB Lw_main) 1787 = .ok (.iadd, 1) := by decide +kernel
theorem dLw_law_1788 : decode (mB Lw_main) 1788 = .ok (.iaload, 1) := by decide +kernel
theorem dLw_law_1789 : decode (mB Lw_main) 1789 = .ok (.aload 4, 2) := by decide +kernel
theorem dLw_law_1791 : decode (mB Lw_main) 1791 = .ok (.invokestatic 208, 3) := by decide +kernel
theorem dLw_law_1794 : decode (mB Lw_main) 1794 = .ok (.istore 6, 2) := by decide +kernel
theorem dLw_law_1796 : decode (mB Lw_main) 1796 = .ok (.aload_n 2, 1) := by decide +kernel
theorem dLw_law_1797 : decode (mB Lw_main) 1797 = .ok (.aload_n 0, 1) := by decide +kernel
theorem dLw_law_1798 : decode (mB Lw_main) 1798 = .ok (.iload 5, 2) := by decide +kernel
theorem dLw_law_1800 : decode (mB Lw_main) 1800 = .ok (.iconst 1, 1) := by decide +kernel
theorem dLw_law_1801 : decode (mB Lw_main) 1801 = .ok (.iadd, 1) := by decide +kernel
theorem dLw_law_1802 : decode (mB Lw_main) 1802 = .ok (.iaload, 1) := by decide +kernel
theorem dLw_law_1803 : decode (mB Lw_main) 1803 = .ok (.aload_n 0, 1) := by decide +kernel
theorem dLw_law_1804 : decode (mB Lw_main) 1804 = .ok (.iload 5, 2) := by decide +kernel
theorem dLw_law_1806 : decode (mB Lw_main) 1806 = .ok (.iconst 2, 1) := by decide +kernel
theorem dLw_law_1807 : decode (mB Lw_main) 1807 = .ok (.iadd, 1) := by decide +kernel
theorem dLw_law_1808 : decode (mB Lw_main) 1808 = .ok (.iaload, 1) := by decide +kernel
theorem dLw_law_1809 : decode (mB Lw_main) 1809 = .ok (.aload_n 0, 1) := by decide +kernel
theorem dLw_law_1810 : decode (mB Lw_main) 1810 = .ok (.iload 5, 2) := by decide +kernel
theorem dLw_law_1812 : decode (mB Lw_main) 1812 = .ok (.iconst 3, 1) := by decide +kernel
theorem dLw_law_1813 : decode (mB Lw_main) 1813 = .ok (.iadd, 1) := by decide +kernel
theorem dLw_law_1814 : decode (mB Lw_main) 1814 = .ok (.iaload, 1) := by decide +kernel
theorem dLw_law_1815 : decode (mB Lw_main) 1815 = .ok (.aload_n 0, 1) := by decide +kernel
theorem dLw_law_1816 : decode (mB Lw_main) 1816 = .ok (.iload 5, 2) := by decide +kernel
theorem dLw_law_1818 : decode (mB Lw_main) 1818 = .ok (.iconst 4, 1) := by decide +kernel
theorem dLw_law_1819 : decode (mB Lw_main) 1819 = .ok (.iadd, 1) := by decide +kernel
theorem dLw_law_1820 : decode (mB Lw_main) 1820 = .ok (.iaload, 1) := by decide +kernel
theorem dLw_law_1821 : decode (mB Lw_main) 1821 = .ok (.invokevirtual 211, 3) := by decide +kernel
theorem dLw_law_1824 : decode (mB Lw_main) 1824 = .ok (.fstore 7, 2) := by decide +kernel
theorem dLw_law_1826 : decode (mB Lw_main) 1826 = .ok (.aload_n 2, 1) := by decide +kernel
theorem dLw_law_1827 : decode (mB Lw_main) 1827 = .ok (.invokevirtual 130, 3) := by decide +kernel
theorem dLw_law_1830 : decode (mB Lw_main) 1830 = .ok (.iload 6, 2) := by decide +kernel
theorem dLw_law_1832 : decode (mB Lw_main) 1832 = .ok (.if_icmp .eq 5, 3) := by decide +kernel
theorem dLw_law_1835 : decode (mB Lw_main) 1835 = .ok (.iconst 0, 1) := by decide +kernel
theorem dLw_law_1836 : decode (mB Lw_main) 1836 = .ok (.ireturn, 1) := by decide +kernel
theorem dLw_law_1837 : decode (mB Lw_main) 1837 = .ok (.iload 6, 2) := by decide +kernel
theorem dLw_law_1839 : decode (mB Lw_main) 1839 = .ok (.ifCond .ne 36, 3) := by decide +kernel
theorem dLw_law_1842 : decode (mB Lw_main) 1842 = .ok (.aload 4, 2) := by decide +kernel
theorem dLw_law_1844 : decode (mB Lw_main) 1844 = .ok (.iconst 0, 1) := by decide +kernel
theorem dLw_law_1845 : decode (mB Lw_main) 1845 = .ok (.daload, 1) := by decide +kernel
theorem dLw_law_1846 : decode (mB Lw_main) 1846 = .ok (.fload 7, 2) := by decide +kernel
theorem dLw_law_1848 : decode (mB Lw_main) 1848 = .ok (.f2d, 1) := by decide +kernel
theorem dLw_law_1849 : decode (mB Lw_main) 1849 = .ok (.dcmp .l, 1) := by decide +kernel
theorem dLw_law_1850 : decode (mB Lw_main) 1850 = .ok (.ifCond .eq 25, 3) := by decide +kernel
theorem dLw_law_1853 : decode (mB Lw_main) 1853 = .ok (.aload 4, 2) := by decide +kernel
theorem dLw_law_1855 : decode (mB Lw_main) 1855 = .ok (.iconst 0, 1) := by decide +kernel
theorem dLw_law_1856 : decode (mB Lw_main) 1856 = .ok (.daload, 1) := by decide +kernel
theorem dLw_law_1857 : decode (mB Lw_main) 1857 = .ok (.aload 4, 2) := by decide +kernel
theorem dLw_law_1859 : decode (mB Lw_main) 1859 = .ok (.iconst 0, 1) := by decide +kernel
theorem dLw_law_1860 : decode (mB Lw_main) 1860 = .ok (.daload, 1) := by decide +kernel
theorem dLw_law_1861 : decode (mB Lw_main) 1861 = .ok (.dcmp .l, 1) := by decide +kernel
theorem dLw_law_1862 : decode (mB Lw_main) 1862 = .ok (.ifCond .eq 11, 3) := by decide +kernel
theorem dLw_law_1865 : decode (mB Lw_main) 1865 = .ok (.fload 7, 2) := by decide +kernel
theorem dLw_law_1867 : decode (mB Lw_main) 1867 = .ok (.fload 7, 2) := by decide +kernel
theorem dLw_law_1869 : decode (mB Lw_main) 1869 = .ok (.fcmp .l, 1) := by decide +kernel
theorem dLw_law_1870 : decode (mB Lw_main) 1870 = .ok (.ifCond .ne 5, 3) := by decide +kernel
theorem dLw_law_1873 : decode (mB Lw_main) 1873 = .ok (.iconst 0, 1) := by decide +kernel
theorem dLw_law_1874 : decode (mB Lw_main) 1874 = .ok (.ireturn, 1) := by decide +kernel
theorem dLw_law_1875 : decode (mB Lw_main) 1875 = .ok (.goto 645, 3) := by decide +kernel
theorem dLw_law_1878 : decode (mB Lw_main) 1878 = .ok (.aload_n 1, 1) := by decide +kernel
theorem dLw_law_1879 : decode (mB Lw_main) 1879 = .ok (.aload_n 0, 1) := by decide +kernel
theorem dLw_law_1880 : decode (mB Lw_main) 1880 = .ok (.iload 5, 2) := by decide +kernel
theorem dLw_law_1882 : decode (mB Lw_main) 1882 = .ok (.iconst 1, 1) := by decide +kernel
theorem dLw_law_1883 : decode (mB Lw_main) 1883 = .ok (.iadd, 1) := by decide +kernel
theorem dLw_law_1884 : decode (mB Lw_main) 1884 = .ok (.iaload, 1) := by decide +kernel
theorem dLw_law_1885 : decode (mB Lw_main) 1885 = .ok (.aload_n 3, 1) := by decide +kernel
theorem dLw_law_1886 : decode (mB Lw_main) 1886 = .ok (.invokestatic 212, 3) := by decide +kernel
theorem dLw_law_1889 : decode (mB Lw_main) 1889 = .ok (.istore 6, 2) := by decide +kernel
theorem dLw_law_1891 : decode (mB Lw_main) 1891 = .ok (.aload_n 2, 1) := by decide +kernel
theorem dLw_law_1892 : decode (mB Lw_main) 1892 = .ok (.aload_n 0, 1) := by decide +kernel
theorem dLw_law_1893 : decode (mB Lw_main) 1893 = .ok (.iload 5, 2) := by decide +kernel
theorem dLw_law_1895 : decode (mB Lw_main) 1895 = .ok (.iconst 1, 1) := by decide +kernel
theorem dLw_law_1896 : decode (mB Lw_main) 1896 = .ok (.iadd, 1) := by decide +kernel
theorem dLw_law_1897 : decode (mB Lw_main) 1897 = .ok (.iaload, 1) := by decide +kernel
theorem dLw_law_1898 : decode (mB Lw_main) 1898 = .ok (.invokevirtual 214, 3) := by decide +kernel
theorem dLw_law_1901 : decode (mB Lw_main) 1901 = .ok (.istore 7, 2) := by decide +kernel
theorem dLw_law_1903 : decode (mB Lw_main) 1903 = .ok (.aload_n 2, 1) := by decide +kernel
theorem dLw_law_1904 : decode (mB Lw_main) 1904 = .ok (.invokevirtual 130, 3) := by decide +kernel
theorem dLw_law_1907 : decode (mB Lw_main) 1907 = .ok (.iload 6, 2) := by decide +kernel
theorem dLw_law_1909 : decode (mB Lw_main) 1909 = .ok (.if_icmp .eq 5, 3) := by decide +kernel
theorem dLw_law_1912 : decode (mB Lw_main) 1912 = .ok (.iconst 0, 1) := by decide +kernel
theorem dLw_law_1913 : decode (mB Lw_main) 1913 = .ok (.ireturn, 1) := by decide +kernel
theorem dLw_law_1914 : decode (mB Lw_main) 1914 = .ok (.iload 6, 2) := by decide +kernel
theorem dLw_law_1916 : decode (mB Lw_main) 1916 = .ok (.ifCond .ne 15, 3) := by decide +kernel
theorem dLw_law_1919 : decode (mB Lw_main) 1919 = .ok (.aload_n 3, 1) := by decide +kernel
theorem dLw_law_1920 : decode (mB Lw_main) 1920 = .ok (.iconst 0, 1) := by decide +kernel
theorem dLw_law_1921 : decode (mB Lw_main) 1921 = .ok (.laload, 1) := by decide +kernel
theorem dLw_law_1922 : decode (mB Lw_main) 1922 = .ok (.iload 7, 2) := by decide +kernel
theorem dLw_law_1924 : decode (mB Lw_main) 1924 = .ok (.i2l, 1) := by decide +kernel
theorem dLw_law_1925 : decode (mB Lw_main) 1925 = .ok (.lcmp, 1) := by decide +kernel
theorem dLw_law_1926 : decode (mB Lw_main) 1926 = .ok (.ifCond .eq 5, 3) := by decide +kernel
theorem dLw_law_1929 : decode (mB Lw_main) 1929 = .ok (.iconst 0, 1) := by decide +kernel
theorem dLw_law_1930 : decode (mB Lw_main) 1930 = .ok (.ireturn, 1) := by decide +kernel
theorem dLw_law_1931 : decode (mB Lw_main) 1931 = .ok (.goto 589, 3) := by decide +kernel
theorem dLw_law_1934 : decode (mB Lw_main) 1934 = .ok (.aload_n 1, 1) := by decide +kernel
theorem dLw_law_1935 : decode (mB Lw_main) 1935 = .ok (.aload_n 0, 1) := by decide +kernel
theorem dLw_law_1936 : decode (mB Lw_main) 1936 = .ok (.iload 5, 2) := by decide +kernel
theorem dLw_law_1938 : decode (mB Lw_main) 1938 = .ok (.iconst 1, 1) := by decide +kernel
theorem dLw_law_1939 : decode (mB Lw_main) 1939 = .ok (.iadd, 1) := by decide +kernel
theorem dLw_law_1940 : decode (mB Lw_main) 1940 = .ok (.iaload, 1) := by decide +kernel
theorem dLw_law_1941 : decode (mB Lw_main) 1941 = .ok (.aload_n 0, 1) := by decide +kernel
theorem dLw_law_1942 : decode (mB Lw_main) 1942 = .ok (.iload 5, 2) := by decide +kernel
theorem dLw_law_1944 : decode (mB Lw_main) 1944 = .ok (.iconst 2, 1) := by decide +kernel
theorem dLw_law_1945 : decode (mB Lw_main) 1945 = .ok (.iadd, 1) := by decide +kernel
theorem dLw_law_1946 : decode (mB Lw_main) 1946 = .ok (.iaload, 1) := by decide +kernel
theorem dLw_law_1947 : decode (mB Lw_main) 1947 = .ok (.aload_n 3, 1) := by decide +kernel
theorem dLw_law_1948 : decode (mB Lw_main) 1948 = .ok (.invokestatic 215, 3) := by decide +kernel
theorem dLw_law_1951 : decode (mB Lw_main) 1951 = .ok (.istore 6, 2) := by decide +kernel
theorem dLw_law_1953 : decode (mB Lw_main) 1953 = .ok (.aload_n 2, 1) := by decide +kernel
theorem dLw_law_1954 : decode (mB Lw_main) 1954 = .ok (.aload_n 0, 1) := by decide +kernel
theorem dLw_law_1955 : decode (mB Lw_main) 1955 = .ok (.iload 5, 2) := by decide +kernel
theorem dLw_law_1957 : decode (mB Lw_main) 1957 = .ok (.iconst 1, 1) := by decide +kernel
theorem dLw_law_1958 : decode (mB Lw_main) 1958 = .ok (.iadd, 1) := by decide +kernel
theorem dLw_law_1959 : decode (mB Lw_main) 1959 = .ok (.iaload, 1) := by decide +kernel
theorem dLw_law_1960 : decode (mB Lw_main) 1960 = .ok (.aload_n 0, 1) := by decide +kernel
theorem dLw_law_1961 : decode (mB Lw_main) 1961 = .ok (.iload 5, 2) := by decide +kernel
theorem dLw_law_1963 : decode (mB Lw_main) 1963 = .ok (.iconst 2, 1) := by decide +kernel
theorem dLw_law_1964 : decode (mB Lw_main) 1964 = .ok (.iadd, 1) := by decide +kernel
theorem dLw_law_1965 : decode (mB Lw_main) 1965 = .ok (.iaload, 1) := by decide +kernel
theorem dLw_law_1966 : decode (mB Lw_main) 1966 = .ok (.invokevirtual 217, 3) := by decide +kernel
theorem dLw_law_1969 : decode (mB Lw_main) 1969 = .ok (.istore 7, 2) := by decide +kernel
theorem dLw_law_1971 : decode (mB Lw_main) 1971 = .ok (.aload_n 2, 1) := by decide +kernel
theorem dLw_law_1972 : decode (mB Lw_main) 1972 = .ok (.invokevirtual 130, 3) := by decide +kernel
theorem dLw_law_1975 : decode (mB Lw_main) 1975 = .ok (.iload 6, 2) := by decide +kernel
theorem dLw_law_1977 : decode (mB Lw_main) 1977 = .ok (.if_icmp .eq 5, 3) := by decide +kernel
theorem dLw_law_1980 : decode (mB Lw_main) 1980 = .ok (.iconst 0, 1) := by decide +kernel
theorem dLw_law_1981 : decode (mB Lw_main) 1981 = .ok (.ireturn, 1) := by decide +kernel
theorem dLw_law_1982 : decode (mB Lw_main) 1982 = .ok (.iload 6, 2) := by decide +kernel
theorem dLw_law_1984 : decode (mB Lw_main) 1984 = .ok (.ifCond .ne 15, 3) := by decide +kernel
theorem dLw_law_1987 : decode (mB Lw_main) 1987 = .ok (.aload_n 3, 1) := by decide +kernel
theorem dLw_law_1988 : decode (mB Lw_main) 1988 = .ok (.iconst 0, 1) := by decide +kernel
theorem dLw_law_1989 : decode (mB Lw_main) 1989 = .ok (.laload, 1) := by decide +kernel
theorem dLw_law_1990 : decode (mB Lw_main) 1990 = .ok (.iload 7, 2) := by decide +kernel
theorem dLw_law_1992 : decode (mB Lw_main) 1992 = .ok (.i2l, 1) := by decide +kernel
theorem dLw_law_1993 : decode (mB Lw_main) 1993 = .ok (.lcmp, 1) := by decide +kernel
theorem dLw_law_1994 : decode (mB Lw_main) 1994 = .ok (.ifCond .eq 5, 3) := by decide +kernel
theorem dLw_law_1997 : decode (mB Lw_main) 1997 = .ok (.iconst 0, 1) := by decide +kernel
theorem dLw_law_1998 : decode (mB Lw_main) 1998 = .ok (.ireturn, 1) := by decide +kernel
theorem dLw_law_1999 : decode (mB Lw_main) 1999 = .ok (.goto 521, 3) := by decide +kernel
theorem dLw_law_2002 : decode (mB Lw_main) 2002 = .ok (.aload_n 1, 1) := by decide +kernel
theorem dLw_law_2003 : decode (mB Lw_main) 2003 = .ok (.aload_n 0, 1) := by decide +kernel
theorem dLw_law_2004 : decode (mB Lw_main) 2004 = .ok (.iload 5, 2) := by decide +kernel
theorem dLw_law_2006 : decode (mB Lw_main) 2006 = .ok (.iconst 1, 1) := by decide +kernel
theorem dLw_law_2007 : decode (mB Lw_main) 2007 = .ok (.iadd, 1) := by decide +kernel
theorem dLw_law_2008 : decode (mB Lw_main) 2008 = .ok (.iaload, 1) := by decide +kernel
theorem dLw_law_2009 : decode (mB Lw_main) 2009 = .ok (.aload_n 0, 1) := by decide +kernel
theorem dLw_law_2010 : decode (mB Lw_main) 2010 = .ok (.iload 5, 2) := by decide +kernel
theorem dLw_law_2012 : decode (mB Lw_main) 2012 = .ok (.iconst 2, 1) := by decide +kernel
theorem dLw_law_2013 : decode (mB Lw_main) 2013 = .ok (.iadd, 1) := by decide +kernel
theorem dLw_law_2014 : decode (mB Lw_main) 2014 = .ok (.iaload, 1) := by decide +kernel
theorem dLw_law_2015 : decode (mB Lw_main) 2015 = .ok (.aload_n 3, 1) := by decide +kernel
theorem dLw_law_2016 : decode (mB Lw_main) 2016 = .ok (.invokestatic 218, 3) := by decide +kernel
theorem dLw_law_2019 : decode (mB Lw_main) 2019 = .ok (.istore 6, 2) := by decide +kernel
theorem dLw_law_2021 : decode (mB Lw_main) 2021 = .ok (.aload_n 2, 1) := by decide +kernel
theorem dLw_law_2022 : decode (mB Lw_main) 2022 = .ok (.aload_n 0, 1) := by decide +kernel
theorem dLw_law_2023 : decode (mB Lw_main) 2023 = .ok (.iload 5, 2) := by decide +kernel
theorem dLw_law_2025 : decode (mB Lw_main) 2025 = .ok (.iconst 1, 1) := by decide +kernel
theorem dLw_law_2026 : decode (mB Lw_main) 2026 = .ok (.iadd, 1) := by decide +kernel
theorem dLw_law_2027 : decode (mB Lw_main) 2027 = .ok (.iaload, 1) := by decide +kernel
theorem dLw_law_2028 : decode (mB Lw_main) 2028 = .ok (.aload_n 0, 1) := by decide +kernel
theorem dLw_law_2029 : decode (mB Lw_main) 2029 = .ok (.iload 5, 2) := by decide +kernel
theorem dLw_law_2031 : decode (mB Lw_main) 2031 = .ok (.iconst 2, 1) := by decide +kernel
theorem dLw_law_2032 : decode (mB Lw_main) 2032 = .ok (.iadd, 1) := by decide +kernel
theorem dLw_law_2033 : decode (mB Lw_main) 2033 = .ok (.iaload, 1) := by decide +kernel
theorem dLw_law_2034 : decode (mB Lw_main) 2034 = .ok (.invokevirtual 220, 3) := by decide +kernel
theorem dLw_law_2037 : decode (mB Lw_main) 2037 = .ok (.istore 7, 2) := by decide +kernel
theorem dLw_law_2039 : decode (mB Lw_main) 2039 = .ok (.aload_n 2, 1) := by decide +kernel
theorem dLw_law_2040 : decode (mB Lw_main) 2040 = .ok (.invokevirtual 130, 3) := by decide +kernel
theorem dLw_law_2043 : decode (mB Lw_main) 2043 = .ok (.iload 6, 2) := by decide +kernel
theorem dLw_law_2045 : decode (mB Lw_main) 2045 = .ok (.if_icmp .eq 5, 3) := by decide +kernel
theorem dLw_law_2048 : decode (mB Lw_main) 2048 = .ok (.iconst 0, 1) := by decide +kernel
theorem dLw_law_2049 : decode (mB Lw_main) 2049 = .ok (.ireturn, 1) := by decide +kernel
theorem dLw_law_2050 : decode (mB Lw_main) 2050 = .ok (.iload 6, 2) := by decide +kernel
theorem dLw_law_2052 : decode (mB Lw_main) 2052 = .ok (.ifCond .ne 15, 3) := by decide +kernel
theorem dLw_law_2055 : decode (mB Lw_main) 2055 = .ok (.aload_n 3, 1) := by decide +kernel
theorem dLw_law_2056 : decode (mB Lw_main) 2056 = .ok (.iconst 0, 1) := by decide +kernel
theorem dLw_law_2057 : decode (mB Lw_main) 2057 = .ok (.laload, 1) := by decide +kernel
theorem dLw_law_2058 : decode (mB Lw_main) 2058 = .ok (.iload 7, 2) := by decide +kernel
theorem dLw_law_2060 : decode (mB Lw_main) 2060 = .ok (.i2l, 1) := by decide +kernel
theorem dLw_law_2061 : decode (mB Lw_main) 2061 = .ok (.lcmp, 1) := by decide +kernel
theorem dLw_law_2062 : decode (mB Lw_main) 2062 = .ok (.ifCond .eq 5, 3) := by decide +kernel
theorem dLw_law_2065 : decode (mB Lw_main) 2065 = .ok (.iconst 0, 1) := by decide +kernel
theorem dLw_law_2066 : decode (mB Lw_main) 2066 = .ok (.ireturn, 1) := by decide +kernel
theorem dLw_law_2067 : decode (mB Lw_main) 2067 = .ok (.goto 453, 3) := by decide +kernel
theorem dLw_law_2070 : decode (mB Lw_main) 2070 = .ok (.aload_n 1, 1) := by decide +kernel
theorem dLw_law_2071 : decode (mB Lw_main) 2071 = .ok (.aload_n 0, 1) := by decide +kernel
theorem dLw_law_2072 : decode (mB Lw_main) 2072 = .ok (.iload 5, 2) := by decide +kernel
theorem dLw_law_2074 : decode (mB Lw_main) 2074 = .ok (.iconst 1, 1) := by decide +kernel
theorem dLw_law_2075 : decode (mB Lw_main) 2075 = .ok (.iadd, 1) := by decide +kernel
theorem dLw_law_2076 : decode (mB Lw_main) 2076 = .ok (.iaload, 1) := by decide +kernel
theorem dLw_law_2077 : decode (mB Lw_main) 2077 = .ok (.aload_n 0, 1) := by decide +kernel
theorem dLw_law_2078 : decode (mB Lw_main) 2078 = .ok (.iload 5, 2) := by decide +kernel
theorem dLw_law_2080 : decode (mB Lw_main) 2080 = .ok (.iconst 2, 1) := by decide +kernel
theorem dLw_law_2081 : decode (mB Lw_main) 2081 = .ok (.iadd, 1) := by decide +kernel
theorem dLw_law_2082 : decode (mB Lw_main) 2082 = .ok (.iaload, 1) := by decide +kernel
theorem dLw_law_2083 : decode (mB Lw_main) 2083 = .ok (.aload_n 0, 1) := by decide +kernel
theorem dLw_law_2084 : decode (mB Lw_main) 2084 = .ok (.iload 5, 2) := by decide +kernel
theorem dLw_law_2086 : decode (mB Lw_main) 2086 = .ok (.iconst 3, 1) := by decide +kernel
theorem dLw_law_2087 : decode (mB Lw_main) 2087 = .ok (.iadd, 1) := by decide +kernel
theorem dLw_law_2088 : decode (mB Lw_main) 2088 = .ok (.iaload, 1) := by decide +kernel
theorem dLw_law_2089 : decode (mB Lw_main) 2089 = .ok (.ifCond .eq 7, 3) := by decide +kernel
theorem dLw_law_2092 : decode (mB Lw_main) 2092 = .ok (.iconst 1, 1) := by decide +kernel
theorem dLw_law_2093 : decode (mB Lw_main) 2093 = .ok (.goto 4, 3) := by decide +kernel
theorem dLw_law_2096 : decode (mB Lw_main) 2096 = .ok (.iconst 0, 1) := by decide +kernel
theorem dLw_law_2097 : decode (mB Lw_main) 2097 = .ok (.aload_n 3, 1) := by decide +kernel
theorem dLw_law_2098 : decode (mB Lw_main) 2098 = .ok (.invokestatic 221, 3) := by decide +kernel
theorem dLw_law_2101 : decode (mB Lw_main) 2101 = .ok (.istore 6, 2) := by decide +kernel
theorem dLw_law_2103 : decode (mB Lw_main) 2103 = .ok (.aload_n 2, 1) := by decide +kernel
theorem dLw_law_2104 : decode (mB Lw_main) 2104 = .ok (.aload_n 0, 1) := by decide +kernel
theorem dLw_law_2105 : decode (mB Lw_main) 2105 = .ok (.iload 5, 2) := by decide +kernel
theorem dLw_law_2107 : decode (mB Lw_main) 2107 = .ok (.iconst 1, 1) := by decide +kernel
theorem dLw_law_2108 : decode (mB Lw_main) 2108 = .ok (.iadd, 1) := by decide +kernel
theorem dLw_law_2109 : decode (mB Lw_main) 2109 = .ok (.iaload, 1) := by decide +kernel
theorem dLw_law_2110 : decode (mB Lw_main) 2110 = .ok (.aload_n 0, 1) := by decide +kernel
theorem dLw_law_2111 : decode (mB Lw_main) 2111 = .ok (.iload 5, 2) := by decide +kernel
theorem dLw_law_2113 : decode (mB Lw_main) 2113 = .ok (.iconst 2, 1) := by decide +kernel
theorem dLw_law_2114 : decode (mB Lw_main) 2114 = .ok (.iadd, 1) := by decide +kernel
theorem dLw_law_2115 : decode (mB Lw_main) 2115 = .ok (.iaload, 1) := by decide +kernel
theorem dLw_law_2116 : decode (mB Lw_main) 2116 = .ok (.aload_n 0, 1) := by decide +kernel
theorem dLw_law_2117 : decode (mB Lw_main) 2117 = .ok (.iload 5, 2) := by decide +kernel
theorem dLw_law_2119 : decode (mB Lw_main) 2119 = .ok (.iconst 3, 1) := by decide +kernel
theorem dLw_law_2120 : decode (mB Lw_main) 2120 = .ok (.iadd, 1) := by decide +kernel
theorem dLw_law_2121 : decode (mB Lw_main) 2121 = .ok (.iaload, 1) := by decide +kernel
theorem dLw_law_2122 : decode (mB Lw_main) 2122 = .ok (.ifCond .eq 7, 3) := by decide +kernel
theorem dLw_law_2125 : decode (mB Lw_main) 2125 = .ok (.iconst 1, 1) := by decide +kernel
theorem dLw_law_2126 : decode (mB Lw_main) 2126 = .ok (.goto 4, 3) := by decide +kernel
theorem dLw_law_2129 : decode (mB Lw_main) 2129 = .ok (.iconst 0, 1) := by decide +kernel
theorem dLw_law_2130 : decode (mB Lw_main) 2130 = .ok (.invokevirtual 224, 3) := by decide +kernel
theorem dLw_law_2133 : decode (mB Lw_main) 2133 = .ok (.istore 7, 2) := by decide +kernel
theorem dLw_law_2135 : decode (mB Lw_main) 2135 = .ok (.aload_n 2, 1) := by decide +kernel
theorem dLw_law_2136 : decode (mB Lw_main) 2136 = .ok (.invokevirtual 130, 3) := by decide +kernel
theorem dLw_law_2139 : decode (mB Lw_main) 2139 = .ok (.iload 6, 2) := by decide +kernel
theorem dLw_law_2141 : decode (mB Lw_main) 2141 = .ok (.if_icmp .eq 5, 3) := by decide +kernel
theorem dLw_law_2144 : decode (mB Lw_main) 2144 = .ok (.iconst 0, 1) := by decide +kernel
theorem dLw_law_2145 : decode (mB Lw_main) 2145 = .ok (.ireturn, 1) := by decide +kernel
theorem dLw_law_2146 : decode (mB Lw_main) 2146 = .ok (.iload 6, 2) := by decide +kernel
theorem dLw_law_2148 : decode (mB Lw_main) 2148 = .ok (.ifCond .ne 15, 3) := by decide +kernel
theorem dLw_law_2151 : decode (mB Lw_main) 2151 = .ok (.aload_n 3, 1) := by decide +kernel
theorem dLw_law_2152 : decode (mB Lw_main) 2152 = .ok (.iconst 0, 1) := by decide +kernel
theorem dLw_law_2153 : decode (mB Lw_main) 2153 = .ok (.laload, 1) := by decide +kernel
theorem dLw_law_2154 : decode (mB Lw_main) 2154 = .ok (.iload 7, 2) := by decide +kernel
theorem dLw_law_2156 : decode (mB Lw_main) 2156 = .ok (.i2l, 1) := by decide +kernel
theorem dLw_law_2157 : decode (mB Lw_main) 2157 = .ok (.lcmp, 1) := by decide +kernel
theorem dLw_law_2158 : decode (mB Lw_main) 2158 = .ok (.ifCond .eq 5, 3) := by decide +kernel
theorem dLw_law_2161 : decode (mB Lw_main) 2161 = .ok (.iconst 0, 1) := by decide +kernel
theorem dLw_law_2162 : decode (mB Lw_main) 2162 = .ok (.ireturn, 1) := by decide +kernel
theorem dLw_law_2163 : decode (mB Lw_main) 2163 = .ok (.goto 357, 3) := by decide +kernel
theorem dLw_law_2166 : decode (mB Lw_main) 2166 = .ok (.aload_n 1, 1) := by decide +kernel
theorem dLw_law_2167 : decode (mB Lw_main) 2167 = .ok (.invokevirtual 225, 3) := by decide +kernel
theorem dLw_law_2170 : decode (mB Lw_main) 2170 = .ok (.aload_n 2, 1) := by decide +kernel
theorem dLw_law_2171 : decode (mB Lw_main) 2171 = .ok (.invokevirtual 228, 3) := by decide +kernel
theorem dLw_law_2174 : decode (mB Lw_main) 2174 = .ok (.if_icmp .eq 346, 3) := by decide +kernel
theorem dLw_law_2177 : decode (mB Lw_main) 2177 = .ok (.iconst 0, 1) := by decide +kernel
theorem dLw_law_2178 : decode (mB Lw_main) 2178 = .ok (.ireturn, 1) := by decide +kernel
theorem dLw_law_2179 : decode (mB Lw_main) 2179 = .ok (.aload_n 1, 1) := by decide +kernel
theorem dLw_law_2180 : decode (mB Lw_main) 2180 = .ok (.aload_n 0, 1) := by decide +kernel
theorem dLw_law_2181 : decode (mB Lw_main) 2181 = .ok (.iload 5, 2) := by decide +kernel
theorem dLw_law_2183 : decode (mB Lw_main) 2183 = .ok (.iconst 1, 1) := by decide +kernel
theorem dLw_law_2184 : decode (mB Lw_main) 2184 = .ok (.iadd, 1) := by decide +kernel
theorem dLw_law_2185 : decode (mB Lw_main) 2185 = .ok (.iaload, 1) := by decide +kernel
theorem dLw_law_2186 : decode (mB Lw_main) 2186 = .ok (.aload_n 3, 1) := by decide +kernel
theorem dLw_law_2187 : decode (mB Lw_main) 2187 = .ok (.invokestatic 229, 3) := by decide +kernel
theorem dLw_law_2190 : decode (mB Lw_main) 2190 = .ok (.istore 6, 2) := by decide +kernel
theorem dLw_law_2192 : decode (mB Lw_main) 2192 = .ok (.aload_n 2, 1) := by decide +kernel
theorem dLw_law_2193 : decode (mB Lw_main) 2193 = .ok (.aload_n 0, 1) := by decide +kernel
theorem dLw_law_2194 : decode (mB Lw_main) 2194 = .ok (.iload 5, 2) := by decide +kernel
theorem dLw_law_2196 : decode (mB Lw_main) 2196 = .ok (.iconst 1, 1) := by decide +kernel
theorem dLw_law_2197 : decode (mB Lw_main) 2197 = .ok (.iadd, 1) := by decide +kernel
theorem dLw_law_2198 : decode (mB Lw_main) 2198 = .ok (.iaload, 1) := by decide +kernel
theorem dLw_law_2199 : decode (mB Lw_main) 2199 = .ok (.invokevirtual 231, 3) := by decide +kernel
theorem dLw_law_2202 : decode (mB Lw_main) 2202 = .ok (.istore 7, 2) := by decide +kernel
theorem dLw_law_2204 : decode (mB Lw_main) 2204 = .ok (.aload_n 2, 1) := by decide +kernel
theorem dLw_law_2205 : decode (mB Lw_main) 2205 = .ok (.invokevirtual 130, 3) := by decide +kernel
theorem dLw_law_2208 : decode (mB Lw_main) 2208 = .ok (.iload 6, 2) := by decide +kernel
theorem dLw_law_2210 : decode (mB Lw_main) 2210 = .ok (.if_icmp .eq 5, 3) := by decide +kernel
theorem dLw_law_2213 : decode (mB Lw_main) 2213 = .ok (.iconst 0, 1) := by decide +kernel
theorem dLw_law_2214 : decode (mB Lw_main) 2214 = .ok (.ireturn, 1) := by decide +kernel
theorem dLw_law_2215 : decode (mB Lw_main) 2215 = .ok (.iload 6, 2) := by decide +kernel
theorem dLw_law_2217 : decode (mB Lw_main) 2217 = .ok (.ifCond .ne 15, 3) := by decide +kernel
theorem dLw_law_2220 : decode (mB Lw_main) 2220 = .ok (.aload_n 3, 1) := by decide +kernel
theorem dLw_law_2221 : decode (mB Lw_main) 2221 = .ok (.iconst 0, 1) := by decide +kernel
theorem dLw_law_2222 : decode (mB Lw_main) 2222 = .ok (.laload, 1) := by decide +kernel
theorem dLw_law_2223 : decode (mB Lw_main) 2223 = .ok (.iload 7, 2) := by decide +kernel
theorem dLw_law_2225 : decode (mB Lw_main) 2225 = .ok (.i2l, 1) := by decide +kernel
theorem dLw_law_2226 : decode (mB Lw_main) 2226 = .ok (.lcmp, 1) := by decide +kernel
theorem dLw_law_2227 : decode (mB Lw_main) 2227 = .ok (.ifCond .eq 5, 3) := by decide +kernel
theorem dLw_law_2230 : decode (mB Lw_main) 2230 = .ok (.iconst 0, 1) := by decide +kernel
theorem dLw_law_2231 : decode (mB Lw_main) 2231 = .ok (.ireturn, 1) := by decide +kernel
theorem dLw_law_2232 : decode (mB Lw_main) 2232 = .ok (.goto 288, 3) := by decide +kernel
theorem dLw_law_2235 : decode (mB Lw_main) 2235 = .ok (.aload_n 1, 1) := by decide +kernel
theorem dLw_law_2236 : decode (mB Lw_main) 2236 = .ok (.aload_n 0, 1) := by decide +kernel
theorem dLw_law_2237 : decode (mB Lw_main) 2237 = .ok (.iload 5, 2) := by decide +kernel
theorem dLw_law_2239 : decode (mB Lw_main) 2239 = .ok (.iconst 1, 1) := by decide +kernel
theorem dLw_law_2240 : decode (mB Lw_main) 2240 = .ok (.iadd, 1) := by decide +kernel
theorem dLw_law_2241 : decode (mB Lw_main) 2241 = .ok (.iaload, 1) := by decide +kernel
theorem dLw_law_2242 : decode (mB Lw_main) 2242 = .ok (.aload_n 3, 1) := by decide +kernel
theorem dLw_law_2243 : decode (mB Lw_main) 2243 = .ok (.invokestatic 232, 3) := by decide +kernel
theorem dLw_law_2246 : decode (mB Lw_main) 2246 = .ok (.istore 6, 2) := by decide +kernel
theorem dLw_law_2248 : decode (mB Lw_main) 2248 = .ok (.aload_n 2, 1) := by decide +kernel
theorem dLw_law_2249 : decode (mB Lw_main) 2249 = .ok (.aload_n 0, 1) := by decide +kernel
theorem dLw_law_2250 : decode (mB Lw_main) 2250 = .ok (.iload 5, 2) := by decide +kernel
theorem dLw_law_2252 : decode (mB Lw_main) 2252 = .ok (.iconst 1, 1) := by decide +kernel
theorem dLw_law_2253 : decode (mB Lw_main) 2253 = .ok (.iadd, 1) := by decide +kernel
theorem dLw_law_2254 : decode (mB Lw_main) 2254 = .ok (.iaload, 1) := by decide +kernel
theorem dLw_law_2255 : decode (mB Lw_main) 2255 = .ok (.invokevirtual 234, 3) := by decide +kernel
theorem dLw_law_2258 : decode (mB Lw_main) 2258 = .ok (.istore 7, 2) := by decide +kernel
theorem dLw_law_2260 : decode (mB Lw_main) 2260 = .ok (.aload_n 2, 1) := by decide +kernel
theorem dLw_law_2261 : decode (mB Lw_main) 2261 = .ok (.invokevirtual 130, 3) := by decide +kernel
theorem dLw_law_2264 : decode (mB Lw_main) 2264 = .ok (.iload 6, 2) := by decide +kernel
theorem dLw_law_2266 : decode (mB Lw_main) 2266 = .ok (.if_icmp .eq 5, 3) := by decide +kernel
theorem dLw_law_2269 : decode (mB Lw_main) 2269 = .ok (.iconst 0, 1) := by decide +kernel
theorem dLw_law_2270 : decode (mB Lw_main) 2270 = .ok (.ireturn, 1) := by decide +kernel
theorem dLw_law_2271 : decode (mB Lw_main) 2271 = .ok (.iload 6, 2) := by decide +kernel
theorem dLw_law_2273 : decode (mB Lw_main) 2273 = .ok (.ifCond .ne 15, 3) := by decide +kernel
theorem dLw_law_2276 : decode (mB Lw_main) 2276 = .ok (.aload_n 3, 1) := by decide +kernel
theorem dLw_law_2277 : decode (mB Lw_main) 2277 = .ok (.iconst 0, 1) := by decide +kernel
theorem dLw_law_2278 : decode (mB Lw_main) 2278 = .ok (.laload, 1) := by decide +kernel
theorem dLw_law_2279 : decode (mB Lw_main) 2279 = .ok (.iload 7, 2) := by decide +kernel
theorem dLw_law_2281 : decode (mB Lw_main) 2281 = .ok (.i2l, 1) := by decide +kernel
theorem dLw_law_2282 : decode (mB Lw_main) 2282 = .ok (.lcmp, 1) := by decide +kernel
theorem dLw_law_2283 : decode (mB Lw_main) 2283 = .ok (.ifCond .eq 5, 3) := by decide +kernel
theorem dLw_law_2286 : decode (mB Lw_main) 2286 = .ok (.iconst 0, 1) := by decide +kernel
theorem dLw_law_2287 : decode (mB Lw_main) 2287 = .ok (.ireturn, 1) := by decide +kernel
theorem dLw_law_2288 : decode (mB Lw_main) 2288 = .ok (.goto 232, 3) := by decide +kernel
theorem dLw_law_2291 : decode (mB Lw_main) 2291 = .ok (.aload_n 1, 1) := by decide +kernel
theorem dLw_law_2292 : decode (mB Lw_main) 2292 = .ok (.invokevirtual 235, 3) := by decide +kernel
theorem dLw_law_2295 : decode (mB Lw_main) 2295 = .ok (.aload_n 2, 1) := by decide +kernel
theorem dLw_law_2296 : decode (mB Lw_main) 2296 = .ok (.invokevirtual 238, 3) := by decide +kernel
theorem dLw_law_2299 : decode (mB Lw_main) 2299 = .ok (.if_icmp .eq 221, 3) := by decide +kernel
theorem dLw_law_2302 : decode (mB Lw_main) 2302 = .ok (.iconst 0, 1) := by decide +kernel
theorem dLw_law_2303 : decode (mB Lw_main) 2303 = .ok (.ireturn, 1) := by decide +kernel
theorem dLw_law_2304 : decode (mB Lw_main) 2304 = .ok (.aload_n 1, 1) := by decide +kernel
theorem dLw_law_2305 : decode (mB Lw_main) 2305 = .ok (.aload_n 0, 1) := by decide +kernel
theorem dLw_law_2306 : decode (mB Lw_main) 2306 = .ok (.iload 5, 2) := by decide +kernel
theorem dLw_law_2308 : decode (mB Lw_main) 2308 = .ok (.iconst 1, 1) := by decide +kernel
theorem dLw_law_2309 : decode (mB Lw_main) 2309 = .ok (.iadd, 1) := by decide +kernel
theorem dLw_law_2310 : decode (mB Lw_main) 2310 = .ok (.iaload, 1) := by decide +kernel
theorem dLw_law_2311 : decode (mB Lw_main) 2311 = .ok (.aload_n 3, 1) := by decide +kernel
theorem dLw_law_2312 : decode (mB Lw_main) 2312 = .ok (.invokestatic 239, 3) := by decide +kernel
theorem dLw_law_2315 : decode (mB Lw_main) 2315 = .ok (.istore 6, 2) := by decide +kernel
theorem dLw_law_2317 : decode (mB Lw_main) 2317 = .ok (.aload_n 2, 1) := by decide +kernel
theorem dLw_law_2318 : decode (mB Lw_main) 2318 = .ok (.aload_n 0, 1) := by decide +kernel
theorem dLw_law_2319 : decode (mB Lw_main) 2319 = .ok (.iload 5, 2) := by decide +kernel
theorem dLw_law_2321 : decode (mB Lw_main) 2321 = .ok (.iconst 1, 1) := by decide +kernel
theorem dLw_law_2322 : decode (mB Lw_main) 2322 = .ok (.iadd, 1) := by decide +kernel
theorem dLw_law_2323 : decode (mB Lw_main) 2323 = .ok (.iaload, 1) := by decide +kernel
theorem dLw_law_2324 : decode (mB Lw_main) 2324 = .ok (.invokevirtual 241, 3) := by decide +kernel
theorem dLw_law_2327 : decode (mB Lw_main) 2327 = .ok (.istore 7, 2) := by decide +kernel
theorem dLw_law_2329 : decode (mB Lw_main) 2329 = .ok (.aload_n 2, 1) := by decide +kernel
theorem dLw_law_2330 : decode (mB Lw_main) 2330 = .ok (.invokevirtual 130, 3) := by decide +kernel
theorem dLw_law_2333 : decode (mB Lw_main) 2333 = .ok (.iload 6, 2) := by decide +kernel
theorem dLw_law_2335 : decode (mB Lw_main) 2335 = .ok (.if_icmp .eq 5, 3) := by decide +kernel
theorem dLw_law_2338 : decode (mB Lw_main) 2338 = .ok (.iconst 0, 1) := by decide +kernel
theorem dLw_law_2339 : decode (mB Lw_main) 2339 = .ok (.ireturn, 1) := by decide +kernel
theorem dLw_law_2340 : decode (mB Lw_main) 2340 = .ok (.iload 6, 2) := by decide +kernel
theorem dLw_law_2342 : decode (mB Lw_main) 2342 = .ok (.ifCond .ne 15, 3) := by decide +kernel
theorem dLw_law_2345 : decode (mB Lw_main) 2345 = .ok (.aload_n 3, 1) := by decide +kernel
theorem dLw_law_2346 : decode (mB Lw_main) 2346 = .ok (.iconst 0, 1) := by decide +kernel
theorem dLw_law_2347 : decode (mB Lw_main) 2347 = .ok (.laload, 1) := by decide +kernel
theorem dLw_law_2348 : decode (mB Lw_main) 2348 = .ok (.iload 7, 2) := by decide +kernel
theorem dLw_law_2350 : decode (mB Lw_main) 2350 = .ok (.i2l, 1) := by decide +kernel
theorem dLw_law_2351 : decode (mB Lw_main) 2351 = .ok (.lcmp, 1) := by decide +kernel
theorem dLw_law_2352 : decode (mB Lw_main) 2352 = .ok (.ifCond .eq 5, 3) := by decide +kernel
theorem dLw_law_2355 : decode (mB Lw_main) 2355 = .ok (.iconst 0, 1) := by decide +kernel
theorem dLw_law_2356 : decode (mB Lw_main) 2356 = .ok (.ireturn, 1) := by decide +kernel
theorem dLw_law_2357 : decode (mB Lw_main) 2357 = .ok (.goto 163, 3) := by decide +kernel
theorem dLw_law_2360 : decode (mB Lw_main) 2360 = .ok (.aload_n 1, 1) := by decide +kernel
theorem dLw_law_2361 : decode (mB Lw_main) 2361 = .ok (.aload_n 0, 1) := by decide +kernel
theorem dLw_law_2362 : decode (mB Lw_main) 2362 = .ok (.iload 5, 2) := by decide +kernel
theorem dLw_law_2364 : decode (mB Lw_main) 2364 = .ok (.iconst 1, 1) := by decide +kernel
theorem dLw_law_2365 : decode (mB Lw_main) 2365 = .ok (.iadd, 1) := by decide +kernel
theorem dLw_law_2366 : decode (mB Lw_main) 2366 = .ok (.iaload, 1) := by decide +kernel
theorem dLw_law_2367 : decode (mB Lw_main) 2367 = .ok (.aload_n 0, 1) := by decide +kernel
theorem dLw_law_2368 : decode (mB Lw_main) 2368 = .ok (.iload 5, 2) := by decide +kernel
theorem dLw_law_2370 : decode (mB Lw_main) 2370 = .ok (.iconst 2, 1) := by decide +kernel
theorem dLw_law_2371 : decode (mB Lw_main) 2371 = .ok (.iadd, 1) := by decide +kernel
theorem dLw_law_2372 : decode (mB Lw_main) 2372 = .ok (.iaload, 1) := by decide +kernel
theorem dLw_law_2373 : decode (mB Lw_main) 2373 = .ok (.aload_n 3, 1) := by decide +kernel
theorem dLw_law_2374 : decode (mB Lw_main) 2374 = .ok (.invokestatic 242, 3) := by decide +kernel
theorem dLw_law_2377 : decode (mB Lw_main) 2377 = .ok (.istore 6, 2) := by decide +kernel
theorem dLw_law_2379 : decode (mB Lw_main) 2379 = .ok (.aload_n 2, 1) := by decide +kernel
theorem dLw_law_2380 : decode (mB Lw_main) 2380 = .ok (.aload_n 0, 1) := by decide +kernel
theorem dLw_law_2381 : decode (mB Lw_main) 2381 = .ok (.iload 5, 2) := by decide +kernel
theorem dLw_law_2383 : decode (mB Lw_main) 2383 = .ok (.iconst 1, 1) := by decide +kernel
theorem dLw_law_2384 : decode (mB Lw_main) 2384 = .ok (.iadd, 1) := by decide +kernel
theorem dLw_law_2385 : decode (mB Lw_main) 2385 = .ok (.iaload, 1) := by decide +kernel
theorem dLw_law_2386 : decode (mB Lw_main) 2386 = .ok (.aload_n 0, 1) := by decide +kernel
theorem dLw_law_2387 : decode (mB Lw_main) 2387 = .ok (.iload 5, 2) := by decide +kernel
theorem dLw_law_2389 : decode (mB Lw_main) 2389 = .ok (.iconst 2, 1) := by decide +kernel
theorem dLw_law_2390 : decode (mB Lw_main) 2390 = .ok (.iadd, 1) := by decide +kernel
theorem dLw_law_2391 : decode (mB Lw_main) 2391 = .ok (.iaload, 1) := by decide +kernel
theorem dLw_law_2392 : decode (mB Lw_main) 2392 = .ok (.invokevirtual 244, 3) := by decide +kernel
theorem dLw_law_2395 : decode (mB Lw_main) 2395 = .ok (.istore 7, 2) := by decide +kernel
theorem dLw_law_2397 : decode (mB Lw_main) 2397 = .ok (.aload_n 2, 1) := by decide +kernel
theorem dLw_law_2398 : decode (mB Lw_main) 2398 = .ok (.invokevirtual 130, 3) := by decide +kernel
theorem dLw_law_2401 : decode (mB Lw_main) 2401 = .ok (.iload 6, 2) := by decide +kernel
theorem dLw_law_2403 : decode (mB Lw_main) 2403 = .ok (.if_icmp .eq 5, 3) := by decide +kernel
theorem dLw_law_2406 : decode (mB Lw_main) 2406 = .ok (.iconst 0, 1) := by decide +kernel
theorem dLw_law_2407 : decode (mB Lw_main) 2407 = .ok (.ireturn, 1) := by decide +kernel
theorem dLw_law_2408 : decode (mB Lw_main) 2408 = .ok (.iload 6, 2) := by decide +kernel
theorem dLw_law_2410 : decode (mB Lw_main) 2410 = .ok (.ifCond .ne 15, 3) := by decide +kernel
theorem dLw_law_2413 : decode (mB Lw_main) 2413 = .ok (.aload_n 3, 1) := by decide +kernel
theorem dLw_law_2414 : decode (mB Lw_main) 2414 = .ok (.iconst 0, 1) := by decide +kernel
theorem dLw_law_2415 : decode (mB Lw_main) 2415 = .ok (.laload, 1) := by decide +kernel
theorem dLw_law_2416 : decode (mB Lw_main) 2416 = .ok (.iload 7, 2) := by decide +kernel
theorem dLw_law_2418 : decode (mB Lw_main) 2418 = .ok (.i2l, 1) := by decide +kernel
theorem dLw_law_2419 : decode (mB Lw_main) 2419 = .ok (.lcmp, 1) := by decide +kernel
theorem dLw_law_2420 : decode (mB Lw_main) 2420 = .ok (.ifCond .eq 5, 3) := by decide +kernel
theorem dLw_law_2423 : decode (mB Lw_main) 2423 = .ok (.iconst 0, 1) := by decide +kernel
theorem dLw_law_2424 : decode (mB Lw_main) 2424 = .ok (.ireturn, 1) := by decide +kernel
theorem dLw_law_2425 : decode (mB Lw_main) 2425 = .ok (.goto 95, 3) := by decide +kernel
theorem dLw_law_2428 : decode (mB Lw_main) 2428 = .ok (.aload_n 1, 1) := by decide +kernel
theorem dLw_law_2429 : decode (mB Lw_main) 2429 = .ok (.aload_n 0, 1) := by decide +kernel
theorem dLw_law_2430 : decode (mB Lw_main) 2430 = .ok (.iload 5, 2) := by decide +kernel
theorem dLw_law_2432 : decode (mB Lw_main) 2432 = .ok (.iconst 1, 1) := by decide +kernel
theorem dLw_law_2433 : decode (mB Lw_main) 2433 = .ok (.iadd, 1) := by decide +kernel
theorem dLw_law_2434 : decode (mB Lw_main) 2434 = .ok (.iaload, 1) := by decide +kernel
theorem dLw_law_2435 : decode (mB Lw_main) 2435 = .ok (.aload_n 0, 1) := by decide +kernel
theorem dLw_law_2436 : decode (mB Lw_main) 2436 = .ok (.iload 5, 2) := by decide +kernel
theorem dLw_law_2438 : decode (mB Lw_main) 2438 = .ok (.iconst 2, 1) := by decide +kernel
theorem dLw_law_2439 : decode (mB Lw_main) 2439 = .ok (.iadd, 1) := by decide +kernel
theorem dLw_law_2440 : decode (mB Lw_main) 2440 = .ok (.iaload, 1) := by decide +kernel
theorem dLw_law_2441 : decode (mB Lw_main) 2441 = .ok (.aload_n 0, 1) := by decide +kernel
theorem dLw_law_2442 : decode (mB Lw_main) 2442 = .ok (.iload 5, 2) := by decide +kernel
theorem dLw_law_2444 : decode (mB Lw_main) 2444 = .ok (.iconst 3, 1) := by decide +kernel
theorem dLw_law_2445 : decode (mB Lw_main) 2445 = .ok (.iadd, 1) := by decide +kernel
theorem dLw_law_2446 : decode (mB Lw_main) 2446 = .ok (.iaload, 1) := by decide +kernel
theorem dLw_law_2447 : decode (mB Lw_main) 2447 = .ok (.aload_n 0, 1) := by decide +kernel
theorem dLw_law_2448 : decode (mB Lw_main) 2448 = .ok (.iload 5, 2) := by decide +kernel
theorem dLw_law_2450 : decode (mB Lw_main) 2450 = .ok (.iconst 4, 1) := by decide +kernel
theorem dLw_law_2451 : decode (mB Lw_main) 2451 = .ok (.iadd, 1) := by decide +kernel
theorem dLw_law_2452 : decode (mB Lw_main) 2452 = .ok (.iaload, 1) := by decide +kernel
theorem dLw_law_2453 : decode (mB Lw_main) 2453 = .ok (.aload_n 3, 1) := by decide +kernel
theorem dLw_law_2454 : decode (mB Lw_main) 2454 = .ok (.invokestatic 245, 3) := by decide +kernel
theorem dLw_law_2457 : decode (mB Lw_main) 2457 = .ok (.istore 6, 2) := by decide +kernel
theorem dLw_law_2459 : decode (mB Lw_main) 2459 = .ok (.aload_n 2, 1) := by decide +kernel
theorem dLw_law_2460 : decode (mB Lw_main) 2460 = .ok (.aload_n 0, 1) := by decide +kernel
theorem dLw_law_2461 : decode (mB Lw_main) 2461 = .ok (.iload 5, 2) := by decide +kernel
theorem dLw_law_2463 : decode (mB Lw_main) 2463 = .ok (.iconst 1, 1) := by decide +kernel
theorem dLw_law_2464 : decode (mB Lw_main) 2464 = .ok (.iadd, 1) := by decide +kernel
theorem dLw_law_2465 : decode (mB Lw_main) 2465 = .ok (.iaload, 1) := by decide +kernel
theorem dLw_law_2466 : decode (mB Lw_main) 2466 = .ok (.aload_n 0, 1) := by decide +kernel
theorem dLw_law_2467 : decode (mB Lw_main) 2467 = .ok (.iload 5, 2) := by decide +kernel
theorem dLw_law_2469 : decode (mB Lw_main) 2469 = .ok (.iconst 2, 1) := by decide +kernel
theorem dLw_law_2470 : decode (mB Lw_main) 2470 = .ok (.iadd, 1) := by decide +kernel
theorem dLw_law_2471 : decode (mB Lw_main) 2471 = .ok (.iaload, 1) := by decide +kernel
theorem dLw_law_2472 : decode (mB Lw_main) 2472 = .ok (.aload_n 0, 1) := by decide +kernel
theorem dLw_law_2473 : decode (mB Lw_main) 2473 = .ok (.iload 5, 2) := by decide +kernel
theorem dLw_law_2475 : decode (mB Lw_main) 2475 = .ok (.iconst 3, 1) := by decide +kernel
theorem dLw_law_2476 : decode (mB Lw_main) 2476 = .ok (.iadd, 1) := by decide +kernel
theorem dLw_law_2477 : decode (mB Lw_main) 2477 = .ok (.iaload, 1) := by decide +kernel
theorem dLw_law_2478 : decode (mB Lw_main) 2478 = .ok (.aload_n 0, 1) := by decide +kernel
theorem dLw_law_2479 : decode (mB Lw_main) 2479 = .ok (.iload 5, 2) := by decide +kernel
theorem dLw_law_2481 : decode (mB Lw_main) 2481 = .ok (.iconst 4, 1) := by decide +kernel
theorem dLw_law_2482 : decode (mB Lw_main) 2482 = .ok (.iadd, 1) := by decide +kernel
theorem dLw_law_2483 : decode (mB Lw_main) 2483 = .ok (.iaload, 1) := by decide +kernel
theorem dLw_law_2484 : decode (mB Lw_main) 2484 = .ok (.invokevirtual 248, 3) := by decide +kernel
theorem dLw_law_2487 : decode (mB Lw_main) 2487 = .ok (.istore 7, 2) := by decide +kernel
theorem dLw_law_2489 : decode (mB Lw_main) 2489 = .ok (.aload_n 2, 1) := by decide +kernel
theorem dLw_law_2490 : decode (mB Lw_main) 2490 = .ok (.invokevirtual 130, 3) := by decide +kernel
theorem dLw_law_2493 : decode (mB Lw_main) 2493 = .ok (.iload 6, 2) := by decide +kernel
theorem dLw_law_2495 : decode (mB Lw_main) 2495 = .ok (.if_icmp .eq 5, 3) := by decide +kernel
theorem dLw_law_2498 : decode (mB Lw_main) 2498 = .ok (.iconst 0, 1) := by decide +kernel
theorem dLw_law_2499 : decode (mB Lw_main) 2499 = .ok (.ireturn, 1) := by decide +kernel
theorem dLw_law_2500 : decode (mB Lw_main) 2500 = .ok (.iload 6, 2) := by decide +kernel
theorem dLw_law_2502 : decode (mB Lw_main) 2502 = .ok (.ifCond .ne 15, 3) := by decide +kernel
theorem dLw_law_2505 : decode (mB Lw_main) 2505 = .ok (.aload_n 3, 1) := by decide +kernel
theorem dLw_law_2506 : decode (mB Lw_main) 2506 = .ok (.iconst 0, 1) := by decide +kernel
theorem dLw_law_2507 : decode (mB Lw_main) 2507 = .ok (.laload, 1) := by decide +kernel
theorem dLw_law_2508 : decode (mB Lw_main) 2508 = .ok (.iload 7, 2) := by decide +kernel
theorem dLw_law_2510 : decode (mB Lw_main) 2510 = .ok (.i2l, 1) := by decide +kernel
theorem dLw_law_2511 : decode (mB Lw_main) 2511 = .ok (.lcmp, 1) := by decide +kernel
theorem dLw_law_2512 : decode (mB Lw_main) 2512 = .ok (.ifCond .eq 5, 3) := by decide +kernel
theorem dLw_law_2515 : decode (mB Lw_main) 2515 = .ok (.iconst 0, 1) := by decide +kernel
theorem dLw_law_2516 : decode (mB Lw_main) 2516 = .ok (.ireturn, 1) := by decide +kernel
theorem dLw_law_2517 : decode (mB Lw_main) 2517 = .ok (.goto 3, 3) := by decide +kernel
theorem dLw_law_2520 : decode (mB Lw_main) 2520 = .ok (.iinc 5 6, 3) := by decide +kernel
theorem dLw_law_2523 : decode (mB Lw_main) 2523 = .ok (.goto (-2495), 3) := by decide +kernel
theorem dLw_law_2526 : decode (mB Lw_main) 2526 = .ok (.iconst 1, 1) := by decide +kernel
theorem dLw_law_2527 : decode (mB Lw_main) 2527 = .ok (.ireturn, 1) := by decide +kernel
def w_Lw_law_204 (R : Int32 → tpH → Prop) (K28 : (Option Nat) → (Option Nat) → (Option Nat) → (Option Nat) → (Option Nat) → Int32 → tpH → Prop) (x0 : Option Nat) (x1 : Option Nat) (x2 : Option Nat) (x3 : Option Nat) (x4 : Option Nat) (x5 : Int32) (h : tpH) : Prop :=
  ∃ a1, x0 = some a1 ∧ hT h a1 = 22 ∧ (vp_in (x5 + (1 : Int32)) (hL h a1) ∧ (vp_in (x5 + (2 : Int32)) (hL h a1) ∧ (vp_in (x5 + (3 : Int32)) (hL h a1) ∧ (w_Lw_begin x1 (hI h a1 (x5 + (1 : Int32)).toNatClampNeg) (hI h a1 (x5 + (2 : Int32)).toNatClampNeg) (hI h a1 (x5 + (3 : Int32)).toNatClampNeg) x3 h (fun v8 h7 => hT h7 a1 = 22 ∧ (vp_in (x5 + (1 : Int32)) (hL h7 a1) ∧ (vp_in (x5 + (2 : Int32)) (hL h7 a1) ∧ (vp_in (x5 + (3 : Int32)) (hL h7 a1) ∧ (∃ a13, x2 = some a13 ∧ hT h7 a13 = 14 ∧ (w_Md_begin a13 (hI h7 a1 (x5 + (1 : Int32)).toNatClampNeg) (hI h7 a1 (x5 + (2 : Int32)).toNatClampNeg) (hI h7 a1 (x5 + (3 : Int32)).toNatClampNeg) h7 (fun v17 h16 => hT h16 a13 = 14 ∧ (w_Md_thrown a13 h16 (fun v20 h19 => (v20 = v8 → ((¬ v8 = 0 → (K28 x0 x1 x2 x3 x4 (x5 + (6 : Int32)) h19)) ∧ (v8 = 0 → (∃ a23, x3 = some a23 ∧ hT h19 a23 = 17 ∧ (vp_in (0 : Int32) (hL h19 a23) ∧ (((lg_cmp (hJ h19 a23 (0 : Int32).toNatClampNeg) (v17.toInt64)) = 0 → (K28 x0 x1 x2 x3 x4 (x5 + (6 : Int32)) h19)) ∧ (¬ (lg_cmp (hJ h19 a23 (0 : Int32).toNatClampNeg) (v17.toInt64)) = 0 → (R (0 : Int32) h19)))))))) ∧ (¬ v20 = v8 → (R (0 : Int32) h19)))))))))))))))
def w_Lw_law_284 (R : Int32 → tpH → Prop) (K28 : (Option Nat) → (Option Nat) → (Option Nat) → (Option Nat) → (Option Nat) → Int32 → tpH → Prop) (x0 : Option Nat) (x1 : Option Nat) (x2 : Option Nat) (x3 : Option Nat) (x4 : Option Nat) (x5 : Int32) (h : tpH) : Prop :=
  ∃ a1, x0 = some a1 ∧ hT h a1 = 22 ∧ (vp_in (x5 + (1 : Int32)) (hL h a1) ∧ (w_Lw_copy x1 (hI h a1 (x5 + (1 : Int32)).toNatClampNeg) x3 h (fun v6 h5 => hT h5 a1 = 22 ∧ (vp_in (x5 + (1 : Int32)) (hL h5 a1) ∧ (∃ a9, x2 = some a9 ∧ hT h5 a9 = 14 ∧ (w_Md_copy a9 (hI h5 a1 (x5 + (1 : Int32)).toNatClampNeg) h5 (fun v13 h12 => hT h12 a9 = 14 ∧ (w_Md_thrown a9 h12 (fun v16 h15 => (v16 = v6 → ((¬ v6 = 0 → (K28 x0 x1 x2 x3 x4 (x5 + (6 : Int32)) h15)) ∧ (v6 = 0 → (∃ a19, x3 = some a19 ∧ hT h15 a19 = 17 ∧ (vp_in (0 : Int32) (hL h15 a19) ∧ (((lg_cmp (hJ h15 a19 (0 : Int32).toNatClampNeg) (v13.toInt64)) = 0 → (K28 x0 x1 x2 x3 x4 (x5 + (6 : Int32)) h15)) ∧ (¬ (lg_cmp (hJ h15 a19 (0 : Int32).toNatClampNeg) (v13.toInt64)) = 0 → (R (0 : Int32) h15)))))))) ∧ (¬ v16 = v6 → (R (0 : Int32) h15)))))))))))
def w_Lw_law_340 (R : Int32 → tpH → Prop) (K28 : (Option Nat) → (Option Nat) → (Option Nat) → (Option Nat) → (Option Nat) → Int32 → tpH → Prop) (x0 : Option Nat) (x1 : Option Nat) (x2 : Option Nat) (x3 : Option Nat) (x4 : Option Nat) (x5 : Int32) (h : tpH) : Prop :=
  ∃ a1, x0 = some a1 ∧ hT h a1 = 22 ∧ (vp_in (x5 + (1 : Int32)) (hL h a1) ∧ (vp_in (x5 + (2 : Int32)) (hL h a1) ∧ (vp_in (x5 + (3 : Int32)) (hL h a1) ∧ (vp_in (x5 + (4 : Int32)) (hL h a1) ∧ (vp_in (x5 + (5 : Int32)) (hL h a1) ∧ (w_Lw_node x1 (hI h a1 (x5 + (1 : Int32)).toNatClampNeg) (hI h a1 (x5 + (2 : Int32)).toNatClampNeg) (hI h a1 (x5 + (3 : Int32)).toNatClampNeg) (hI h a1 (x5 + (4 : Int32)).toNatClampNeg) (hI h a1 (x5 + (5 : Int32)).toNatClampNeg) x3 h (fun v10 h9 => hT h9 a1 = 22 ∧ (vp_in (x5 + (1 : Int32)) (hL h9 a1) ∧ (vp_in (x5 + (2 : Int32)) (hL h9 a1) ∧ (vp_in (x5 + (3 : Int32)) (hL h9 a1) ∧ (vp_in (x5 + (4 : Int32)) (hL h9 a1) ∧ (vp_in (x5 + (5 : Int32)) (hL h9 a1) ∧ (∃ a17, x2 = some a17 ∧ hT h9 a17 = 14 ∧ (w_Md_node a17 (hI h9 a1 (x5 + (1 : Int32)).toNatClampNeg) (hI h9 a1 (x5 + (2 : Int32)).toNatClampNeg) (hI h9 a1 (x5 + (3 : Int32)).toNatClampNeg) (hI h9 a1 (x5 + (4 : Int32)).toNatClampNeg) (hI h9 a1 (x5 + (5 : Int32)).toNatClampNeg) h9 (fun v21 h20 => hT h20 a17 = 14 ∧ (w_Md_thrown a17 h20 (fun v24 h23 => (v24 = v10 → ((¬ v10 = 0 → (K28 x0 x1 x2 x3 x4 (x5 + (6 : Int32)) h23)) ∧ (v10 = 0 → (∃ a27, x3 = some a27 ∧ hT h23 a27 = 17 ∧ (vp_in (0 : Int32) (hL h23 a27) ∧ (((lg_cmp (hJ h23 a27 (0 : Int32).toNatClampNeg) (v21.toInt64)) = 0 → (K28 x0 x1 x2 x3 x4 (x5 + (6 : Int32)) h23)) ∧ (¬ (lg_cmp (hJ h23 a27 (0 : Int32).toNatClampNeg) (v21.toInt64)) = 0 → (R (0 : Int32) h23)))))))) ∧ (¬ v24 = v10 → (R (0 : Int32) h23)))))))))))))))))))
def w_Lw_law_444 (R : Int32 → tpH → Prop) (K28 : (Option Nat) → (Option Nat) → (Option Nat) → (Option Nat) → (Option Nat) → Int32 → tpH → Prop) (x0 : Option Nat) (x1 : Option Nat) (x2 : Option Nat) (x3 : Option Nat) (x4 : Option Nat) (x5 : Int32) (h : tpH) : Prop :=
  ∃ a1, x0 = some a1 ∧ hT h a1 = 22 ∧ (vp_in (x5 + (1 : Int32)) (hL h a1) ∧ (vp_in (x5 + (2 : Int32)) (hL h a1) ∧ (w_Lw_set x1 (hI h a1 (x5 + (1 : Int32)).toNatClampNeg) (hI h a1 (x5 + (2 : Int32)).toNatClampNeg) x3 h (fun v7 h6 => hT h6 a1 = 22 ∧ (vp_in (x5 + (1 : Int32)) (hL h6 a1) ∧ (vp_in (x5 + (2 : Int32)) (hL h6 a1) ∧ (∃ a11, x2 = some a11 ∧ hT h6 a11 = 14 ∧ (w_Md_set a11 (hI h6 a1 (x5 + (1 : Int32)).toNatClampNeg) (hI h6 a1 (x5 + (2 : Int32)).toNatClampNeg) h6 (fun v15 h14 => hT h14 a11 = 14 ∧ (w_Md_thrown a11 h14 (fun v18 h17 => (v18 = v7 → ((¬ v7 = 0 → (K28 x0 x1 x2 x3 x4 (x5 + (6 : Int32)) h17)) ∧ (v7 = 0 → (∃ a21, x3 = some a21 ∧ hT h17 a21 = 17 ∧ (vp_in (0 : Int32) (hL h17 a21) ∧ (((lg_cmp (hJ h17 a21 (0 : Int32).toNatClampNeg) (v15.toInt64)) = 0 → (K28 x0 x1 x2 x3 x4 (x5 + (6 : Int32)) h17)) ∧ (¬ (lg_cmp (hJ h17 a21 (0 : Int32).toNatClampNeg) (v15.toInt64)) = 0 → (R (0 : Int32) h17)))))))) ∧ (¬ v18 = v7 → (R (0 : Int32) h17)))))))))))))
def w_Lw_law_512 (R : Int32 → tpH → Prop) (K28 : (Option Nat) → (Option Nat) → (Option Nat) → (Option Nat) → (Option Nat) → Int32 → tpH → Prop) (x0 : Option Nat) (x1 : Option Nat) (x2 : Option Nat) (x3 : Option Nat) (x4 : Option Nat) (x5 : Int32) (h : tpH) : Prop :=
  ∃ a1, x0 = some a1 ∧ hT h a1 = 22 ∧ (vp_in (x5 + (1 : Int32)) (hL h a1) ∧ (vp_in (x5 + (2 : Int32)) (hL h a1) ∧ (vp_in (x5 + (3 : Int32)) (hL h a1) ∧ (w_Lw_move x1 (hI h a1 (x5 + (1 : Int32)).toNatClampNeg) (hI h a1 (x5 + (2 : Int32)).toNatClampNeg) (hI h a1 (x5 + (3 : Int32)).toNatClampNeg) x3 h (fun v8 h7 => hT h7 a1 = 22 ∧ (vp_in (x5 + (1 : Int32)) (hL h7 a1) ∧ (vp_in (x5 + (2 : Int32)) (hL h7 a1) ∧ (vp_in (x5 + (3 : Int32)) (hL h7 a1) ∧ (∃ a13, x2 = some a13 ∧ hT h7 a13 = 14 ∧ (w_Md_move a13 (hI h7 a1 (x5 + (1 : Int32)).toNatClampNeg) (hI h7 a1 (x5 + (2 : Int32)).toNatClampNeg) (hI h7 a1 (x5 + (3 : Int32)).toNatClampNeg) h7 (fun v17 h16 => hT h16 a13 = 14 ∧ (w_Md_thrown a13 h16 (fun v20 h19 => (v20 = v8 → ((¬ v8 = 0 → (K28 x0 x1 x2 x3 x4 (x5 + (6 : Int32)) h19)) ∧ (v8 = 0 → (∃ a23, x3 = some a23 ∧ hT h19 a23 = 17 ∧ (vp_in (0 : Int32) (hL h19 a23) ∧ (((lg_cmp (hJ h19 a23 (0 : Int32).toNatClampNeg) (v17.toInt64)) = 0 → (K28 x0 x1 x2 x3 x4 (x5 + (6 : Int32)) h19)) ∧ (¬ (lg_cmp (hJ h19 a23 (0 : Int32).toNatClampNeg) (v17.toInt64)) = 0 → (R (0 : Int32) h19)))))))) ∧ (¬ v20 = v8 → (R (0 : Int32) h19)))))))))))))))
def w_Lw_law_592 (R : Int32 → tpH → Prop) (K28 : (Option Nat) → (Option Nat) → (Option Nat) → (Option Nat) → (Option Nat) → Int32 → tpH → Prop) (x0 : Option Nat) (x1 : Option Nat) (x2 : Option Nat) (x3 : Option Nat) (x4 : Option Nat) (x5 : Int32) (h : tpH) : Prop :=
  ∃ a1, x0 = some a1 ∧ hT h a1 = 22 ∧ (vp_in (x5 + (1 : Int32)) (hL h a1) ∧ (w_Lw_drop x1 (hI h a1 (x5 + (1 : Int32)).toNatClampNeg) x3 h (fun v6 h5 => hT h5 a1 = 22 ∧ (vp_in (x5 + (1 : Int32)) (hL h5 a1) ∧ (∃ a9, x2 = some a9 ∧ hT h5 a9 = 14 ∧ (w_Md_drop a9 (hI h5 a1 (x5 + (1 : Int32)).toNatClampNeg) h5 (fun v13 h12 => hT h12 a9 = 14 ∧ (w_Md_thrown a9 h12 (fun v16 h15 => (v16 = v6 → ((¬ v6 = 0 → (K28 x0 x1 x2 x3 x4 (x5 + (6 : Int32)) h15)) ∧ (v6 = 0 → (∃ a19, x3 = some a19 ∧ hT h15 a19 = 17 ∧ (vp_in (0 : Int32) (hL h15 a19) ∧ (((lg_cmp (hJ h15 a19 (0 : Int32).toNatClampNeg) (v13.toInt64)) = 0 → (K28 x0 x1 x2 x3 x4 (x5 + (6 : Int32)) h15)) ∧ (¬ (lg_cmp (hJ h15 a19 (0 : Int32).toNatClampNeg) (v13.toInt64)) = 0 → (R (0 : Int32) h15)))))))) ∧ (¬ v16 = v6 → (R (0 : Int32) h15)))))))))))
def w_Lw_law_648 (R : Int32 → tpH → Prop) (K28 : (Option Nat) → (Option Nat) → (Option Nat) → (Option Nat) → (Option Nat) → Int32 → tpH → Prop) (x0 : Option Nat) (x1 : Option Nat) (x2 : Option Nat) (x3 : Option Nat) (x4 : Option Nat) (x5 : Int32) (h : tpH) : Prop :=
  w_Lw_seal x1 x3 h (fun v2 h1 => ∃ a3, x2 = some a3 ∧ hT h1 a3 = 14 ∧ (w_Md_seal a3 h1 (fun v7 h6 => hT h6 a3 = 14 ∧ (w_Md_thrown a3 h6 (fun v10 h9 => (v10 = v2 → ((¬ v2 = 0 → (K28 x0 x1 x2 x3 x4 (x5 + (6 : Int32)) h9)) ∧ (v2 = 0 → (∃ a13, x3 = some a13 ∧ hT h9 a13 = 17 ∧ (vp_in (0 : Int32) (hL h9 a13) ∧ (((lg_cmp (hJ h9 a13 (0 : Int32).toNatClampNeg) (v7.toInt64)) = 0 → (K28 x0 x1 x2 x3 x4 (x5 + (6 : Int32)) h9)) ∧ (¬ (lg_cmp (hJ h9 a13 (0 : Int32).toNatClampNeg) (v7.toInt64)) = 0 → (R (0 : Int32) h9)))))))) ∧ (¬ v10 = v2 → (R (0 : Int32) h9)))))))
def w_Lw_law_692 (R : Int32 → tpH → Prop) (K28 : (Option Nat) → (Option Nat) → (Option Nat) → (Option Nat) → (Option Nat) → Int32 → tpH → Prop) (x0 : Option Nat) (x1 : Option Nat) (x2 : Option Nat) (x3 : Option Nat) (x4 : Option Nat) (x5 : Int32) (h : tpH) : Prop :=
  ∃ a1, x0 = some a1 ∧ hT h a1 = 22 ∧ (vp_in (x5 + (1 : Int32)) (hL h a1) ∧ (vp_in (x5 + (2 : Int32)) (hL h a1) ∧ (w_Lw_find x1 (hI h a1 (x5 + (1 : Int32)).toNatClampNeg) (hI h a1 (x5 + (2 : Int32)).toNatClampNeg) x3 h (fun v7 h6 => hT h6 a1 = 22 ∧ (vp_in (x5 + (1 : Int32)) (hL h6 a1) ∧ (vp_in (x5 + (2 : Int32)) (hL h6 a1) ∧ (∃ a11, x2 = some a11 ∧ hT h6 a11 = 14 ∧ (w_Md_find a11 (hI h6 a1 (x5 + (1 : Int32)).toNatClampNeg) (hI h6 a1 (x5 + (2 : Int32)).toNatClampNeg) h6 (fun v15 h14 => hT h14 a11 = 14 ∧ (w_Md_thrown a11 h14 (fun v18 h17 => (v18 = v7 → ((¬ v7 = 0 → (K28 x0 x1 x2 x3 x4 (x5 + (6 : Int32)) h17)) ∧ (v7 = 0 → (∃ a21, x3 = some a21 ∧ hT h17 a21 = 17 ∧ (vp_in (0 : Int32) (hL h17 a21) ∧ (((lg_cmp (hJ h17 a21 (0 : Int32).toNatClampNeg) (v15.toInt64)) = 0 → (K28 x0 x1 x2 x3 x4 (x5 + (6 : Int32)) h17)) ∧ (¬ (lg_cmp (hJ h17 a21 (0 : Int32).toNatClampNeg) (v15.toInt64)) = 0 → (R (0 : Int32) h17)))))))) ∧ (¬ v18 = v7 → (R (0 : Int32) h17)))))))))))))
def w_Lw_law_760 (R : Int32 → tpH → Prop) (K28 : (Option Nat) → (Option Nat) → (Option Nat) → (Option Nat) → (Option Nat) → Int32 → tpH → Prop) (x0 : Option Nat) (x1 : Option Nat) (x2 : Option Nat) (x3 : Option Nat) (x4 : Option Nat) (x5 : Int32) (h : tpH) : Prop :=
  ∃ a1, x0 = some a1 ∧ hT h a1 = 22 ∧ (vp_in (x5 + (1 : Int32)) (hL h a1) ∧ (w_Lw_turn x1 (hI h a1 (x5 + (1 : Int32)).toNatClampNeg) x3 h (fun v6 h5 => hT h5 a1 = 22 ∧ (vp_in (x5 + (1 : Int32)) (hL h5 a1) ∧ (∃ a9, x2 = some a9 ∧ hT h5 a9 = 14 ∧ (w_Md_turn a9 (hI h5 a1 (x5 + (1 : Int32)).toNatClampNeg) h5 (fun v13 h12 => hT h12 a9 = 14 ∧ (w_Md_thrown a9 h12 (fun v16 h15 => (v16 = v6 → ((¬ v6 = 0 → (K28 x0 x1 x2 x3 x4 (x5 + (6 : Int32)) h15)) ∧ (v6 = 0 → (∃ a19, x3 = some a19 ∧ hT h15 a19 = 17 ∧ (vp_in (0 : Int32) (hL h15 a19) ∧ (((lg_cmp (hJ h15 a19 (0 : Int32).toNatClampNeg) (v13.toInt64)) = 0 → (K28 x0 x1 x2 x3 x4 (x5 + (6 : Int32)) h15)) ∧ (¬ (lg_cmp (hJ h15 a19 (0 : Int32).toNatClampNeg) (v13.toInt64)) = 0 → (R (0 : Int32) h15)))))))) ∧ (¬ v16 = v6 → (R (0 : Int32) h15)))))))))))
def w_Lw_law_816 (R : Int32 → tpH → Prop) (K28 : (Option Nat) → (Option Nat) → (Option Nat) → (Option Nat) → (Option Nat) → Int32 → tpH → Prop) (x0 : Option Nat) (x1 : Option Nat) (x2 : Option Nat) (x3 : Option Nat) (x4 : Option Nat) (x5 : Int32) (h : tpH) : Prop :=
  ∃ a1, x0 = some a1 ∧ hT h a1 = 22 ∧ (vp_in (x5 + (1 : Int32)) (hL h a1) ∧ (vp_in (x5 + (2 : Int32)) (hL h a1) ∧ (w_Lw_apply x1 (hI h a1 (x5 + (1 : Int32)).toNatClampNeg) (hI h a1 (x5 + (2 : Int32)).toNatClampNeg) x3 h (fun v7 h6 => hT h6 a1 = 22 ∧ (vp_in (x5 + (1 : Int32)) (hL h6 a1) ∧ (vp_in (x5 + (2 : Int32)) (hL h6 a1) ∧ (∃ a11, x2 = some a11 ∧ hT h6 a11 = 14 ∧ (w_Md_apply a11 (hI h6 a1 (x5 + (1 : Int32)).toNatClampNeg) (hI h6 a1 (x5 + (2 : Int32)).toNatClampNeg) h6 (fun v15 h14 => hT h14 a11 = 14 ∧ (w_Md_thrown a11 h14 (fun v18 h17 => (v18 = v7 → ((¬ v7 = 0 → (K28 x0 x1 x2 x3 x4 (x5 + (6 : Int32)) h17)) ∧ (v7 = 0 → (∃ a21, x3 = some a21 ∧ hT h17 a21 = 17 ∧ (vp_in (0 : Int32) (hL h17 a21) ∧ (((lg_cmp (hJ h17 a21 (0 : Int32).toNatClampNeg) (v15.toInt64)) = 0 → (K28 x0 x1 x2 x3 x4 (x5 + (6 : Int32)) h17)) ∧ (¬ (lg_cmp (hJ h17 a21 (0 : Int32).toNatClampNeg) (v15.toInt64)) = 0 → (R (0 : Int32) h17)))))))) ∧ (¬ v18 = v7 → (R (0 : Int32) h17)))))))))))))
def w_Lw_law_884 (R : Int32 → tpH → Prop) (K28 : (Option Nat) → (Option Nat) → (Option Nat) → (Option Nat) → (Option Nat) → Int32 → tpH → Prop) (x0 : Option Nat) (x1 : Option Nat) (x2 : Option Nat) (x3 : Option Nat) (x4 : Option Nat) (x5 : Int32) (h : tpH) : Prop :=
  ∃ a1, x1 = some a1 ∧ hT h a1 = 13 ∧ (w_TP_fuzz a1 h (fun v5 h4 => ∃ a6, x2 = some a6 ∧ hT h4 a6 = 14 ∧ (w_Md_fuzz a6 h4 (fun v10 h9 => (v5 = v10 → (K28 x0 x1 x2 x3 x4 (x5 + (6 : Int32)) h9)) ∧ (¬ v5 = v10 → (R (0 : Int32) h9))))))
def w_Lw_law_897 (R : Int32 → tpH → Prop) (K28 : (Option Nat) → (Option Nat) → (Option Nat) → (Option Nat) → (Option Nat) → Int32 → tpH → Prop) (x0 : Option Nat) (x1 : Option Nat) (x2 : Option Nat) (x3 : Option Nat) (x4 : Option Nat) (x5 : Int32) (h : tpH) : Prop :=
  ∃ a1, x0 = some a1 ∧ hT h a1 = 22 ∧ (vp_in (x5 + (1 : Int32)) (hL h a1) ∧ (vp_in (x5 + (2 : Int32)) (hL h a1) ∧ (w_Lw_setPolicy x1 (hI h a1 (x5 + (1 : Int32)).toNatClampNeg) (hI h a1 (x5 + (2 : Int32)).toNatClampNeg) x3 h (fun v7 h6 => hT h6 a1 = 22 ∧ (vp_in (x5 + (1 : Int32)) (hL h6 a1) ∧ (vp_in (x5 + (2 : Int32)) (hL h6 a1) ∧ (∃ a11, x2 = some a11 ∧ hT h6 a11 = 14 ∧ (w_Md_setPolicy a11 (hI h6 a1 (x5 + (1 : Int32)).toNatClampNeg) (hI h6 a1 (x5 + (2 : Int32)).toNatClampNeg) h6 (fun v15 h14 => hT h14 a11 = 14 ∧ (w_Md_thrown a11 h14 (fun v18 h17 => (v18 = v7 → ((¬ v7 = 0 → (K28 x0 x1 x2 x3 x4 (x5 + (6 : Int32)) h17)) ∧ (v7 = 0 → (∃ a21, x3 = some a21 ∧ hT h17 a21 = 17 ∧ (vp_in (0 : Int32) (hL h17 a21) ∧ (((lg_cmp (hJ h17 a21 (0 : Int32).toNatClampNeg) (v15.toInt64)) = 0 → (K28 x0 x1 x2 x3 x4 (x5 + (6 : Int32)) h17)) ∧ (¬ (lg_cmp (hJ h17 a21 (0 : Int32).toNatClampNeg) (v15.toInt64)) = 0 → (R (0 : Int32) h17)))))))) ∧ (¬ v18 = v7 → (R (0 : Int32) h17)))))))))))))
def w_Lw_law_965 (R : Int32 → tpH → Prop) (K28 : (Option Nat) → (Option Nat) → (Option Nat) → (Option Nat) → (Option Nat) → Int32 → tpH → Prop) (x0 : Option Nat) (x1 : Option Nat) (x2 : Option Nat) (x3 : Option Nat) (x4 : Option Nat) (x5 : Int32) (h : tpH) : Prop :=
  ∃ a1, x0 = some a1 ∧ hT h a1 = 22 ∧ (vp_in (x5 + (1 : Int32)) (hL h a1) ∧ (vp_in (x5 + (2 : Int32)) (hL h a1) ∧ (vp_in (x5 + (3 : Int32)) (hL h a1) ∧ (w_Lw_merge x1 (hI h a1 (x5 + (1 : Int32)).toNatClampNeg) (hI h a1 (x5 + (2 : Int32)).toNatClampNeg) (hI h a1 (x5 + (3 : Int32)).toNatClampNeg) x3 h (fun v8 h7 => hT h7 a1 = 22 ∧ (vp_in (x5 + (1 : Int32)) (hL h7 a1) ∧ (vp_in (x5 + (2 : Int32)) (hL h7 a1) ∧ (vp_in (x5 + (3 : Int32)) (hL h7 a1) ∧ (∃ a13, x2 = some a13 ∧ hT h7 a13 = 14 ∧ (w_Md_merge a13 (hI h7 a1 (x5 + (1 : Int32)).toNatClampNeg) (hI h7 a1 (x5 + (2 : Int32)).toNatClampNeg) (hI h7 a1 (x5 + (3 : Int32)).toNatClampNeg) h7 (fun v17 h16 => hT h16 a13 = 14 ∧ (w_Md_thrown a13 h16 (fun v20 h19 => (v20 = v8 → ((¬ v8 = 0 → (K28 x0 x1 x2 x3 x4 (x5 + (6 : Int32)) h19)) ∧ (v8 = 0 → (∃ a23, x3 = some a23 ∧ hT h19 a23 = 17 ∧ (vp_in (0 : Int32) (hL h19 a23) ∧ (((lg_cmp (hJ h19 a23 (0 : Int32).toNatClampNeg) (v17.toInt64)) = 0 → (K28 x0 x1 x2 x3 x4 (x5 + (6 : Int32)) h19)) ∧ (¬ (lg_cmp (hJ h19 a23 (0 : Int32).toNatClampNeg) (v17.toInt64)) = 0 → (R (0 : Int32) h19)))))))) ∧ (¬ v20 = v8 → (R (0 : Int32) h19)))))))))))))))
def w_Lw_law_1045 (R : Int32 → tpH → Prop) (K28 : (Option Nat) → (Option Nat) → (Option Nat) → (Option Nat) → (Option Nat) → Int32 → tpH → Prop) (x0 : Option Nat) (x1 : Option Nat) (x2 : Option Nat) (x3 : Option Nat) (x4 : Option Nat) (x5 : Int32) (h : tpH) : Prop :=
  ∃ a1, x0 = some a1 ∧ hT h a1 = 22 ∧ (vp_in (x5 + (1 : Int32)) (hL h a1) ∧ (vp_in (x5 + (2 : Int32)) (hL h a1) ∧ (vp_in (x5 + (3 : Int32)) (hL h a1) ∧ (w_Lw_version x1 (hI h a1 (x5 + (1 : Int32)).toNatClampNeg) (hI h a1 (x5 + (2 : Int32)).toNatClampNeg) (hI h a1 (x5 + (3 : Int32)).toNatClampNeg) x3 h (fun v8 h7 => hT h7 a1 = 22 ∧ (vp_in (x5 + (1 : Int32)) (hL h7 a1) ∧ (vp_in (x5 + (2 : Int32)) (hL h7 a1) ∧ (vp_in (x5 + (3 : Int32)) (hL h7 a1) ∧ (∃ a13, x2 = some a13 ∧ hT h7 a13 = 14 ∧ (w_Md_version a13 (hI h7 a1 (x5 + (1 : Int32)).toNatClampNeg) (hI h7 a1 (x5 + (2 : Int32)).toNatClampNeg) (hI h7 a1 (x5 + (3 : Int32)).toNatClampNeg) h7 (fun v17 h16 => hT h16 a13 = 14 ∧ (w_Md_thrown a13 h16 (fun v20 h19 => (v20 = v8 → ((¬ v8 = 0 → (K28 x0 x1 x2 x3 x4 (x5 + (6 : Int32)) h19)) ∧ (v8 = 0 → (∃ a23, x3 = some a23 ∧ hT h19 a23 = 17 ∧ (vp_in (0 : Int32) (hL h19 a23) ∧ (((lg_cmp (hJ h19 a23 (0 : Int32).toNatClampNeg) (v17.toInt64)) = 0 → (K28 x0 x1 x2 x3 x4 (x5 + (6 : Int32)) h19)) ∧ (¬ (lg_cmp (hJ h19 a23 (0 : Int32).toNatClampNeg) (v17.toInt64)) = 0 → (R (0 : Int32) h19)))))))) ∧ (¬ v20 = v8 → (R (0 : Int32) h19)))))))))))))))
def w_Lw_law_1125 (R : Int32 → tpH → Prop) (K28 : (Option Nat) → (Option Nat) → (Option Nat) → (Option Nat) → (Option Nat) → Int32 → tpH → Prop) (x0 : Option Nat) (x1 : Option Nat) (x2 : Option Nat) (x3 : Option Nat) (x4 : Option Nat) (x5 : Int32) (h : tpH) : Prop :=
  ∃ a1, x0 = some a1 ∧ hT h a1 = 22 ∧ (vp_in (x5 + (1 : Int32)) (hL h a1) ∧ (vp_in (x5 + (2 : Int32)) (hL h a1) ∧ (w_Lw_mergeVersions x1 (hI h a1 (x5 + (1 : Int32)).toNatClampNeg) (hI h a1 (x5 + (2 : Int32)).toNatClampNeg) x3 h (fun v7 h6 => hT h6 a1 = 22 ∧ (vp_in (x5 + (1 : Int32)) (hL h6 a1) ∧ (vp_in (x5 + (2 : Int32)) (hL h6 a1) ∧ (∃ a11, x2 = some a11 ∧ hT h6 a11 = 14 ∧ (w_Md_mergeVersions a11 (hI h6 a1 (x5 + (1 : Int32)).toNatClampNeg) (hI h6 a1 (x5 + (2 : Int32)).toNatClampNeg) h6 (fun v15 h14 => hT h14 a11 = 14 ∧ (w_Md_thrown a11 h14 (fun v18 h17 => (v18 = v7 → ((¬ v7 = 0 → (K28 x0 x1 x2 x3 x4 (x5 + (6 : Int32)) h17)) ∧ (v7 = 0 → (∃ a21, x3 = some a21 ∧ hT h17 a21 = 17 ∧ (vp_in (0 : Int32) (hL h17 a21) ∧ (((lg_cmp (hJ h17 a21 (0 : Int32).toNatClampNeg) (v15.toInt64)) = 0 → (K28 x0 x1 x2 x3 x4 (x5 + (6 : Int32)) h17)) ∧ (¬ (lg_cmp (hJ h17 a21 (0 : Int32).toNatClampNeg) (v15.toInt64)) = 0 → (R (0 : Int32) h17)))))))) ∧ (¬ v18 = v7 → (R (0 : Int32) h17)))))))))))))
def w_Lw_law_1193 (R : Int32 → tpH → Prop) (K28 : (Option Nat) → (Option Nat) → (Option Nat) → (Option Nat) → (Option Nat) → Int32 → tpH → Prop) (x0 : Option Nat) (x1 : Option Nat) (x2 : Option Nat) (x3 : Option Nat) (x4 : Option Nat) (x5 : Int32) (h : tpH) : Prop :=
  ∃ a1, x0 = some a1 ∧ hT h a1 = 22 ∧ (vp_in (x5 + (1 : Int32)) (hL h a1) ∧ (vp_in (x5 + (2 : Int32)) (hL h a1) ∧ (w_Lw_takeBack x1 (hI h a1 (x5 + (1 : Int32)).toNatClampNeg) (hI h a1 (x5 + (2 : Int32)).toNatClampNeg) x3 h (fun v7 h6 => hT h6 a1 = 22 ∧ (vp_in (x5 + (1 : Int32)) (hL h6 a1) ∧ (vp_in (x5 + (2 : Int32)) (hL h6 a1) ∧ (∃ a11, x2 = some a11 ∧ hT h6 a11 = 14 ∧ (w_Md_takeBack a11 (hI h6 a1 (x5 + (1 : Int32)).toNatClampNeg) (hI h6 a1 (x5 + (2 : Int32)).toNatClampNeg) h6 (fun v15 h14 => hT h14 a11 = 14 ∧ (w_Md_thrown a11 h14 (fun v18 h17 => (v18 = v7 → ((¬ v7 = 0 → (K28 x0 x1 x2 x3 x4 (x5 + (6 : Int32)) h17)) ∧ (v7 = 0 → (∃ a21, x3 = some a21 ∧ hT h17 a21 = 17 ∧ (vp_in (0 : Int32) (hL h17 a21) ∧ (((lg_cmp (hJ h17 a21 (0 : Int32).toNatClampNeg) (v15.toInt64)) = 0 → (K28 x0 x1 x2 x3 x4 (x5 + (6 : Int32)) h17)) ∧ (¬ (lg_cmp (hJ h17 a21 (0 : Int32).toNatClampNeg) (v15.toInt64)) = 0 → (R (0 : Int32) h17)))))))) ∧ (¬ v18 = v7 → (R (0 : Int32) h17)))))))))))))
def w_Lw_law_1261 (R : Int32 → tpH → Prop) (K28 : (Option Nat) → (Option Nat) → (Option Nat) → (Option Nat) → (Option Nat) → Int32 → tpH → Prop) (x0 : Option Nat) (x1 : Option Nat) (x2 : Option Nat) (x3 : Option Nat) (x4 : Option Nat) (x5 : Int32) (h : tpH) : Prop :=
  ∃ a1, x1 = some a1 ∧ hT h a1 = 13 ∧ (w_TP_trees a1 h (fun v5 h4 => ∃ a6, x2 = some a6 ∧ hT h4 a6 = 14 ∧ (w_Md_trees a6 h4 (fun v10 h9 => (v5 = v10 → (K28 x0 x1 x2 x3 x4 (x5 + (6 : Int32)) h9)) ∧ (¬ v5 = v10 → (R (0 : Int32) h9))))))
def w_Lw_law_1274 (R : Int32 → tpH → Prop) (K28 : (Option Nat) → (Option Nat) → (Option Nat) → (Option Nat) → (Option Nat) → Int32 → tpH → Prop) (x0 : Option Nat) (x1 : Option Nat) (x2 : Option Nat) (x3 : Option Nat) (x4 : Option Nat) (x5 : Int32) (h : tpH) : Prop :=
  ∃ a1, x0 = some a1 ∧ hT h a1 = 22 ∧ (vp_in (x5 + (1 : Int32)) (hL h a1) ∧ (w_Lw_size x1 (hI h a1 (x5 + (1 : Int32)).toNatClampNeg) x3 h (fun v6 h5 => hT h5 a1 = 22 ∧ (vp_in (x5 + (1 : Int32)) (hL h5 a1) ∧ (∃ a9, x2 = some a9 ∧ hT h5 a9 = 14 ∧ (w_Md_size a9 (hI h5 a1 (x5 + (1 : Int32)).toNatClampNeg) h5 (fun v13 h12 => hT h12 a9 = 14 ∧ (w_Md_thrown a9 h12 (fun v16 h15 => (v16 = v6 → ((¬ v6 = 0 → (K28 x0 x1 x2 x3 x4 (x5 + (6 : Int32)) h15)) ∧ (v6 = 0 → (∃ a19, x3 = some a19 ∧ hT h15 a19 = 17 ∧ (vp_in (0 : Int32) (hL h15 a19) ∧ (((lg_cmp (hJ h15 a19 (0 : Int32).toNatClampNeg) (v13.toInt64)) = 0 → (K28 x0 x1 x2 x3 x4 (x5 + (6 : Int32)) h15)) ∧ (¬ (lg_cmp (hJ h15 a19 (0 : Int32).toNatClampNeg) (v13.toInt64)) = 0 → (R (0 : Int32) h15)))))))) ∧ (¬ v16 = v6 → (R (0 : Int32) h15)))))))))))
def w_Lw_law_1330 (R : Int32 → tpH → Prop) (K28 : (Option Nat) → (Option Nat) → (Option Nat) → (Option Nat) → (Option Nat) → Int32 → tpH → Prop) (x0 : Option Nat) (x1 : Option Nat) (x2 : Option Nat) (x3 : Option Nat) (x4 : Option Nat) (x5 : Int32) (h : tpH) : Prop :=
  ∃ a1, x0 = some a1 ∧ hT h a1 = 22 ∧ (vp_in (x5 + (1 : Int32)) (hL h a1) ∧ (vp_in (x5 + (2 : Int32)) (hL h a1) ∧ (w_Lw_markAt x1 (hI h a1 (x5 + (1 : Int32)).toNatClampNeg) (hI h a1 (x5 + (2 : Int32)).toNatClampNeg) x3 h (fun v7 h6 => hT h6 a1 = 22 ∧ (vp_in (x5 + (1 : Int32)) (hL h6 a1) ∧ (vp_in (x5 + (2 : Int32)) (hL h6 a1) ∧ (∃ a11, x2 = some a11 ∧ hT h6 a11 = 14 ∧ (w_Md_markAt a11 (hI h6 a1 (x5 + (1 : Int32)).toNatClampNeg) (hI h6 a1 (x5 + (2 : Int32)).toNatClampNeg) h6 (fun v15 h14 => hT h14 a11 = 14 ∧ (w_Md_thrown a11 h14 (fun v18 h17 => (v18 = v7 → ((¬ v7 = 0 → (K28 x0 x1 x2 x3 x4 (x5 + (6 : Int32)) h17)) ∧ (v7 = 0 → (∃ a21, x3 = some a21 ∧ hT h17 a21 = 17 ∧ (vp_in (0 : Int32) (hL h17 a21) ∧ (((lg_cmp (hJ h17 a21 (0 : Int32).toNatClampNeg) (v15.toInt64)) = 0 → (K28 x0 x1 x2 x3 x4 (x5 + (6 : Int32)) h17)) ∧ (¬ (lg_cmp (hJ h17 a21 (0 : Int32).toNatClampNeg) (v15.toInt64)) = 0 → (R (0 : Int32) h17)))))))) ∧ (¬ v18 = v7 → (R (0 : Int32) h17)))))))))))))
def w_Lw_law_1398 (R : Int32 → tpH → Prop) (K28 : (Option Nat) → (Option Nat) → (Option Nat) → (Option Nat) → (Option Nat) → Int32 → tpH → Prop) (x0 : Option Nat) (x1 : Option Nat) (x2 : Option Nat) (x3 : Option Nat) (x4 : Option Nat) (x5 : Int32) (h : tpH) : Prop :=
  ∃ a1, x0 = some a1 ∧ hT h a1 = 22 ∧ (vp_in (x5 + (1 : Int32)) (hL h a1) ∧ (vp_in (x5 + (2 : Int32)) (hL h a1) ∧ (w_Lw_value x1 (hI h a1 (x5 + (1 : Int32)).toNatClampNeg) (hI h a1 (x5 + (2 : Int32)).toNatClampNeg) x3 h (fun v7 h6 => hT h6 a1 = 22 ∧ (vp_in (x5 + (1 : Int32)) (hL h6 a1) ∧ (vp_in (x5 + (2 : Int32)) (hL h6 a1) ∧ (∃ a11, x2 = some a11 ∧ hT h6 a11 = 14 ∧ (w_Md_value a11 (hI h6 a1 (x5 + (1 : Int32)).toNatClampNeg) (hI h6 a1 (x5 + (2 : Int32)).toNatClampNeg) h6 (fun v15 h14 => hT h14 a11 = 14 ∧ (w_Md_thrown a11 h14 (fun v18 h17 => (v18 = v7 → ((¬ v7 = 0 → (K28 x0 x1 x2 x3 x4 (x5 + (6 : Int32)) h17)) ∧ (v7 = 0 → (∃ a21, x3 = some a21 ∧ hT h17 a21 = 17 ∧ (vp_in (0 : Int32) (hL h17 a21) ∧ (((lg_cmp (hJ h17 a21 (0 : Int32).toNatClampNeg) (v15.toInt64)) = 0 → (K28 x0 x1 x2 x3 x4 (x5 + (6 : Int32)) h17)) ∧ (¬ (lg_cmp (hJ h17 a21 (0 : Int32).toNatClampNeg) (v15.toInt64)) = 0 → (R (0 : Int32) h17)))))))) ∧ (¬ v18 = v7 → (R (0 : Int32) h17)))))))))))))
def w_Lw_law_1466 (R : Int32 → tpH → Prop) (K28 : (Option Nat) → (Option Nat) → (Option Nat) → (Option Nat) → (Option Nat) → Int32 → tpH → Prop) (x0 : Option Nat) (x1 : Option Nat) (x2 : Option Nat) (x3 : Option Nat) (x4 : Option Nat) (x5 : Int32) (h : tpH) : Prop :=
  ∃ a1, x0 = some a1 ∧ hT h a1 = 22 ∧ (vp_in (x5 + (1 : Int32)) (hL h a1) ∧ (vp_in (x5 + (2 : Int32)) (hL h a1) ∧ (w_Lw_parent x1 (hI h a1 (x5 + (1 : Int32)).toNatClampNeg) (hI h a1 (x5 + (2 : Int32)).toNatClampNeg) x3 h (fun v7 h6 => hT h6 a1 = 22 ∧ (vp_in (x5 + (1 : Int32)) (hL h6 a1) ∧ (vp_in (x5 + (2 : Int32)) (hL h6 a1) ∧ (∃ a11, x2 = some a11 ∧ hT h6 a11 = 14 ∧ (w_Md_parent a11 (hI h6 a1 (x5 + (1 : Int32)).toNatClampNeg) (hI h6 a1 (x5 + (2 : Int32)).toNatClampNeg) h6 (fun v15 h14 => hT h14 a11 = 14 ∧ (w_Md_thrown a11 h14 (fun v18 h17 => (v18 = v7 → ((¬ v7 = 0 → (K28 x0 x1 x2 x3 x4 (x5 + (6 : Int32)) h17)) ∧ (v7 = 0 → (∃ a21, x3 = some a21 ∧ hT h17 a21 = 17 ∧ (vp_in (0 : Int32) (hL h17 a21) ∧ (((lg_cmp (hJ h17 a21 (0 : Int32).toNatClampNeg) (v15.toInt64)) = 0 → (K28 x0 x1 x2 x3 x4 (x5 + (6 : Int32)) h17)) ∧ (¬ (lg_cmp (hJ h17 a21 (0 : Int32).toNatClampNeg) (v15.toInt64)) = 0 → (R (0 : Int32) h17)))))))) ∧ (¬ v18 = v7 → (R (0 : Int32) h17)))))))))))))
def w_Lw_law_1600 (R : Int32 → tpH → Prop) (K28 : (Option Nat) → (Option Nat) → (Option Nat) → (Option Nat) → (Option Nat) → Int32 → tpH → Prop) (x0 : Option Nat) (x1 : Option Nat) (x2 : Option Nat) (x3 : Option Nat) (x4 : Option Nat) (x5 : Int32) (t0 : Int64) (t1 : Int64) (h : tpH) : Prop :=
  ((lg_cmp t1 t0) = 0 → (K28 x0 x1 x2 x3 x4 (x5 + (6 : Int32)) h)) ∧ (¬ (lg_cmp t1 t0) = 0 → (R (0 : Int32) h))
def w_Lw_law_1534 (R : Int32 → tpH → Prop) (K28 : (Option Nat) → (Option Nat) → (Option Nat) → (Option Nat) → (Option Nat) → Int32 → tpH → Prop) (x0 : Option Nat) (x1 : Option Nat) (x2 : Option Nat) (x3 : Option Nat) (x4 : Option Nat) (x5 : Int32) (h : tpH) : Prop :=
  ∃ a1, x0 = some a1 ∧ hT h a1 = 22 ∧ (vp_in (x5 + (1 : Int32)) (hL h a1) ∧ (vp_in (x5 + (2 : Int32)) (hL h a1) ∧ (w_Lw_areAlike x1 (hI h a1 (x5 + (1 : Int32)).toNatClampNeg) (hI h a1 (x5 + (2 : Int32)).toNatClampNeg) x3 h (fun v7 h6 => hT h6 a1 = 22 ∧ (vp_in (x5 + (1 : Int32)) (hL h6 a1) ∧ (vp_in (x5 + (2 : Int32)) (hL h6 a1) ∧ (∃ a11, x2 = some a11 ∧ hT h6 a11 = 14 ∧ (w_Md_areAlike a11 (hI h6 a1 (x5 + (1 : Int32)).toNatClampNeg) (hI h6 a1 (x5 + (2 : Int32)).toNatClampNeg) h6 (fun v15 h14 => hT h14 a11 = 14 ∧ (w_Md_thrown a11 h14 (fun v18 h17 => (v18 = v7 → ((¬ v7 = 0 → (K28 x0 x1 x2 x3 x4 (x5 + (6 : Int32)) h17)) ∧ (v7 = 0 → (∃ a21, x3 = some a21 ∧ hT h17 a21 = 17 ∧ (vp_in (0 : Int32) (hL h17 a21) ∧ ((v15 = 0 → (w_Lw_law_1600 R K28 x0 x1 x2 x3 x4 x5 (0 : Int64) (hJ h17 a21 (0 : Int32).toNatClampNeg) h17)) ∧ (¬ v15 = 0 → (w_Lw_law_1600 R K28 x0 x1 x2 x3 x4 x5 (1 : Int64) (hJ h17 a21 (0 : Int32).toNatClampNeg) h17)))))))) ∧ (¬ v18 = v7 → (R (0 : Int32) h17)))))))))))))
def w_Lw_law_1675 (R : Int32 → tpH → Prop) (K28 : (Option Nat) → (Option Nat) → (Option Nat) → (Option Nat) → (Option Nat) → Int32 → tpH → Prop) (x0 : Option Nat) (x1 : Option Nat) (x2 : Option Nat) (x3 : Option Nat) (x4 : Option Nat) (x5 : Int32) (t0 : Int64) (t1 : Int64) (h : tpH) : Prop :=
  ((lg_cmp t1 t0) = 0 → (K28 x0 x1 x2 x3 x4 (x5 + (6 : Int32)) h)) ∧ (¬ (lg_cmp t1 t0) = 0 → (R (0 : Int32) h))
def w_Lw_law_1609 (R : Int32 → tpH → Prop) (K28 : (Option Nat) → (Option Nat) → (Option Nat) → (Option Nat) → (Option Nat) → Int32 → tpH → Prop) (x0 : Option Nat) (x1 : Option Nat) (x2 : Option Nat) (x3 : Option Nat) (x4 : Option Nat) (x5 : Int32) (h : tpH) : Prop :=
  ∃ a1, x0 = some a1 ∧ hT h a1 = 22 ∧ (vp_in (x5 + (1 : Int32)) (hL h a1) ∧ (vp_in (x5 + (2 : Int32)) (hL h a1) ∧ (w_Lw_areSame x1 (hI h a1 (x5 + (1 : Int32)).toNatClampNeg) (hI h a1 (x5 + (2 : Int32)).toNatClampNeg) x3 h (fun v7 h6 => hT h6 a1 = 22 ∧ (vp_in (x5 + (1 : Int32)) (hL h6 a1) ∧ (vp_in (x5 + (2 : Int32)) (hL h6 a1) ∧ (∃ a11, x2 = some a11 ∧ hT h6 a11 = 14 ∧ (w_Md_areSame a11 (hI h6 a1 (x5 + (1 : Int32)).toNatClampNeg) (hI h6 a1 (x5 + (2 : Int32)).toNatClampNeg) h6 (fun v15 h14 => hT h14 a11 = 14 ∧ (w_Md_thrown a11 h14 (fun v18 h17 => (v18 = v7 → ((¬ v7 = 0 → (K28 x0 x1 x2 x3 x4 (x5 + (6 : Int32)) h17)) ∧ (v7 = 0 → (∃ a21, x3 = some a21 ∧ hT h17 a21 = 17 ∧ (vp_in (0 : Int32) (hL h17 a21) ∧ ((v15 = 0 → (w_Lw_law_1675 R K28 x0 x1 x2 x3 x4 x5 (0 : Int64) (hJ h17 a21 (0 : Int32).toNatClampNeg) h17)) ∧ (¬ v15 = 0 → (w_Lw_law_1675 R K28 x0 x1 x2 x3 x4 x5 (1 : Int64) (hJ h17 a21 (0 : Int32).toNatClampNeg) h17)))))))) ∧ (¬ v18 = v7 → (R (0 : Int32) h17)))))))))))))
def w_Lw_law_1684 (R : Int32 → tpH → Prop) (K28 : (Option Nat) → (Option Nat) → (Option Nat) → (Option Nat) → (Option Nat) → Int32 → tpH → Prop) (x0 : Option Nat) (x1 : Option Nat) (x2 : Option Nat) (x3 : Option Nat) (x4 : Option Nat) (x5 : Int32) (h : tpH) : Prop :=
  ∃ a1, x0 = some a1 ∧ hT h a1 = 22 ∧ (vp_in (x5 + (1 : Int32)) (hL h a1) ∧ (vp_in (x5 + (2 : Int32)) (hL h a1) ∧ (vp_in (x5 + (3 : Int32)) (hL h a1) ∧ (w_Lw_match x1 (hI h a1 (x5 + (1 : Int32)).toNatClampNeg) (hI h a1 (x5 + (2 : Int32)).toNatClampNeg) (hI h a1 (x5 + (3 : Int32)).toNatClampNeg) x3 h (fun v8 h7 => hT h7 a1 = 22 ∧ (vp_in (x5 + (1 : Int32)) (hL h7 a1) ∧ (vp_in (x5 + (2 : Int32)) (hL h7 a1) ∧ (vp_in (x5 + (3 : Int32)) (hL h7 a1) ∧ (∃ a13, x2 = some a13 ∧ hT h7 a13 = 14 ∧ (w_Md_match a13 (hI h7 a1 (x5 + (1 : Int32)).toNatClampNeg) (hI h7 a1 (x5 + (2 : Int32)).toNatClampNeg) (hI h7 a1 (x5 + (3 : Int32)).toNatClampNeg) h7 (fun v17 h16 => hT h16 a13 = 14 ∧ (w_Md_thrown a13 h16 (fun v20 h19 => (v20 = v8 → ((¬ v8 = 0 → (K28 x0 x1 x2 x3 x4 (x5 + (6 : Int32)) h19)) ∧ (v8 = 0 → (∃ a23, x3 = some a23 ∧ hT h19 a23 = 17 ∧ (vp_in (0 : Int32) (hL h19 a23) ∧ (((lg_cmp (hJ h19 a23 (0 : Int32).toNatClampNeg) (v17.toInt64)) = 0 → (K28 x0 x1 x2 x3 x4 (x5 + (6 : Int32)) h19)) ∧ (¬ (lg_cmp (hJ h19 a23 (0 : Int32).toNatClampNeg) (v17.toInt64)) = 0 → (R (0 : Int32) h19)))))))) ∧ (¬ v20 = v8 → (R (0 : Int32) h19)))))))))))))))
def w_Lw_law_1764 (R : Int32 → tpH → Prop) (K28 : (Option Nat) → (Option Nat) → (Option Nat) → (Option Nat) → (Option Nat) → Int32 → tpH → Prop) (x0 : Option Nat) (x1 : Option Nat) (x2 : Option Nat) (x3 : Option Nat) (x4 : Option Nat) (x5 : Int32) (h : tpH) : Prop :=
  ∃ a1, x0 = some a1 ∧ hT h a1 = 22 ∧ (vp_in (x5 + (1 : Int32)) (hL h a1) ∧ (vp_in (x5 + (2 : Int32)) (hL h a1) ∧ (vp_in (x5 + (3 : Int32)) (hL h a1) ∧ (vp_in (x5 + (4 : Int32)) (hL h a1) ∧ (w_Lw_likeness x1 (hI h a1 (x5 + (1 : Int32)).toNatClampNeg) (hI h a1 (x5 + (2 : Int32)).toNatClampNeg) (hI h a1 (x5 + (3 : Int32)).toNatClampNeg) (hI h a1 (x5 + (4 : Int32)).toNatClampNeg) x4 h (fun v9 h8 => hT h8 a1 = 22 ∧ (vp_in (x5 + (1 : Int32)) (hL h8 a1) ∧ (vp_in (x5 + (2 : Int32)) (hL h8 a1) ∧ (vp_in (x5 + (3 : Int32)) (hL h8 a1) ∧ (vp_in (x5 + (4 : Int32)) (hL h8 a1) ∧ (∃ a15, x2 = some a15 ∧ hT h8 a15 = 14 ∧ (w_Md_likeness a15 (hI h8 a1 (x5 + (1 : Int32)).toNatClampNeg) (hI h8 a1 (x5 + (2 : Int32)).toNatClampNeg) (hI h8 a1 (x5 + (3 : Int32)).toNatClampNeg) (hI h8 a1 (x5 + (4 : Int32)).toNatClampNeg) h8 (fun v19 h18 => hT h18 a15 = 14 ∧ (w_Md_thrown a15 h18 (fun v22 h21 => (v22 = v9 → ((¬ v9 = 0 → (K28 x0 x1 x2 x3 x4 (x5 + (6 : Int32)) h21)) ∧ (v9 = 0 → (∃ a25, x4 = some a25 ∧ hT h21 a25 = 18 ∧ (vp_in (0 : Int32) (hL h21 a25) ∧ (vf_n64 (FP.f2d v19) ∧ (((Op.cmpValue (FP.dcmp (hF h21 a25 (0 : Int32).toNatClampNeg) (FP.f2d v19)) .l) = 0 → (K28 x0 x1 x2 x3 x4 (x5 + (6 : Int32)) h21)) ∧ (¬ (Op.cmpValue (FP.dcmp (hF h21 a25 (0 : Int32).toNatClampNeg) (FP.f2d v19)) .l) = 0 → (vp_in (0 : Int32) (hL h21 a25) ∧ (vp_in (0 : Int32) (hL h21 a25) ∧ (((Op.cmpValue (FP.dcmp (hF h21 a25 (0 : Int32).toNatClampNeg) (hF h21 a25 (0 : Int32).toNatClampNeg)) .l) = 0 → (R (0 : Int32) h21)) ∧ (¬ (Op.cmpValue (FP.dcmp (hF h21 a25 (0 : Int32).toNatClampNeg) (hF h21 a25 (0 : Int32).toNatClampNeg)) .l) = 0 → ((¬ (Op.cmpValue (FP.fcmp v19 v19) .l) = 0 → (K28 x0 x1 x2 x3 x4 (x5 + (6 : Int32)) h21)) ∧ ((Op.cmpValue (FP.fcmp v19 v19) .l) = 0 → (R (0 : Int32) h21))))))))))))))) ∧ (¬ v22 = v9 → (R (0 : Int32) h21)))))))))))))))))
def w_Lw_law_1878 (R : Int32 → tpH → Prop) (K28 : (Option Nat) → (Option Nat) → (Option Nat) → (Option Nat) → (Option Nat) → Int32 → tpH → Prop) (x0 : Option Nat) (x1 : Option Nat) (x2 : Option Nat) (x3 : Option Nat) (x4 : Option Nat) (x5 : Int32) (h : tpH) : Prop :=
  ∃ a1, x0 = some a1 ∧ hT h a1 = 22 ∧ (vp_in (x5 + (1 : Int32)) (hL h a1) ∧ (w_Lw_steps x1 (hI h a1 (x5 + (1 : Int32)).toNatClampNeg) x3 h (fun v6 h5 => hT h5 a1 = 22 ∧ (vp_in (x5 + (1 : Int32)) (hL h5 a1) ∧ (∃ a9, x2 = some a9 ∧ hT h5 a9 = 14 ∧ (w_Md_steps a9 (hI h5 a1 (x5 + (1 : Int32)).toNatClampNeg) h5 (fun v13 h12 => hT h12 a9 = 14 ∧ (w_Md_thrown a9 h12 (fun v16 h15 => (v16 = v6 → ((¬ v6 = 0 → (K28 x0 x1 x2 x3 x4 (x5 + (6 : Int32)) h15)) ∧ (v6 = 0 → (∃ a19, x3 = some a19 ∧ hT h15 a19 = 17 ∧ (vp_in (0 : Int32) (hL h15 a19) ∧ (((lg_cmp (hJ h15 a19 (0 : Int32).toNatClampNeg) (v13.toInt64)) = 0 → (K28 x0 x1 x2 x3 x4 (x5 + (6 : Int32)) h15)) ∧ (¬ (lg_cmp (hJ h15 a19 (0 : Int32).toNatClampNeg) (v13.toInt64)) = 0 → (R (0 : Int32) h15)))))))) ∧ (¬ v16 = v6 → (R (0 : Int32) h15)))))))))))
def w_Lw_law_1934 (R : Int32 → tpH → Prop) (K28 : (Option Nat) → (Option Nat) → (Option Nat) → (Option Nat) → (Option Nat) → Int32 → tpH → Prop) (x0 : Option Nat) (x1 : Option Nat) (x2 : Option Nat) (x3 : Option Nat) (x4 : Option Nat) (x5 : Int32) (h : tpH) : Prop :=
  ∃ a1, x0 = some a1 ∧ hT h a1 = 22 ∧ (vp_in (x5 + (1 : Int32)) (hL h a1) ∧ (vp_in (x5 + (2 : Int32)) (hL h a1) ∧ (w_Lw_stepKind x1 (hI h a1 (x5 + (1 : Int32)).toNatClampNeg) (hI h a1 (x5 + (2 : Int32)).toNatClampNeg) x3 h (fun v7 h6 => hT h6 a1 = 22 ∧ (vp_in (x5 + (1 : Int32)) (hL h6 a1) ∧ (vp_in (x5 + (2 : Int32)) (hL h6 a1) ∧ (∃ a11, x2 = some a11 ∧ hT h6 a11 = 14 ∧ (w_Md_stepKind a11 (hI h6 a1 (x5 + (1 : Int32)).toNatClampNeg) (hI h6 a1 (x5 + (2 : Int32)).toNatClampNeg) h6 (fun v15 h14 => hT h14 a11 = 14 ∧ (w_Md_thrown a11 h14 (fun v18 h17 => (v18 = v7 → ((¬ v7 = 0 → (K28 x0 x1 x2 x3 x4 (x5 + (6 : Int32)) h17)) ∧ (v7 = 0 → (∃ a21, x3 = some a21 ∧ hT h17 a21 = 17 ∧ (vp_in (0 : Int32) (hL h17 a21) ∧ (((lg_cmp (hJ h17 a21 (0 : Int32).toNatClampNeg) (v15.toInt64)) = 0 → (K28 x0 x1 x2 x3 x4 (x5 + (6 : Int32)) h17)) ∧ (¬ (lg_cmp (hJ h17 a21 (0 : Int32).toNatClampNeg) (v15.toInt64)) = 0 → (R (0 : Int32) h17)))))))) ∧ (¬ v18 = v7 → (R (0 : Int32) h17)))))))))))))
def w_Lw_law_2002 (R : Int32 → tpH → Prop) (K28 : (Option Nat) → (Option Nat) → (Option Nat) → (Option Nat) → (Option Nat) → Int32 → tpH → Prop) (x0 : Option Nat) (x1 : Option Nat) (x2 : Option Nat) (x3 : Option Nat) (x4 : Option Nat) (x5 : Int32) (h : tpH) : Prop :=
  ∃ a1, x0 = some a1 ∧ hT h a1 = 22 ∧ (vp_in (x5 + (1 : Int32)) (hL h a1) ∧ (vp_in (x5 + (2 : Int32)) (hL h a1) ∧ (w_Lw_stepMark x1 (hI h a1 (x5 + (1 : Int32)).toNatClampNeg) (hI h a1 (x5 + (2 : Int32)).toNatClampNeg) x3 h (fun v7 h6 => hT h6 a1 = 22 ∧ (vp_in (x5 + (1 : Int32)) (hL h6 a1) ∧ (vp_in (x5 + (2 : Int32)) (hL h6 a1) ∧ (∃ a11, x2 = some a11 ∧ hT h6 a11 = 14 ∧ (w_Md_stepMark a11 (hI h6 a1 (x5 + (1 : Int32)).toNatClampNeg) (hI h6 a1 (x5 + (2 : Int32)).toNatClampNeg) h6 (fun v15 h14 => hT h14 a11 = 14 ∧ (w_Md_thrown a11 h14 (fun v18 h17 => (v18 = v7 → ((¬ v7 = 0 → (K28 x0 x1 x2 x3 x4 (x5 + (6 : Int32)) h17)) ∧ (v7 = 0 → (∃ a21, x3 = some a21 ∧ hT h17 a21 = 17 ∧ (vp_in (0 : Int32) (hL h17 a21) ∧ (((lg_cmp (hJ h17 a21 (0 : Int32).toNatClampNeg) (v15.toInt64)) = 0 → (K28 x0 x1 x2 x3 x4 (x5 + (6 : Int32)) h17)) ∧ (¬ (lg_cmp (hJ h17 a21 (0 : Int32).toNatClampNeg) (v15.toInt64)) = 0 → (R (0 : Int32) h17)))))))) ∧ (¬ v18 = v7 → (R (0 : Int32) h17)))))))))))))
def w_Lw_law_2130 (R : Int32 → tpH → Prop) (K28 : (Option Nat) → (Option Nat) → (Option Nat) → (Option Nat) → (Option Nat) → Int32 → tpH → Prop) (x0 : Option Nat) (x1 : Option Nat) (x2 : Option Nat) (x3 : Option Nat) (x4 : Option Nat) (x5 : Int32) (x6 : Int32) (t0 : Int32) (t1 : Int32) (t2 : Int32) (t3 : Option Nat) (h : tpH) : Prop :=
  ∃ a1, t3 = some a1 ∧ hT h a1 = 14 ∧ (w_Md_stepTo a1 t2 t1 t0 h (fun v5 h4 => ∃ a6, x2 = some a6 ∧ hT h4 a6 = 14 ∧ (w_Md_thrown a6 h4 (fun v10 h9 => (v10 = x6 → ((¬ x6 = 0 → (K28 x0 x1 x2 x3 x4 (x5 + (6 : Int32)) h9)) ∧ (x6 = 0 → (∃ a13, x3 = some a13 ∧ hT h9 a13 = 17 ∧ (vp_in (0 : Int32) (hL h9 a13) ∧ (((lg_cmp (hJ h9 a13 (0 : Int32).toNatClampNeg) (v5.toInt64)) = 0 → (K28 x0 x1 x2 x3 x4 (x5 + (6 : Int32)) h9)) ∧ (¬ (lg_cmp (hJ h9 a13 (0 : Int32).toNatClampNeg) (v5.toInt64)) = 0 → (R (0 : Int32) h9)))))))) ∧ (¬ v10 = x6 → (R (0 : Int32) h9))))))
def w_Lw_law_2097 (R : Int32 → tpH → Prop) (K28 : (Option Nat) → (Option Nat) → (Option Nat) → (Option Nat) → (Option Nat) → Int32 → tpH → Prop) (x0 : Option Nat) (x1 : Option Nat) (x2 : Option Nat) (x3 : Option Nat) (x4 : Option Nat) (x5 : Int32) (t0 : Int32) (t1 : Int32) (t2 : Int32) (t3 : Option Nat) (h : tpH) : Prop :=
  w_Lw_stepTo t3 t2 t1 t0 x3 h (fun v2 h1 => ∃ a3, x0 = some a3 ∧ hT h1 a3 = 22 ∧ (vp_in (x5 + (1 : Int32)) (hL h1 a3) ∧ (vp_in (x5 + (2 : Int32)) (hL h1 a3) ∧ (vp_in (x5 + (3 : Int32)) (hL h1 a3) ∧ (((hI h1 a3 (x5 + (3 : Int32)).toNatClampNeg) = 0 → (w_Lw_law_2130 R K28 x0 x1 x2 x3 x4 x5 v2 (0 : Int32) (hI h1 a3 (x5 + (2 : Int32)).toNatClampNeg) (hI h1 a3 (x5 + (1 : Int32)).toNatClampNeg) x2 h1)) ∧ (¬ (hI h1 a3 (x5 + (3 : Int32)).toNatClampNeg) = 0 → (w_Lw_law_2130 R K28 x0 x1 x2 x3 x4 x5 v2 (1 : Int32) (hI h1 a3 (x5 + (2 : Int32)).toNatClampNeg) (hI h1 a3 (x5 + (1 : Int32)).toNatClampNeg) x2 h1)))))))
def w_Lw_law_2070 (R : Int32 → tpH → Prop) (K28 : (Option Nat) → (Option Nat) → (Option Nat) → (Option Nat) → (Option Nat) → Int32 → tpH → Prop) (x0 : Option Nat) (x1 : Option Nat) (x2 : Option Nat) (x3 : Option Nat) (x4 : Option Nat) (x5 : Int32) (h : tpH) : Prop :=
  ∃ a1, x0 = some a1 ∧ hT h a1 = 22 ∧ (vp_in (x5 + (1 : Int32)) (hL h a1) ∧ (vp_in (x5 + (2 : Int32)) (hL h a1) ∧ (vp_in (x5 + (3 : Int32)) (hL h a1) ∧ (((hI h a1 (x5 + (3 : Int32)).toNatClampNeg) = 0 → (w_Lw_law_2097 R K28 x0 x1 x2 x3 x4 x5 (0 : Int32) (hI h a1 (x5 + (2 : Int32)).toNatClampNeg) (hI h a1 (x5 + (1 : Int32)).toNatClampNeg) x1 h)) ∧ (¬ (hI h a1 (x5 + (3 : Int32)).toNatClampNeg) = 0 → (w_Lw_law_2097 R K28 x0 x1 x2 x3 x4 x5 (1 : Int32) (hI h a1 (x5 + (2 : Int32)).toNatClampNeg) (hI h a1 (x5 + (1 : Int32)).toNatClampNeg) x1 h))))))
def w_Lw_law_2166 (R : Int32 → tpH → Prop) (K28 : (Option Nat) → (Option Nat) → (Option Nat) → (Option Nat) → (Option Nat) → Int32 → tpH → Prop) (x0 : Option Nat) (x1 : Option Nat) (x2 : Option Nat) (x3 : Option Nat) (x4 : Option Nat) (x5 : Int32) (h : tpH) : Prop :=
  ∃ a1, x1 = some a1 ∧ hT h a1 = 13 ∧ (w_TP_conflicts a1 h (fun v5 h4 => ∃ a6, x2 = some a6 ∧ hT h4 a6 = 14 ∧ (w_Md_conflicts a6 h4 (fun v10 h9 => (v5 = v10 → (K28 x0 x1 x2 x3 x4 (x5 + (6 : Int32)) h9)) ∧ (¬ v5 = v10 → (R (0 : Int32) h9))))))
def w_Lw_law_2179 (R : Int32 → tpH → Prop) (K28 : (Option Nat) → (Option Nat) → (Option Nat) → (Option Nat) → (Option Nat) → Int32 → tpH → Prop) (x0 : Option Nat) (x1 : Option Nat) (x2 : Option Nat) (x3 : Option Nat) (x4 : Option Nat) (x5 : Int32) (h : tpH) : Prop :=
  ∃ a1, x0 = some a1 ∧ hT h a1 = 22 ∧ (vp_in (x5 + (1 : Int32)) (hL h a1) ∧ (w_Lw_conflictKind x1 (hI h a1 (x5 + (1 : Int32)).toNatClampNeg) x3 h (fun v6 h5 => hT h5 a1 = 22 ∧ (vp_in (x5 + (1 : Int32)) (hL h5 a1) ∧ (∃ a9, x2 = some a9 ∧ hT h5 a9 = 14 ∧ (w_Md_conflictKind a9 (hI h5 a1 (x5 + (1 : Int32)).toNatClampNeg) h5 (fun v13 h12 => hT h12 a9 = 14 ∧ (w_Md_thrown a9 h12 (fun v16 h15 => (v16 = v6 → ((¬ v6 = 0 → (K28 x0 x1 x2 x3 x4 (x5 + (6 : Int32)) h15)) ∧ (v6 = 0 → (∃ a19, x3 = some a19 ∧ hT h15 a19 = 17 ∧ (vp_in (0 : Int32) (hL h15 a19) ∧ (((lg_cmp (hJ h15 a19 (0 : Int32).toNatClampNeg) (v13.toInt64)) = 0 → (K28 x0 x1 x2 x3 x4 (x5 + (6 : Int32)) h15)) ∧ (¬ (lg_cmp (hJ h15 a19 (0 : Int32).toNatClampNeg) (v13.toInt64)) = 0 → (R (0 : Int32) h15)))))))) ∧ (¬ v16 = v6 → (R (0 : Int32) h15)))))))))))
def w_Lw_law_2235 (R : Int32 → tpH → Prop) (K28 : (Option Nat) → (Option Nat) → (Option Nat) → (Option Nat) → (Option Nat) → Int32 → tpH → Prop) (x0 : Option Nat) (x1 : Option Nat) (x2 : Option Nat) (x3 : Option Nat) (x4 : Option Nat) (x5 : Int32) (h : tpH) : Prop :=
  ∃ a1, x0 = some a1 ∧ hT h a1 = 22 ∧ (vp_in (x5 + (1 : Int32)) (hL h a1) ∧ (w_Lw_conflictMark x1 (hI h a1 (x5 + (1 : Int32)).toNatClampNeg) x3 h (fun v6 h5 => hT h5 a1 = 22 ∧ (vp_in (x5 + (1 : Int32)) (hL h5 a1) ∧ (∃ a9, x2 = some a9 ∧ hT h5 a9 = 14 ∧ (w_Md_conflictMark a9 (hI h5 a1 (x5 + (1 : Int32)).toNatClampNeg) h5 (fun v13 h12 => hT h12 a9 = 14 ∧ (w_Md_thrown a9 h12 (fun v16 h15 => (v16 = v6 → ((¬ v6 = 0 → (K28 x0 x1 x2 x3 x4 (x5 + (6 : Int32)) h15)) ∧ (v6 = 0 → (∃ a19, x3 = some a19 ∧ hT h15 a19 = 17 ∧ (vp_in (0 : Int32) (hL h15 a19) ∧ (((lg_cmp (hJ h15 a19 (0 : Int32).toNatClampNeg) (v13.toInt64)) = 0 → (K28 x0 x1 x2 x3 x4 (x5 + (6 : Int32)) h15)) ∧ (¬ (lg_cmp (hJ h15 a19 (0 : Int32).toNatClampNeg) (v13.toInt64)) = 0 → (R (0 : Int32) h15)))))))) ∧ (¬ v16 = v6 → (R (0 : Int32) h15)))))))))))
def w_Lw_law_2291 (R : Int32 → tpH → Prop) (K28 : (Option Nat) → (Option Nat) → (Option Nat) → (Option Nat) → (Option Nat) → Int32 → tpH → Prop) (x0 : Option Nat) (x1 : Option Nat) (x2 : Option Nat) (x3 : Option Nat) (x4 : Option Nat) (x5 : Int32) (h : tpH) : Prop :=
  ∃ a1, x1 = some a1 ∧ hT h a1 = 13 ∧ (w_TP_versions a1 h (fun v5 h4 => ∃ a6, x2 = some a6 ∧ hT h4 a6 = 14 ∧ (w_Md_versions a6 h4 (fun v10 h9 => (v5 = v10 → (K28 x0 x1 x2 x3 x4 (x5 + (6 : Int32)) h9)) ∧ (¬ v5 = v10 → (R (0 : Int32) h9))))))
def w_Lw_law_2304 (R : Int32 → tpH → Prop) (K28 : (Option Nat) → (Option Nat) → (Option Nat) → (Option Nat) → (Option Nat) → Int32 → tpH → Prop) (x0 : Option Nat) (x1 : Option Nat) (x2 : Option Nat) (x3 : Option Nat) (x4 : Option Nat) (x5 : Int32) (h : tpH) : Prop :=
  ∃ a1, x0 = some a1 ∧ hT h a1 = 22 ∧ (vp_in (x5 + (1 : Int32)) (hL h a1) ∧ (w_Lw_treeOf x1 (hI h a1 (x5 + (1 : Int32)).toNatClampNeg) x3 h (fun v6 h5 => hT h5 a1 = 22 ∧ (vp_in (x5 + (1 : Int32)) (hL h5 a1) ∧ (∃ a9, x2 = some a9 ∧ hT h5 a9 = 14 ∧ (w_Md_treeOf a9 (hI h5 a1 (x5 + (1 : Int32)).toNatClampNeg) h5 (fun v13 h12 => hT h12 a9 = 14 ∧ (w_Md_thrown a9 h12 (fun v16 h15 => (v16 = v6 → ((¬ v6 = 0 → (K28 x0 x1 x2 x3 x4 (x5 + (6 : Int32)) h15)) ∧ (v6 = 0 → (∃ a19, x3 = some a19 ∧ hT h15 a19 = 17 ∧ (vp_in (0 : Int32) (hL h15 a19) ∧ (((lg_cmp (hJ h15 a19 (0 : Int32).toNatClampNeg) (v13.toInt64)) = 0 → (K28 x0 x1 x2 x3 x4 (x5 + (6 : Int32)) h15)) ∧ (¬ (lg_cmp (hJ h15 a19 (0 : Int32).toNatClampNeg) (v13.toInt64)) = 0 → (R (0 : Int32) h15)))))))) ∧ (¬ v16 = v6 → (R (0 : Int32) h15)))))))))))
def w_Lw_law_2360 (R : Int32 → tpH → Prop) (K28 : (Option Nat) → (Option Nat) → (Option Nat) → (Option Nat) → (Option Nat) → Int32 → tpH → Prop) (x0 : Option Nat) (x1 : Option Nat) (x2 : Option Nat) (x3 : Option Nat) (x4 : Option Nat) (x5 : Int32) (h : tpH) : Prop :=
  ∃ a1, x0 = some a1 ∧ hT h a1 = 22 ∧ (vp_in (x5 + (1 : Int32)) (hL h a1) ∧ (vp_in (x5 + (2 : Int32)) (hL h a1) ∧ (w_Lw_touched x1 (hI h a1 (x5 + (1 : Int32)).toNatClampNeg) (hI h a1 (x5 + (2 : Int32)).toNatClampNeg) x3 h (fun v7 h6 => hT h6 a1 = 22 ∧ (vp_in (x5 + (1 : Int32)) (hL h6 a1) ∧ (vp_in (x5 + (2 : Int32)) (hL h6 a1) ∧ (∃ a11, x2 = some a11 ∧ hT h6 a11 = 14 ∧ (w_Md_touched a11 (hI h6 a1 (x5 + (1 : Int32)).toNatClampNeg) (hI h6 a1 (x5 + (2 : Int32)).toNatClampNeg) h6 (fun v15 h14 => hT h14 a11 = 14 ∧ (w_Md_thrown a11 h14 (fun v18 h17 => (v18 = v7 → ((¬ v7 = 0 → (K28 x0 x1 x2 x3 x4 (x5 + (6 : Int32)) h17)) ∧ (v7 = 0 → (∃ a21, x3 = some a21 ∧ hT h17 a21 = 17 ∧ (vp_in (0 : Int32) (hL h17 a21) ∧ (((lg_cmp (hJ h17 a21 (0 : Int32).toNatClampNeg) (v15.toInt64)) = 0 → (K28 x0 x1 x2 x3 x4 (x5 + (6 : Int32)) h17)) ∧ (¬ (lg_cmp (hJ h17 a21 (0 : Int32).toNatClampNeg) (v15.toInt64)) = 0 → (R (0 : Int32) h17)))))))) ∧ (¬ v18 = v7 → (R (0 : Int32) h17)))))))))))))
def w_Lw_law_2428 (R : Int32 → tpH → Prop) (K28 : (Option Nat) → (Option Nat) → (Option Nat) → (Option Nat) → (Option Nat) → Int32 → tpH → Prop) (x0 : Option Nat) (x1 : Option Nat) (x2 : Option Nat) (x3 : Option Nat) (x4 : Option Nat) (x5 : Int32) (h : tpH) : Prop :=
  ∃ a1, x0 = some a1 ∧ hT h a1 = 22 ∧ (vp_in (x5 + (1 : Int32)) (hL h a1) ∧ (vp_in (x5 + (2 : Int32)) (hL h a1) ∧ (vp_in (x5 + (3 : Int32)) (hL h a1) ∧ (vp_in (x5 + (4 : Int32)) (hL h a1) ∧ (w_Lw_look x1 (hI h a1 (x5 + (1 : Int32)).toNatClampNeg) (hI h a1 (x5 + (2 : Int32)).toNatClampNeg) (hI h a1 (x5 + (3 : Int32)).toNatClampNeg) (hI h a1 (x5 + (4 : Int32)).toNatClampNeg) x3 h (fun v9 h8 => hT h8 a1 = 22 ∧ (vp_in (x5 + (1 : Int32)) (hL h8 a1) ∧ (vp_in (x5 + (2 : Int32)) (hL h8 a1) ∧ (vp_in (x5 + (3 : Int32)) (hL h8 a1) ∧ (vp_in (x5 + (4 : Int32)) (hL h8 a1) ∧ (∃ a15, x2 = some a15 ∧ hT h8 a15 = 14 ∧ (w_Md_look a15 (hI h8 a1 (x5 + (1 : Int32)).toNatClampNeg) (hI h8 a1 (x5 + (2 : Int32)).toNatClampNeg) (hI h8 a1 (x5 + (3 : Int32)).toNatClampNeg) (hI h8 a1 (x5 + (4 : Int32)).toNatClampNeg) h8 (fun v19 h18 => hT h18 a15 = 14 ∧ (w_Md_thrown a15 h18 (fun v22 h21 => (v22 = v9 → ((¬ v9 = 0 → (K28 x0 x1 x2 x3 x4 (x5 + (6 : Int32)) h21)) ∧ (v9 = 0 → (∃ a25, x3 = some a25 ∧ hT h21 a25 = 17 ∧ (vp_in (0 : Int32) (hL h21 a25) ∧ (((lg_cmp (hJ h21 a25 (0 : Int32).toNatClampNeg) (v19.toInt64)) = 0 → (K28 x0 x1 x2 x3 x4 (x5 + (6 : Int32)) h21)) ∧ (¬ (lg_cmp (hJ h21 a25 (0 : Int32).toNatClampNeg) (v19.toInt64)) = 0 → (R (0 : Int32) h21)))))))) ∧ (¬ v22 = v9 → (R (0 : Int32) h21)))))))))))))))))
def b_Lw_law_28 (R : Int32 → tpH → Prop) (Y : (Option Nat) → (Option Nat) → (Option Nat) → (Option Nat) → (Option Nat) → Int32 → tpH → Prop) (x0 : Option Nat) (x1 : Option Nat) (x2 : Option Nat) (x3 : Option Nat) (x4 : Option Nat) (x5 : Int32) (h : tpH) : Prop :=
  ∃ a1, x0 = some a1 ∧ hT h a1 = 22 ∧ ((((Int32.ofNat (hL h a1)) - (6 : Int32)) < x5 → (R (1 : Int32) h)) ∧ (¬ ((Int32.ofNat (hL h a1)) - (6 : Int32)) < x5 → (vp_in x5 (hL h a1) ∧ ((((hI h a1 x5.toNatClampNeg) &&& (63 : Int32)).toInt < 0 ∨ 35 < ((hI h a1 x5.toNatClampNeg) &&& (63 : Int32)).toInt → (Y x0 x1 x2 x3 x4 (x5 + (6 : Int32)) h)) ∧ (((hI h a1 x5.toNatClampNeg) &&& (63 : Int32)).toInt = 0 → (w_Lw_law_204 R Y x0 x1 x2 x3 x4 x5 h)) ∧ (((hI h a1 x5.toNatClampNeg) &&& (63 : Int32)).toInt = 1 → (w_Lw_law_284 R Y x0 x1 x2 x3 x4 x5 h)) ∧ (((hI h a1 x5.toNatClampNeg) &&& (63 : Int32)).toInt = 2 → (w_Lw_law_340 R Y x0 x1 x2 x3 x4 x5 h)) ∧ (((hI h a1 x5.toNatClampNeg) &&& (63 : Int32)).toInt = 3 → (w_Lw_law_444 R Y x0 x1 x2 x3 x4 x5 h)) ∧ (((hI h a1 x5.toNatClampNeg) &&& (63 : Int32)).toInt = 4 → (w_Lw_law_512 R Y x0 x1 x2 x3 x4 x5 h)) ∧ (((hI h a1 x5.toNatClampNeg) &&& (63 : Int32)).toInt = 5 → (w_Lw_law_592 R Y x0 x1 x2 x3 x4 x5 h)) ∧ (((hI h a1 x5.toNatClampNeg) &&& (63 : Int32)).toInt = 6 → (w_Lw_law_648 R Y x0 x1 x2 x3 x4 x5 h)) ∧ (((hI h a1 x5.toNatClampNeg) &&& (63 : Int32)).toInt = 7 → (w_Lw_law_692 R Y x0 x1 x2 x3 x4 x5 h)) ∧ (((hI h a1 x5.toNatClampNeg) &&& (63 : Int32)).toInt = 8 → (w_Lw_law_760 R Y x0 x1 x2 x3 x4 x5 h)) ∧ (((hI h a1 x5.toNatClampNeg) &&& (63 : Int32)).toInt = 9 → (w_Lw_law_816 R Y x0 x1 x2 x3 x4 x5 h)) ∧ (((hI h a1 x5.toNatClampNeg) &&& (63 : Int32)).toInt = 10 → (w_Lw_law_884 R Y x0 x1 x2 x3 x4 x5 h)) ∧ (((hI h a1 x5.toNatClampNeg) &&& (63 : Int32)).toInt = 11 → (w_Lw_law_897 R Y x0 x1 x2 x3 x4 x5 h)) ∧ (((hI h a1 x5.toNatClampNeg) &&& (63 : Int32)).toInt = 12 → (w_Lw_law_965 R Y x0 x1 x2 x3 x4 x5 h)) ∧ (((hI h a1 x5.toNatClampNeg) &&& (63 : Int32)).toInt = 13 → (w_Lw_law_1045 R Y x0 x1 x2 x3 x4 x5 h)) ∧ (((hI h a1 x5.toNatClampNeg) &&& (63 : Int32)).toInt = 14 → (w_Lw_law_1125 R Y x0 x1 x2 x3 x4 x5 h)) ∧ (((hI h a1 x5.toNatClampNeg) &&& (63 : Int32)).toInt = 15 → (w_Lw_law_1193 R Y x0 x1 x2 x3 x4 x5 h)) ∧ (((hI h a1 x5.toNatClampNeg) &&& (63 : Int32)).toInt = 16 → (w_Lw_law_1261 R Y x0 x1 x2 x3 x4 x5 h)) ∧ (((hI h a1 x5.toNatClampNeg) &&& (63 : Int32)).toInt = 17 → (w_Lw_law_1274 R Y x0 x1 x2 x3 x4 x5 h)) ∧ (((hI h a1 x5.toNatClampNeg) &&& (63 : Int32)).toInt = 18 → (w_Lw_law_1330 R Y x0 x1 x2 x3 x4 x5 h)) ∧ (((hI h a1 x5.toNatClampNeg) &&& (63 : Int32)).toInt = 19 → (w_Lw_law_1398 R Y x0 x1 x2 x3 x4 x5 h)) ∧ (((hI h a1 x5.toNatClampNeg) &&& (63 : Int32)).toInt = 20 → (w_Lw_law_1466 R Y x0 x1 x2 x3 x4 x5 h)) ∧ (((hI h a1 x5.toNatClampNeg) &&& (63 : Int32)).toInt = 21 → (w_Lw_law_1534 R Y x0 x1 x2 x3 x4 x5 h)) ∧ (((hI h a1 x5.toNatClampNeg) &&& (63 : Int32)).toInt = 22 → (w_Lw_law_1609 R Y x0 x1 x2 x3 x4 x5 h)) ∧ (((hI h a1 x5.toNatClampNeg) &&& (63 : Int32)).toInt = 23 → (w_Lw_law_1684 R Y x0 x1 x2 x3 x4 x5 h)) ∧ (((hI h a1 x5.toNatClampNeg) &&& (63 : Int32)).toInt = 24 → (w_Lw_law_1764 R Y x0 x1 x2 x3 x4 x5 h)) ∧ (((hI h a1 x5.toNatClampNeg) &&& (63 : Int32)).toInt = 25 → (w_Lw_law_1878 R Y x0 x1 x2 x3 x4 x5 h)) ∧ (((hI h a1 x5.toNatClampNeg) &&& (63 : Int32)).toInt = 26 → (w_Lw_law_1934 R Y x0 x1 x2 x3 x4 x5 h)) ∧ (((hI h a1 x5.toNatClampNeg) &&& (63 : Int32)).toInt = 27 → (w_Lw_law_2002 R Y x0 x1 x2 x3 x4 x5 h)) ∧ (((hI h a1 x5.toNatClampNeg) &&& (63 : Int32)).toInt = 28 → (w_Lw_law_2070 R Y x0 x1 x2 x3 x4 x5 h)) ∧ (((hI h a1 x5.toNatClampNeg) &&& (63 : Int32)).toInt = 29 → (w_Lw_law_2166 R Y x0 x1 x2 x3 x4 x5 h)) ∧ (((hI h a1 x5.toNatClampNeg) &&& (63 : Int32)).toInt = 30 → (w_Lw_law_2179 R Y x0 x1 x2 x3 x4 x5 h)) ∧ (((hI h a1 x5.toNatClampNeg) &&& (63 : Int32)).toInt = 31 → (w_Lw_law_2235 R Y x0 x1 x2 x3 x4 x5 h)) ∧ (((hI h a1 x5.toNatClampNeg) &&& (63 : Int32)).toInt = 32 → (w_Lw_law_2291 R Y x0 x1 x2 x3 x4 x5 h)) ∧ (((hI h a1 x5.toNatClampNeg) &&& (63 : Int32)).toInt = 33 → (w_Lw_law_2304 R Y x0 x1 x2 x3 x4 x5 h)) ∧ (((hI h a1 x5.toNatClampNeg) &&& (63 : Int32)).toInt = 34 → (w_Lw_law_2360 R Y x0 x1 x2 x3 x4 x5 h)) ∧ (((hI h a1 x5.toNatClampNeg) &&& (63 : Int32)).toInt = 35 → (w_Lw_law_2428 R Y x0 x1 x2 x3 x4 x5 h))))))
def w_Lw_law_28 (R : Int32 → tpH → Prop) : Nat → (Option Nat) → (Option Nat) → (Option Nat) → (Option Nat) → (Option Nat) → Int32 → tpH → Prop
  | 0 => fun _ _ _ _ _ _ _ => False
  | n + 1 => b_Lw_law_28 R (w_Lw_law_28 R n)
def w_Lw_law (x0 : Option Nat) (h : tpH) (R : Int32 → tpH → Prop) : Prop :=
  ∀ a1 h2, a1 = hZ h → h2 = nC h 13 0 13 → (w_TP_init a1 h2 (fun h5 => ∀ a6 h7, a6 = hZ h5 → h7 = nC h5 14 0 58 → (w_Md_init a6 h7 (fun h10 => ∀ a11 h12, a11 = hZ h10 → h12 = nC h10 17 1 1 → (∀ a15 h16, a15 = hZ h12 → h16 = nC h12 18 1 1 → (∃ n, w_Lw_law_28 R n x0 (some a1) (some a6) (some a11) (some a15) (0 : Int32) h16))))))
theorem s_Lw_law_204 {h0 : tpH} {av : List tpV} {R : Int32 → tpH → Prop} {K28 : (Option Nat) → (Option Nat) → (Option Nat) → (Option Nat) → (Option Nat) → Int32 → tpH → Prop} (k28 : ∀ (x0 : Option Nat) (x1 : Option Nat) (x2 : Option Nat) (x3 : Option Nat) (x4 : Option Nat) (x5 : Int32) (h : tpH), K28 x0 x1 x2 x3 x4 x5 h → tpR Lw_main 11 h0 av (tpOi R (fun _ _ => False)) 28 [some (vR x0), some (vR x1), some (vR x2), some (vR x3), some (vR x4), some (vI x5), none, none] [] h) : ∀ (x0 : Option Nat) (x1 : Option Nat) (x2 : Option Nat) (x3 : Option Nat) (x4 : Option Nat) (x5 : Int32) (h : tpH), w_Lw_law_204 R K28 x0 x1 x2 x3 x4 x5 h → tpR Lw_main 11 h0 av (tpOi R (fun _ _ => False)) 204 [some (vR x0), some (vR x1), some (vR x2), some (vR x3), some (vR x4), some (vI x5), none, none] [] h := by
  intro x0 x1 x2 x3 x4 x5 h hw
  unfold w_Lw_law_204 at hw
  refine tq_aload_n dLw_law_204 rfl rfl ?_
  refine tq_aload_n dLw_law_205 rfl rfl ?_
  refine tq_iload dLw_law_206 rfl ?_
  refine tq_iconst (v := (1 : Int32)) dLw_law_208 tni_1 ?_
  refine tq_iadd dLw_law_209 ?_
  obtain ⟨a1, e2, f3, hw⟩ := hw
  obtain ⟨f4, hw⟩ := hw
  refine te_iald dLw_law_210 e2 (Or.inr f3) f4 ?_
  refine tq_aload_n dLw_law_211 rfl rfl ?_
  refine tq_iload dLw_law_212 rfl ?_
  refine tq_iconst (v := (2 : Int32)) dLw_law_214 tni_2 ?_
  refine tq_iadd dLw_law_215 ?_
  obtain ⟨f5, hw⟩ := hw
  refine te_iald dLw_law_216 e2 (Or.inr f3) f5 ?_
  refine tq_aload_n dLw_law_217 rfl rfl ?_
  refine tq_iload dLw_law_218 rfl ?_
  refine tq_iconst (v := (3 : Int32)) dLw_law_220 tni_3 ?_
  refine tq_iadd dLw_law_221 ?_
  obtain ⟨f6, hw⟩ := hw
  refine te_iald dLw_law_222 e2 (Or.inr f3) f6 ?_
  refine tq_aload_n dLw_law_223 rfl rfl ?_
  refine tq_callSX ms_Lw_begin (by intro hz; cases hz) (dc := 9) (as := [vR x1, vI (hI h a1 (x5 + (1 : Int32)).toNatClampNeg), vI (hI h a1 (x5 + (2 : Int32)).toNatClampNeg), vI (hI h a1 (x5 + (3 : Int32)).toNatClampNeg), vR x3]) (rest := []) kLw_124 (Nat.le_of_ble_eq_true rfl) (Nat.le_of_ble_eq_true rfl) rfl rfl (Nat.le_of_ble_eq_true rfl) dLw_law_224 (s_Lw_begin hw) (fun _ _ hx => False.elim hx) (tk_i fun v8 h7 hw => ?_)
  refine tq_istore (ls' := [some (vR x0), some (vR x1), some (vR x2), some (vR x3), some (vR x4), some (vI x5), some (vI v8), none]) dLw_law_227 (Nat.le_of_ble_eq_true rfl) rfl ?_
  refine tq_aload_n dLw_law_229 rfl rfl ?_
  refine tq_aload_n dLw_law_230 rfl rfl ?_
  refine tq_iload dLw_law_231 rfl ?_
  refine tq_iconst (v := (1 : Int32)) dLw_law_233 tni_1 ?_
  refine tq_iadd dLw_law_234 ?_
  obtain ⟨f9, hw⟩ := hw
  obtain ⟨f10, hw⟩ := hw
  refine te_iald dLw_law_235 e2 (Or.inr f9) f10 ?_
  refine tq_aload_n dLw_law_236 rfl rfl ?_
  refine tq_iload dLw_law_237 rfl ?_
  refine tq_iconst (v := (2 : Int32)) dLw_law_239 tni_2 ?_
  refine tq_iadd dLw_law_240 ?_
  obtain ⟨f11, hw⟩ := hw
  refine te_iald dLw_law_241 e2 (Or.inr f9) f11 ?_
  refine tq_aload_n dLw_law_242 rfl rfl ?_
  refine tq_iload dLw_law_243 rfl ?_
  refine tq_iconst (v := (3 : Int32)) dLw_law_245 tni_3 ?_
  refine tq_iadd dLw_law_246 ?_
  obtain ⟨f12, hw⟩ := hw
  refine te_iald dLw_law_247 e2 (Or.inr f9) f12 ?_
  obtain ⟨a13, e14, f15, hw⟩ := hw
  refine te_callV mv_Md_begin (ci := 13) (dc := 2) (as := [vI (hI h7 a1 (x5 + (1 : Int32)).toNatClampNeg), vI (hI h7 a1 (x5 + (2 : Int32)).toNatClampNeg), vI (hI h7 a1 (x5 + (3 : Int32)).toNatClampNeg)]) (rest := []) kLw_129 rfl (Nat.le_of_ble_eq_true rfl) (Nat.le_of_ble_eq_true rfl) rfl rfl e14 f15 (Nat.le_of_ble_eq_true rfl) dLw_law_248 (s_Md_begin hw) (fun _ _ hx => False.elim hx) (tk_i fun v17 h16 hw => ?_)
  refine tq_istore (ls' := [some (vR x0), some (vR x1), some (vR x2), some (vR x3), some (vR x4), some (vI x5), some (vI v8), some (vI v17)]) dLw_law_251 (Nat.le_of_ble_eq_true rfl) rfl ?_
  refine tq_aload_n dLw_law_253 rfl rfl ?_
  obtain ⟨f18, hw⟩ := hw
  refine te_callV mv_Md_thrown (ci := 13) (dc := 0) (as := []) (rest := []) kLw_130 rfl (Nat.le_of_ble_eq_true rfl) (Nat.le_of_ble_eq_true rfl) rfl rfl e14 f18 (Nat.le_of_ble_eq_true rfl) dLw_law_254 (s_Md_thrown hw) (fun _ _ hx => False.elim hx) (tk_i fun v20 h19 hw => ?_)
  refine tq_iload dLw_law_257 rfl ?_
  refine tq_icmpeq (tgt := 264) dLw_law_259 (by decide) (fun c21 => ?_) (fun c21 => ?_)
  · have hw := hw.1 c21
    refine tq_iload dLw_law_264 rfl ?_
    refine tq_ifne (tgt := 281) dLw_law_266 (by decide) (fun c22 => ?_) (fun c22 => ?_)
    · have hw := hw.1 c22
      refine tq_goto (tgt := 2520) dLw_law_281 (by decide) ?_
      refine tq_inc (k := (6 : Int32)) (ls' := [some (vR x0), some (vR x1), some (vR x2), some (vR x3), some (vR x4), some (vI (x5 + (6 : Int32))), some (vI v8), some (vI v17)]) dLw_law_2520 rfl tni_6 (Nat.le_of_ble_eq_true rfl) rfl ?_
      refine tq_goto (tgt := 28) dLw_law_2523 (by decide) ?_
      refine tpR.fo (ls' := [some (vR x0), some (vR x1), some (vR x2), some (vR x3), some (vR x4), some (vI (x5 + (6 : Int32))), none, none]) ?_ (And.intro rfl (And.intro rfl (And.intro rfl (And.intro rfl (And.intro rfl (And.intro rfl trivial))))))
      exact k28 _ _ _ _ _ _ _ hw
    · have hw := hw.2 c22
      refine tq_aload_n dLw_law_269 rfl rfl ?_
      refine tq_iconst (v := (0 : Int32)) dLw_law_270 tni_0 ?_
      obtain ⟨a23, e24, f25, hw⟩ := hw
      obtain ⟨f26, hw⟩ := hw
      refine te_lald dLw_law_271 e24 f25 f26 ?_
      refine tq_iload dLw_law_272 rfl ?_
      refine tq_i2l dLw_law_274 ?_
      refine tq_lcmp dLw_law_275 ?_
      refine tq_ifeq (tgt := 281) dLw_law_276 (by decide) (fun c27 => ?_) (fun c27 => ?_)
      · have hw := hw.1 c27
        refine tq_goto (tgt := 2520) dLw_law_281 (by decide) ?_
        refine tq_inc (k := (6 : Int32)) (ls' := [some (vR x0), some (vR x1), some (vR x2), some (vR x3), some (vR x4), some (vI (x5 + (6 : Int32))), some (vI v8), some (vI v17)]) dLw_law_2520 rfl tni_6 (Nat.le_of_ble_eq_true rfl) rfl ?_
        refine tq_goto (tgt := 28) dLw_law_2523 (by decide) ?_
        refine tpR.fo (ls' := [some (vR x0), some (vR x1), some (vR x2), some (vR x3), some (vR x4), some (vI (x5 + (6 : Int32))), none, none]) ?_ (And.intro rfl (And.intro rfl (And.intro rfl (And.intro rfl (And.intro rfl (And.intro rfl trivial))))))
        exact k28 _ _ _ _ _ _ _ hw
      · have hw := hw.2 c27
        refine tq_iconst (v := (0 : Int32)) dLw_law_279 tni_0 ?_
        exact tq_iret rfl (by decide) dLw_law_280 hw
  · have hw := hw.2 c21
    refine tq_iconst (v := (0 : Int32)) dLw_law_262 tni_0 ?_
    exact tq_iret rfl (by decide) dLw_law_263 hw
theorem s_Lw_law_284 {h0 : tpH} {av : List tpV} {R : Int32 → tpH → Prop} {K28 : (Option Nat) → (Option Nat) → (Option Nat) → (Option Nat) → (Option Nat) → Int32 → tpH → Prop} (k28 : ∀ (x0 : Option Nat) (x1 : Option Nat) (x2 : Option Nat) (x3 : Option Nat) (x4 : Option Nat) (x5 : Int32) (h : tpH), K28 x0 x1 x2 x3 x4 x5 h → tpR Lw_main 11 h0 av (tpOi R (fun _ _ => False)) 28 [some (vR x0), some (vR x1), some (vR x2), some (vR x3), some (vR x4), some (vI x5), none, none] [] h) : ∀ (x0 : Option Nat) (x1 : Option Nat) (x2 : Option Nat) (x3 : Option Nat) (x4 : Option Nat) (x5 : Int32) (h : tpH), w_Lw_law_284 R K28 x0 x1 x2 x3 x4 x5 h → tpR Lw_main 11 h0 av (tpOi R (fun _ _ => False)) 284 [some (vR x0), some (vR x1), some (vR x2), some (vR x3), some (vR x4), some (vI x5), none, none] [] h := by
  intro x0 x1 x2 x3 x4 x5 h hw
  unfold w_Lw_law_284 at hw
  refine tq_aload_n dLw_law_284 rfl rfl ?_
  refine tq_aload_n dLw_law_285 rfl rfl ?_
  refine tq_iload dLw_law_286 rfl ?_
  refine tq_iconst (v := (1 : Int32)) dLw_law_288 tni_1 ?_
  refine tq_iadd dLw_law_289 ?_
  obtain ⟨a1, e2, f3, hw⟩ := hw
  obtain ⟨f4, hw⟩ := hw
  refine te_iald dLw_law_290 e2 (Or.inr f3) f4 ?_
  refine tq_aload_n dLw_law_291 rfl rfl ?_
  refine tq_callSX ms_Lw_copy (by intro hz; cases hz) (dc := 8) (as := [vR x1, vI (hI h a1 (x5 + (1 : Int32)).toNatClampNeg), vR x3]) (rest := []) kLw_133 (Nat.le_of_ble_eq_true rfl) (Nat.le_of_ble_eq_true rfl) rfl rfl (Nat.le_of_ble_eq_true rfl) dLw_law_292 (s_Lw_copy hw) (fun _ _ hx => False.elim hx) (tk_i fun v6 h5 hw => ?_)
  refine tq_istore (ls' := [some (vR x0), some (vR x1), some (vR x2), some (vR x3), some (vR x4), some (vI x5), some (vI v6), none]) dLw_law_295 (Nat.le_of_ble_eq_true rfl) rfl ?_
  refine tq_aload_n dLw_law_297 rfl rfl ?_
  refine tq_aload_n dLw_law_298 rfl rfl ?_
  refine tq_iload dLw_law_299 rfl ?_
  refine tq_iconst (v := (1 : Int32)) dLw_law_301 tni_1 ?_
  refine tq_iadd dLw_law_302 ?_
  obtain ⟨f7, hw⟩ := hw
  obtain ⟨f8, hw⟩ := hw
  refine te_iald dLw_law_303 e2 (Or.inr f7) f8 ?_
  obtain ⟨a9, e10, f11, hw⟩ := hw
  refine te_callV mv_Md_copy (ci := 13) (dc := 2) (as := [vI (hI h5 a1 (x5 + (1 : Int32)).toNatClampNeg)]) (rest := []) kLw_136 rfl (Nat.le_of_ble_eq_true rfl) (Nat.le_of_ble_eq_true rfl) rfl rfl e10 f11 (Nat.le_of_ble_eq_true rfl) dLw_law_304 (s_Md_copy hw) (fun _ _ hx => False.elim hx) (tk_i fun v13 h12 hw => ?_)
  refine tq_istore (ls' := [some (vR x0), some (vR x1), some (vR x2), some (vR x3), some (vR x4), some (vI x5), some (vI v6), some (vI v13)]) dLw_law_307 (Nat.le_of_ble_eq_true rfl) rfl ?_
  refine tq_aload_n dLw_law_309 rfl rfl ?_
  obtain ⟨f14, hw⟩ := hw
  refine te_callV mv_Md_thrown (ci := 13) (dc := 0) (as := []) (rest := []) kLw_130 rfl (Nat.le_of_ble_eq_true rfl) (Nat.le_of_ble_eq_true rfl) rfl rfl e10 f14 (Nat.le_of_ble_eq_true rfl) dLw_law_310 (s_Md_thrown hw) (fun _ _ hx => False.elim hx) (tk_i fun v16 h15 hw => ?_)
  refine tq_iload dLw_law_313 rfl ?_
  refine tq_icmpeq (tgt := 320) dLw_law_315 (by decide) (fun c17 => ?_) (fun c17 => ?_)
  · have hw := hw.1 c17
    refine tq_iload dLw_law_320 rfl ?_
    refine tq_ifne (tgt := 337) dLw_law_322 (by decide) (fun c18 => ?_) (fun c18 => ?_)
    · have hw := hw.1 c18
      refine tq_goto (tgt := 2520) dLw_law_337 (by decide) ?_
      refine tq_inc (k := (6 : Int32)) (ls' := [some (vR x0), some (vR x1), some (vR x2), some (vR x3), some (vR x4), some (vI (x5 + (6 : Int32))), some (vI v6), some (vI v13)]) dLw_law_2520 rfl tni_6 (Nat.le_of_ble_eq_true rfl) rfl ?_
      refine tq_goto (tgt := 28) dLw_law_2523 (by decide) ?_
      refine tpR.fo (ls' := [some (vR x0), some (vR x1), some (vR x2), some (vR x3), some (vR x4), some (vI (x5 + (6 : Int32))), none, none]) ?_ (And.intro rfl (And.intro rfl (And.intro rfl (And.intro rfl (And.intro rfl (And.intro rfl trivial))))))
      exact k28 _ _ _ _ _ _ _ hw
    · have hw := hw.2 c18
      refine tq_aload_n dLw_law_325 rfl rfl ?_
      refine tq_iconst (v := (0 : Int32)) dLw_law_326 tni_0 ?_
      obtain ⟨a19, e20, f21, hw⟩ := hw
      obtain ⟨f22, hw⟩ := hw
      refine te_lald dLw_law_327 e20 f21 f22 ?_
      refine tq_iload dLw_law_328 rfl ?_
      refine tq_i2l dLw_law_330 ?_
      refine tq_lcmp dLw_law_331 ?_
      refine tq_ifeq (tgt := 337) dLw_law_332 (by decide) (fun c23 => ?_) (fun c23 => ?_)
      · have hw := hw.1 c23
        refine tq_goto (tgt := 2520) dLw_law_337 (by decide) ?_
        refine tq_inc (k := (6 : Int32)) (ls' := [some (vR x0), some (vR x1), some (vR x2), some (vR x3), some (vR x4), some (vI (x5 + (6 : Int32))), some (vI v6), some (vI v13)]) dLw_law_2520 rfl tni_6 (Nat.le_of_ble_eq_true rfl) rfl ?_
        refine tq_goto (tgt := 28) dLw_law_2523 (by decide) ?_
        refine tpR.fo (ls' := [some (vR x0), some (vR x1), some (vR x2), some (vR x3), some (vR x4), some (vI (x5 + (6 : Int32))), none, none]) ?_ (And.intro rfl (And.intro rfl (And.intro rfl (And.intro rfl (And.intro rfl (And.intro rfl trivial))))))
        exact k28 _ _ _ _ _ _ _ hw
      · have hw := hw.2 c23
        refine tq_iconst (v := (0 : Int32)) dLw_law_335 tni_0 ?_
        exact tq_iret rfl (by decide) dLw_law_336 hw
  · have hw := hw.2 c17
    refine tq_iconst (v := (0 : Int32)) dLw_law_318 tni_0 ?_
    exact tq_iret rfl (by decide) dLw_law_319 hw
theorem s_Lw_law_340 {h0 : tpH} {av : List tpV} {R : Int32 → tpH → Prop} {K28 : (Option Nat) → (Option Nat) → (Option Nat) → (Option Nat) → (Option Nat) → Int32 → tpH → Prop} (k28 : ∀ (x0 : Option Nat) (x1 : Option Nat) (x2 : Option Nat) (x3 : Option Nat) (x4 : Option Nat) (x5 : Int32) (h : tpH), K28 x0 x1 x2 x3 x4 x5 h → tpR Lw_main 11 h0 av (tpOi R (fun _ _ => False)) 28 [some (vR x0), some (vR x1), some (vR x2), some (vR x3), some (vR x4), some (vI x5), none, none] [] h) : ∀ (x0 : Option Nat) (x1 : Option Nat) (x2 : Option Nat) (x3 : Option Nat) (x4 : Option Nat) (x5 : Int32) (h : tpH), w_Lw_law_340 R K28 x0 x1 x2 x3 x4 x5 h → tpR Lw_main 11 h0 av (tpOi R (fun _ _ => False)) 340 [some (vR x0), some (vR x1), some (vR x2), some (vR x3), some (vR x4), some (vI x5), none, none] [] h := by
  intro x0 x1 x2 x3 x4 x5 h hw
  unfold w_Lw_law_340 at hw
  refine tq_aload_n dLw_law_340 rfl rfl ?_
  refine tq_aload_n dLw_law_341 rfl rfl ?_
  refine tq_iload dLw_law_342 rfl ?_
  refine tq_iconst (v := (1 : Int32)) dLw_law_344 tni_1 ?_
  refine tq_iadd dLw_law_345 ?_
  obtain ⟨a1, e2, f3, hw⟩ := hw
  obtain ⟨f4, hw⟩ := hw
  refine te_iald dLw_law_346 e2 (Or.inr f3) f4 ?_
  refine tq_aload_n dLw_law_347 rfl rfl ?_
  refine tq_iload dLw_law_348 rfl ?_
  refine tq_iconst (v := (2 : Int32)) dLw_law_350 tni_2 ?_
  refine tq_iadd dLw_law_351 ?_
  obtain ⟨f5, hw⟩ := hw
  refine te_iald dLw_law_352 e2 (Or.inr f3) f5 ?_
  refine tq_aload_n dLw_law_353 rfl rfl ?_
  refine tq_iload dLw_law_354 rfl ?_
  refine tq_iconst (v := (3 : Int32)) dLw_law_356 tni_3 ?_
  refine tq_iadd dLw_law_357 ?_
  obtain ⟨f6, hw⟩ := hw
  refine te_iald dLw_law_358 e2 (Or.inr f3) f6 ?_
  refine tq_aload_n dLw_law_359 rfl rfl ?_
  refine tq_iload dLw_law_360 rfl ?_
  refine tq_iconst (v := (4 : Int32)) dLw_law_362 tni_4 ?_
  refine tq_iadd dLw_law_363 ?_
  obtain ⟨f7, hw⟩ := hw
  refine te_iald dLw_law_364 e2 (Or.inr f3) f7 ?_
  refine tq_aload_n dLw_law_365 rfl rfl ?_
  refine tq_iload dLw_law_366 rfl ?_
  refine tq_iconst (v := (5 : Int32)) dLw_law_368 tni_5 ?_
  refine tq_iadd dLw_law_369 ?_
  obtain ⟨f8, hw⟩ := hw
  refine te_iald dLw_law_370 e2 (Or.inr f3) f8 ?_
  refine tq_aload_n dLw_law_371 rfl rfl ?_
  refine tq_callSX ms_Lw_node (by intro hz; cases hz) (dc := 9) (as := [vR x1, vI (hI h a1 (x5 + (1 : Int32)).toNatClampNeg), vI (hI h a1 (x5 + (2 : Int32)).toNatClampNeg), vI (hI h a1 (x5 + (3 : Int32)).toNatClampNeg), vI (hI h a1 (x5 + (4 : Int32)).toNatClampNeg), vI (hI h a1 (x5 + (5 : Int32)).toNatClampNeg), vR x3]) (rest := []) kLw_137 (Nat.le_of_ble_eq_true rfl) (Nat.le_of_ble_eq_true rfl) rfl rfl (Nat.le_of_ble_eq_true rfl) dLw_law_372 (s_Lw_node hw) (fun _ _ hx => False.elim hx) (tk_i fun v10 h9 hw => ?_)
  refine tq_istore (ls' := [some (vR x0), some (vR x1), some (vR x2), some (vR x3), some (vR x4), some (vI x5), some (vI v10), none]) dLw_law_375 (Nat.le_of_ble_eq_true rfl) rfl ?_
  refine tq_aload_n dLw_law_377 rfl rfl ?_
  refine tq_aload_n dLw_law_378 rfl rfl ?_
  refine tq_iload dLw_law_379 rfl ?_
  refine tq_iconst (v := (1 : Int32)) dLw_law_381 tni_1 ?_
  refine tq_iadd dLw_law_382 ?_
  obtain ⟨f11, hw⟩ := hw
  obtain ⟨f12, hw⟩ := hw
  refine te_iald dLw_law_383 e2 (Or.inr f11) f12 ?_
  refine tq_aload_n dLw_law_384 rfl rfl ?_
  refine tq_iload dLw_law_385 rfl ?_
  refine tq_iconst (v := (2 : Int32)) dLw_law_387 tni_2 ?_
  refine tq_iadd dLw_law_388 ?_
  obtain ⟨f13, hw⟩ := hw
  refine te_iald dLw_law_389 e2 (Or.inr f11) f13 ?_
  refine tq_aload_n dLw_law_390 rfl rfl ?_
  refine tq_iload dLw_law_391 rfl ?_
  refine tq_iconst (v := (3 : Int32)) dLw_law_393 tni_3 ?_
  refine tq_iadd dLw_law_394 ?_
  obtain ⟨f14, hw⟩ := hw
  refine te_iald dLw_law_395 e2 (Or.inr f11) f14 ?_
  refine tq_aload_n dLw_law_396 rfl rfl ?_
  refine tq_iload dLw_law_397 rfl ?_
  refine tq_iconst (v := (4 : Int32)) dLw_law_399 tni_4 ?_
  refine tq_iadd dLw_law_400 ?_
  obtain ⟨f15, hw⟩ := hw
  refine te_iald dLw_law_401 e2 (Or.inr f11) f15 ?_
  refine tq_aload_n dLw_law_402 rfl rfl ?_
  refine tq_iload dLw_law_403 rfl ?_
  refine tq_iconst (v := (5 : Int32)) dLw_law_405 tni_5 ?_
  refine tq_iadd dLw_law_406 ?_
  obtain ⟨f16, hw⟩ := hw
  refine te_iald dLw_law_407 e2 (Or.inr f11) f16 ?_
  obtain ⟨a17, e18, f19, hw⟩ := hw
  refine te_callV mv_Md_node (ci := 13) (dc := 3) (as := [vI (hI h9 a1 (x5 + (1 : Int32)).toNatClampNeg), vI (hI h9 a1 (x5 + (2 : Int32)).toNatClampNeg), vI (hI h9 a1 (x5 + (3 : Int32)).toNatClampNeg), vI (hI h9 a1 (x5 + (4 : Int32)).toNatClampNeg), vI (hI h9 a1 (x5 + (5 : Int32)).toNatClampNeg)]) (rest := []) kLw_140 rfl (Nat.le_of_ble_eq_true rfl) (Nat.le_of_ble_eq_true rfl) rfl rfl e18 f19 (Nat.le_of_ble_eq_true rfl) dLw_law_408 (s_Md_node hw) (fun _ _ hx => False.elim hx) (tk_i fun v21 h20 hw => ?_)
  refine tq_istore (ls' := [some (vR x0), some (vR x1), some (vR x2), some (vR x3), some (vR x4), some (vI x5), some (vI v10), some (vI v21)]) dLw_law_411 (Nat.le_of_ble_eq_true rfl) rfl ?_
  refine tq_aload_n dLw_law_413 rfl rfl ?_
  obtain ⟨f22, hw⟩ := hw
  refine te_callV mv_Md_thrown (ci := 13) (dc := 0) (as := []) (rest := []) kLw_130 rfl (Nat.le_of_ble_eq_true rfl) (Nat.le_of_ble_eq_true rfl) rfl rfl e18 f22 (Nat.le_of_ble_eq_true rfl) dLw_law_414 (s_Md_thrown hw) (fun _ _ hx => False.elim hx) (tk_i fun v24 h23 hw => ?_)
  refine tq_iload dLw_law_417 rfl ?_
  refine tq_icmpeq (tgt := 424) dLw_law_419 (by decide) (fun c25 => ?_) (fun c25 => ?_)
  · have hw := hw.1 c25
    refine tq_iload dLw_law_424 rfl ?_
    refine tq_ifne (tgt := 441) dLw_law_426 (by decide) (fun c26 => ?_) (fun c26 => ?_)
    · have hw := hw.1 c26
      refine tq_goto (tgt := 2520) dLw_law_441 (by decide) ?_
      refine tq_inc (k := (6 : Int32)) (ls' := [some (vR x0), some (vR x1), some (vR x2), some (vR x3), some (vR x4), some (vI (x5 + (6 : Int32))), some (vI v10), some (vI v21)]) dLw_law_2520 rfl tni_6 (Nat.le_of_ble_eq_true rfl) rfl ?_
      refine tq_goto (tgt := 28) dLw_law_2523 (by decide) ?_
      refine tpR.fo (ls' := [some (vR x0), some (vR x1), some (vR x2), some (vR x3), some (vR x4), some (vI (x5 + (6 : Int32))), none, none]) ?_ (And.intro rfl (And.intro rfl (And.intro rfl (And.intro rfl (And.intro rfl (And.intro rfl trivial))))))
      exact k28 _ _ _ _ _ _ _ hw
    · have hw := hw.2 c26
      refine tq_aload_n dLw_law_429 rfl rfl ?_
      refine tq_iconst (v := (0 : Int32)) dLw_law_430 tni_0 ?_
      obtain ⟨a27, e28, f29, hw⟩ := hw
      obtain ⟨f30, hw⟩ := hw
      refine te_lald dLw_law_431 e28 f29 f30 ?_
      refine tq_iload dLw_law_432 rfl ?_
      refine tq_i2l dLw_law_434 ?_
      refine tq_lcmp dLw_law_435 ?_
      refine tq_ifeq (tgt := 441) dLw_law_436 (by decide) (fun c31 => ?_) (fun c31 => ?_)
      · have hw := hw.1 c31
        refine tq_goto (tgt := 2520) dLw_law_441 (by decide) ?_
        refine tq_inc (k := (6 : Int32)) (ls' := [some (vR x0), some (vR x1), some (vR x2), some (vR x3), some (vR x4), some (vI (x5 + (6 : Int32))), some (vI v10), some (vI v21)]) dLw_law_2520 rfl tni_6 (Nat.le_of_ble_eq_true rfl) rfl ?_
        refine tq_goto (tgt := 28) dLw_law_2523 (by decide) ?_
        refine tpR.fo (ls' := [some (vR x0), some (vR x1), some (vR x2), some (vR x3), some (vR x4), some (vI (x5 + (6 : Int32))), none, none]) ?_ (And.intro rfl (And.intro rfl (And.intro rfl (And.intro rfl (And.intro rfl (And.intro rfl trivial))))))
        exact k28 _ _ _ _ _ _ _ hw
      · have hw := hw.2 c31
        refine tq_iconst (v := (0 : Int32)) dLw_law_439 tni_0 ?_
        exact tq_iret rfl (by decide) dLw_law_440 hw
  · have hw := hw.2 c25
    refine tq_iconst (v := (0 : Int32)) dLw_law_422 tni_0 ?_
    exact tq_iret rfl (by decide) dLw_law_423 hw
theorem s_Lw_law_444 {h0 : tpH} {av : List tpV} {R : Int32 → tpH → Prop} {K28 : (Option Nat) → (Option Nat) → (Option Nat) → (Option Nat) → (Option Nat) → Int32 → tpH → Prop} (k28 : ∀ (x0 : Option Nat) (x1 : Option Nat) (x2 : Option Nat) (x3 : Option Nat) (x4 : Option Nat) (x5 : Int32) (h : tpH), K28 x0 x1 x2 x3 x4 x5 h → tpR Lw_main 11 h0 av (tpOi R (fun _ _ => False)) 28 [some (vR x0), some (vR x1), some (vR x2), some (vR x3), some (vR x4), some (vI x5), none, none] [] h) : ∀ (x0 : Option Nat) (x1 : Option Nat) (x2 : Option Nat) (x3 : Option Nat) (x4 : Option Nat) (x5 : Int32) (h : tpH), w_Lw_law_444 R K28 x0 x1 x2 x3 x4 x5 h → tpR Lw_main 11 h0 av (tpOi R (fun _ _ => False)) 444 [some (vR x0), some (vR x1), some (vR x2), some (vR x3), some (vR x4), some (vI x5), none, none] [] h := by
  intro x0 x1 x2 x3 x4 x5 h hw
  unfold w_Lw_law_444 at hw
  refine tq_aload_n dLw_law_444 rfl rfl ?_
  refine tq_aload_n dLw_law_445 rfl rfl ?_
  refine tq_iload dLw_law_446 rfl ?_
  refine tq_iconst (v := (1 : Int32)) dLw_law_448 tni_1 ?_
  refine tq_iadd dLw_law_449 ?_
  obtain ⟨a1, e2, f3, hw⟩ := hw
  obtain ⟨f4, hw⟩ := hw
  refine te_iald dLw_law_450 e2 (Or.inr f3) f4 ?_
  refine tq_aload_n dLw_law_451 rfl rfl ?_
  refine tq_iload dLw_law_452 rfl ?_
  refine tq_iconst (v := (2 : Int32)) dLw_law_454 tni_2 ?_
  refine tq_iadd dLw_law_455 ?_
  obtain ⟨f5, hw⟩ := hw
  refine te_iald dLw_law_456 e2 (Or.inr f3) f5 ?_
  refine tq_aload_n dLw_law_457 rfl rfl ?_
  refine tq_callSX ms_Lw_set (by intro hz; cases hz) (dc := 8) (as := [vR x1, vI (hI h a1 (x5 + (1 : Int32)).toNatClampNeg), vI (hI h a1 (x5 + (2 : Int32)).toNatClampNeg), vR x3]) (rest := []) kLw_141 (Nat.le_of_ble_eq_true rfl) (Nat.le_of_ble_eq_true rfl) rfl rfl (Nat.le_of_ble_eq_true rfl) dLw_law_458 (s_Lw_set hw) (fun _ _ hx => False.elim hx) (tk_i fun v7 h6 hw => ?_)
  refine tq_istore (ls' := [some (vR x0), some (vR x1), some (vR x2), some (vR x3), some (vR x4), some (vI x5), some (vI v7), none]) dLw_law_461 (Nat.le_of_ble_eq_true rfl) rfl ?_
  refine tq_aload_n dLw_law_463 rfl rfl ?_
  refine tq_aload_n dLw_law_464 rfl rfl ?_
  refine tq_iload dLw_law_465 rfl ?_
  refine tq_iconst (v := (1 : Int32)) dLw_law_467 tni_1 ?_
  refine tq_iadd dLw_law_468 ?_
  obtain ⟨f8, hw⟩ := hw
  obtain ⟨f9, hw⟩ := hw
  refine te_iald dLw_law_469 e2 (Or.inr f8) f9 ?_
  refine tq_aload_n dLw_law_470 rfl rfl ?_
  refine tq_iload dLw_law_471 rfl ?_
  refine tq_iconst (v := (2 : Int32)) dLw_law_473 tni_2 ?_
  refine tq_iadd dLw_law_474 ?_
  obtain ⟨f10, hw⟩ := hw
  refine te_iald dLw_law_475 e2 (Or.inr f8) f10 ?_
  obtain ⟨a11, e12, f13, hw⟩ := hw
  refine te_callV mv_Md_set (ci := 13) (dc := 3) (as := [vI (hI h6 a1 (x5 + (1 : Int32)).toNatClampNeg), vI (hI h6 a1 (x5 + (2 : Int32)).toNatClampNeg)]) (rest := []) kLw_144 rfl (Nat.le_of_ble_eq_true rfl) (Nat.le_of_ble_eq_true rfl) rfl rfl e12 f13 (Nat.le_of_ble_eq_true rfl) dLw_law_476 (s_Md_set hw) (fun _ _ hx => False.elim hx) (tk_i fun v15 h14 hw => ?_)
  refine tq_istore (ls' := [some (vR x0), some (vR x1), some (vR x2), some (vR x3), some (vR x4), some (vI x5), some (vI v7), some (vI v15)]) dLw_law_479 (Nat.le_of_ble_eq_true rfl) rfl ?_
  refine tq_aload_n dLw_law_481 rfl rfl ?_
  obtain ⟨f16, hw⟩ := hw
  refine te_callV mv_Md_thrown (ci := 13) (dc := 0) (as := []) (rest := []) kLw_130 rfl (Nat.le_of_ble_eq_true rfl) (Nat.le_of_ble_eq_true rfl) rfl rfl e12 f16 (Nat.le_of_ble_eq_true rfl) dLw_law_482 (s_Md_thrown hw) (fun _ _ hx => False.elim hx) (tk_i fun v18 h17 hw => ?_)
  refine tq_iload dLw_law_485 rfl ?_
  refine tq_icmpeq (tgt := 492) dLw_law_487 (by decide) (fun c19 => ?_) (fun c19 => ?_)
  · have hw := hw.1 c19
    refine tq_iload dLw_law_492 rfl ?_
    refine tq_ifne (tgt := 509) dLw_law_494 (by decide) (fun c20 => ?_) (fun c20 => ?_)
    · have hw := hw.1 c20
      refine tq_goto (tgt := 2520) dLw_law_509 (by decide) ?_
      refine tq_inc (k := (6 : Int32)) (ls' := [some (vR x0), some (vR x1), some (vR x2), some (vR x3), some (vR x4), some (vI (x5 + (6 : Int32))), some (vI v7), some (vI v15)]) dLw_law_2520 rfl tni_6 (Nat.le_of_ble_eq_true rfl) rfl ?_
      refine tq_goto (tgt := 28) dLw_law_2523 (by decide) ?_
      refine tpR.fo (ls' := [some (vR x0), some (vR x1), some (vR x2), some (vR x3), some (vR x4), some (vI (x5 + (6 : Int32))), none, none]) ?_ (And.intro rfl (And.intro rfl (And.intro rfl (And.intro rfl (And.intro rfl (And.intro rfl trivial))))))
      exact k28 _ _ _ _ _ _ _ hw
    · have hw := hw.2 c20
      refine tq_aload_n dLw_law_497 rfl rfl ?_
      refine tq_iconst (v := (0 : Int32)) dLw_law_498 tni_0 ?_
      obtain ⟨a21, e22, f23, hw⟩ := hw
      obtain ⟨f24, hw⟩ := hw
      refine te_lald dLw_law_499 e22 f23 f24 ?_
      refine tq_iload dLw_law_500 rfl ?_
      refine tq_i2l dLw_law_502 ?_
      refine tq_lcmp dLw_law_503 ?_
      refine tq_ifeq (tgt := 509) dLw_law_504 (by decide) (fun c25 => ?_) (fun c25 => ?_)
      · have hw := hw.1 c25
        refine tq_goto (tgt := 2520) dLw_law_509 (by decide) ?_
        refine tq_inc (k := (6 : Int32)) (ls' := [some (vR x0), some (vR x1), some (vR x2), some (vR x3), some (vR x4), some (vI (x5 + (6 : Int32))), some (vI v7), some (vI v15)]) dLw_law_2520 rfl tni_6 (Nat.le_of_ble_eq_true rfl) rfl ?_
        refine tq_goto (tgt := 28) dLw_law_2523 (by decide) ?_
        refine tpR.fo (ls' := [some (vR x0), some (vR x1), some (vR x2), some (vR x3), some (vR x4), some (vI (x5 + (6 : Int32))), none, none]) ?_ (And.intro rfl (And.intro rfl (And.intro rfl (And.intro rfl (And.intro rfl (And.intro rfl trivial))))))
        exact k28 _ _ _ _ _ _ _ hw
      · have hw := hw.2 c25
        refine tq_iconst (v := (0 : Int32)) dLw_law_507 tni_0 ?_
        exact tq_iret rfl (by decide) dLw_law_508 hw
  · have hw := hw.2 c19
    refine tq_iconst (v := (0 : Int32)) dLw_law_490 tni_0 ?_
    exact tq_iret rfl (by decide) dLw_law_491 hw
theorem s_Lw_law_512 {h0 : tpH} {av : List tpV} {R : Int32 → tpH → Prop} {K28 : (Option Nat) → (Option Nat) → (Option Nat) → (Option Nat) → (Option Nat) → Int32 → tpH → Prop} (k28 : ∀ (x0 : Option Nat) (x1 : Option Nat) (x2 : Option Nat) (x3 : Option Nat) (x4 : Option Nat) (x5 : Int32) (h : tpH), K28 x0 x1 x2 x3 x4 x5 h → tpR Lw_main 11 h0 av (tpOi R (fun _ _ => False)) 28 [some (vR x0), some (vR x1), some (vR x2), some (vR x3), some (vR x4), some (vI x5), none, none] [] h) : ∀ (x0 : Option Nat) (x1 : Option Nat) (x2 : Option Nat) (x3 : Option Nat) (x4 : Option Nat) (x5 : Int32) (h : tpH), w_Lw_law_512 R K28 x0 x1 x2 x3 x4 x5 h → tpR Lw_main 11 h0 av (tpOi R (fun _ _ => False)) 512 [some (vR x0), some (vR x1), some (vR x2), some (vR x3), some (vR x4), some (vI x5), none, none] [] h := by
  intro x0 x1 x2 x3 x4 x5 h hw
  unfold w_Lw_law_512 at hw
  refine tq_aload_n dLw_law_512 rfl rfl ?_
  refine tq_aload_n dLw_law_513 rfl rfl ?_
  refine tq_iload dLw_law_514 rfl ?_
  refine tq_iconst (v := (1 : Int32)) dLw_law_516 tni_1 ?_
  refine tq_iadd dLw_law_517 ?_
  obtain ⟨a1, e2, f3, hw⟩ := hw
  obtain ⟨f4, hw⟩ := hw
  refine te_iald dLw_law_518 e2 (Or.inr f3) f4 ?_
  refine tq_aload_n dLw_law_519 rfl rfl ?_
  refine tq_iload dLw_law_520 rfl ?_
  refine tq_iconst (v := (2 : Int32)) dLw_law_522 tni_2 ?_
  refine tq_iadd dLw_law_523 ?_
  obtain ⟨f5, hw⟩ := hw
  refine te_iald dLw_law_524 e2 (Or.inr f3) f5 ?_
  refine tq_aload_n dLw_law_525 rfl rfl ?_
  refine tq_iload dLw_law_526 rfl ?_
  refine tq_iconst (v := (3 : Int32)) dLw_law_528 tni_3 ?_
  refine tq_iadd dLw_law_529 ?_
  obtain ⟨f6, hw⟩ := hw
  refine te_iald dLw_law_530 e2 (Or.inr f3) f6 ?_
  refine tq_aload_n dLw_law_531 rfl rfl ?_
  refine tq_callSX ms_Lw_move (by intro hz; cases hz) (dc := 8) (as := [vR x1, vI (hI h a1 (x5 + (1 : Int32)).toNatClampNeg), vI (hI h a1 (x5 + (2 : Int32)).toNatClampNeg), vI (hI h a1 (x5 + (3 : Int32)).toNatClampNeg), vR x3]) (rest := []) kLw_145 (Nat.le_of_ble_eq_true rfl) (Nat.le_of_ble_eq_true rfl) rfl rfl (Nat.le_of_ble_eq_true rfl) dLw_law_532 (s_Lw_move hw) (fun _ _ hx => False.elim hx) (tk_i fun v8 h7 hw => ?_)
  refine tq_istore (ls' := [some (vR x0), some (vR x1), some (vR x2), some (vR x3), some (vR x4), some (vI x5), some (vI v8), none]) dLw_law_535 (Nat.le_of_ble_eq_true rfl) rfl ?_
  refine tq_aload_n dLw_law_537 rfl rfl ?_
  refine tq_aload_n dLw_law_538 rfl rfl ?_
  refine tq_iload dLw_law_539 rfl ?_
  refine tq_iconst (v := (1 : Int32)) dLw_law_541 tni_1 ?_
  refine tq_iadd dLw_law_542 ?_
  obtain ⟨f9, hw⟩ := hw
  obtain ⟨f10, hw⟩ := hw
  refine te_iald dLw_law_543 e2 (Or.inr f9) f10 ?_
  refine tq_aload_n dLw_law_544 rfl rfl ?_
  refine tq_iload dLw_law_545 rfl ?_
  refine tq_iconst (v := (2 : Int32)) dLw_law_547 tni_2 ?_
  refine tq_iadd dLw_law_548 ?_
  obtain ⟨f11, hw⟩ := hw
  refine te_iald dLw_law_549 e2 (Or.inr f9) f11 ?_
  refine tq_aload_n dLw_law_550 rfl rfl ?_
  refine tq_iload dLw_law_551 rfl ?_
  refine tq_iconst (v := (3 : Int32)) dLw_law_553 tni_3 ?_
  refine tq_iadd dLw_law_554 ?_
  obtain ⟨f12, hw⟩ := hw
  refine te_iald dLw_law_555 e2 (Or.inr f9) f12 ?_
  obtain ⟨a13, e14, f15, hw⟩ := hw
  refine te_callV mv_Md_move (ci := 13) (dc := 3) (as := [vI (hI h7 a1 (x5 + (1 : Int32)).toNatClampNeg), vI (hI h7 a1 (x5 + (2 : Int32)).toNatClampNeg), vI (hI h7 a1 (x5 + (3 : Int32)).toNatClampNeg)]) (rest := []) kLw_147 rfl (Nat.le_of_ble_eq_true rfl) (Nat.le_of_ble_eq_true rfl) rfl rfl e14 f15 (Nat.le_of_ble_eq_true rfl) dLw_law_556 (s_Md_move hw) (fun _ _ hx => False.elim hx) (tk_i fun v17 h16 hw => ?_)
  refine tq_istore (ls' := [some (vR x0), some (vR x1), some (vR x2), some (vR x3), some (vR x4), some (vI x5), some (vI v8), some (vI v17)]) dLw_law_559 (Nat.le_of_ble_eq_true rfl) rfl ?_
  refine tq_aload_n dLw_law_561 rfl rfl ?_
  obtain ⟨f18, hw⟩ := hw
  refine te_callV mv_Md_thrown (ci := 13) (dc := 0) (as := []) (rest := []) kLw_130 rfl (Nat.le_of_ble_eq_true rfl) (Nat.le_of_ble_eq_true rfl) rfl rfl e14 f18 (Nat.le_of_ble_eq_true rfl) dLw_law_562 (s_Md_thrown hw) (fun _ _ hx => False.elim hx) (tk_i fun v20 h19 hw => ?_)
  refine tq_iload dLw_law_565 rfl ?_
  refine tq_icmpeq (tgt := 572) dLw_law_567 (by decide) (fun c21 => ?_) (fun c21 => ?_)
  · have hw := hw.1 c21
    refine tq_iload dLw_law_572 rfl ?_
    refine tq_ifne (tgt := 589) dLw_law_574 (by decide) (fun c22 => ?_) (fun c22 => ?_)
    · have hw := hw.1 c22
      refine tq_goto (tgt := 2520) dLw_law_589 (by decide) ?_
      refine tq_inc (k := (6 : Int32)) (ls' := [some (vR x0), some (vR x1), some (vR x2), some (vR x3), some (vR x4), some (vI (x5 + (6 : Int32))), some (vI v8), some (vI v17)]) dLw_law_2520 rfl tni_6 (Nat.le_of_ble_eq_true rfl) rfl ?_
      refine tq_goto (tgt := 28) dLw_law_2523 (by decide) ?_
      refine tpR.fo (ls' := [some (vR x0), some (vR x1), some (vR x2), some (vR x3), some (vR x4), some (vI (x5 + (6 : Int32))), none, none]) ?_ (And.intro rfl (And.intro rfl (And.intro rfl (And.intro rfl (And.intro rfl (And.intro rfl trivial))))))
      exact k28 _ _ _ _ _ _ _ hw
    · have hw := hw.2 c22
      refine tq_aload_n dLw_law_577 rfl rfl ?_
      refine tq_iconst (v := (0 : Int32)) dLw_law_578 tni_0 ?_
      obtain ⟨a23, e24, f25, hw⟩ := hw
      obtain ⟨f26, hw⟩ := hw
      refine te_lald dLw_law_579 e24 f25 f26 ?_
      refine tq_iload dLw_law_580 rfl ?_
      refine tq_i2l dLw_law_582 ?_
      refine tq_lcmp dLw_law_583 ?_
      refine tq_ifeq (tgt := 589) dLw_law_584 (by decide) (fun c27 => ?_) (fun c27 => ?_)
      · have hw := hw.1 c27
        refine tq_goto (tgt := 2520) dLw_law_589 (by decide) ?_
        refine tq_inc (k := (6 : Int32)) (ls' := [some (vR x0), some (vR x1), some (vR x2), some (vR x3), some (vR x4), some (vI (x5 + (6 : Int32))), some (vI v8), some (vI v17)]) dLw_law_2520 rfl tni_6 (Nat.le_of_ble_eq_true rfl) rfl ?_
        refine tq_goto (tgt := 28) dLw_law_2523 (by decide) ?_
        refine tpR.fo (ls' := [some (vR x0), some (vR x1), some (vR x2), some (vR x3), some (vR x4), some (vI (x5 + (6 : Int32))), none, none]) ?_ (And.intro rfl (And.intro rfl (And.intro rfl (And.intro rfl (And.intro rfl (And.intro rfl trivial))))))
        exact k28 _ _ _ _ _ _ _ hw
      · have hw := hw.2 c27
        refine tq_iconst (v := (0 : Int32)) dLw_law_587 tni_0 ?_
        exact tq_iret rfl (by decide) dLw_law_588 hw
  · have hw := hw.2 c21
    refine tq_iconst (v := (0 : Int32)) dLw_law_570 tni_0 ?_
    exact tq_iret rfl (by decide) dLw_law_571 hw
theorem s_Lw_law_592 {h0 : tpH} {av : List tpV} {R : Int32 → tpH → Prop} {K28 : (Option Nat) → (Option Nat) → (Option Nat) → (Option Nat) → (Option Nat) → Int32 → tpH → Prop} (k28 : ∀ (x0 : Option Nat) (x1 : Option Nat) (x2 : Option Nat) (x3 : Option Nat) (x4 : Option Nat) (x5 : Int32) (h : tpH), K28 x0 x1 x2 x3 x4 x5 h → tpR Lw_main 11 h0 av (tpOi R (fun _ _ => False)) 28 [some (vR x0), some (vR x1), some (vR x2), some (vR x3), some (vR x4), some (vI x5), none, none] [] h) : ∀ (x0 : Option Nat) (x1 : Option Nat) (x2 : Option Nat) (x3 : Option Nat) (x4 : Option Nat) (x5 : Int32) (h : tpH), w_Lw_law_592 R K28 x0 x1 x2 x3 x4 x5 h → tpR Lw_main 11 h0 av (tpOi R (fun _ _ => False)) 592 [some (vR x0), some (vR x1), some (vR x2), some (vR x3), some (vR x4), some (vI x5), none, none] [] h := by
  intro x0 x1 x2 x3 x4 x5 h hw
  unfold w_Lw_law_592 at hw
  refine tq_aload_n dLw_law_592 rfl rfl ?_
  refine tq_aload_n dLw_law_593 rfl rfl ?_
  refine tq_iload dLw_law_594 rfl ?_
  refine tq_iconst (v := (1 : Int32)) dLw_law_596 tni_1 ?_
  refine tq_iadd dLw_law_597 ?_
  obtain ⟨a1, e2, f3, hw⟩ := hw
  obtain ⟨f4, hw⟩ := hw
  refine te_iald dLw_law_598 e2 (Or.inr f3) f4 ?_
  refine tq_aload_n dLw_law_599 rfl rfl ?_
  refine tq_callSX ms_Lw_drop (by intro hz; cases hz) (dc := 8) (as := [vR x1, vI (hI h a1 (x5 + (1 : Int32)).toNatClampNeg), vR x3]) (rest := []) kLw_148 (Nat.le_of_ble_eq_true rfl) (Nat.le_of_ble_eq_true rfl) rfl rfl (Nat.le_of_ble_eq_true rfl) dLw_law_600 (s_Lw_drop hw) (fun _ _ hx => False.elim hx) (tk_i fun v6 h5 hw => ?_)
  refine tq_istore (ls' := [some (vR x0), some (vR x1), some (vR x2), some (vR x3), some (vR x4), some (vI x5), some (vI v6), none]) dLw_law_603 (Nat.le_of_ble_eq_true rfl) rfl ?_
  refine tq_aload_n dLw_law_605 rfl rfl ?_
  refine tq_aload_n dLw_law_606 rfl rfl ?_
  refine tq_iload dLw_law_607 rfl ?_
  refine tq_iconst (v := (1 : Int32)) dLw_law_609 tni_1 ?_
  refine tq_iadd dLw_law_610 ?_
  obtain ⟨f7, hw⟩ := hw
  obtain ⟨f8, hw⟩ := hw
  refine te_iald dLw_law_611 e2 (Or.inr f7) f8 ?_
  obtain ⟨a9, e10, f11, hw⟩ := hw
  refine te_callV mv_Md_drop (ci := 13) (dc := 3) (as := [vI (hI h5 a1 (x5 + (1 : Int32)).toNatClampNeg)]) (rest := []) kLw_150 rfl (Nat.le_of_ble_eq_true rfl) (Nat.le_of_ble_eq_true rfl) rfl rfl e10 f11 (Nat.le_of_ble_eq_true rfl) dLw_law_612 (s_Md_drop hw) (fun _ _ hx => False.elim hx) (tk_i fun v13 h12 hw => ?_)
  refine tq_istore (ls' := [some (vR x0), some (vR x1), some (vR x2), some (vR x3), some (vR x4), some (vI x5), some (vI v6), some (vI v13)]) dLw_law_615 (Nat.le_of_ble_eq_true rfl) rfl ?_
  refine tq_aload_n dLw_law_617 rfl rfl ?_
  obtain ⟨f14, hw⟩ := hw
  refine te_callV mv_Md_thrown (ci := 13) (dc := 0) (as := []) (rest := []) kLw_130 rfl (Nat.le_of_ble_eq_true rfl) (Nat.le_of_ble_eq_true rfl) rfl rfl e10 f14 (Nat.le_of_ble_eq_true rfl) dLw_law_618 (s_Md_thrown hw) (fun _ _ hx => False.elim hx) (tk_i fun v16 h15 hw => ?_)
  refine tq_iload dLw_law_621 rfl ?_
  refine tq_icmpeq (tgt := 628) dLw_law_623 (by decide) (fun c17 => ?_) (fun c17 => ?_)
  · have hw := hw.1 c17
    refine tq_iload dLw_law_628 rfl ?_
    refine tq_ifne (tgt := 645) dLw_law_630 (by decide) (fun c18 => ?_) (fun c18 => ?_)
    · have hw := hw.1 c18
      refine tq_goto (tgt := 2520) dLw_law_645 (by decide) ?_
      refine tq_inc (k := (6 : Int32)) (ls' := [some (vR x0), some (vR x1), some (vR x2), some (vR x3), some (vR x4), some (vI (x5 + (6 : Int32))), some (vI v6), some (vI v13)]) dLw_law_2520 rfl tni_6 (Nat.le_of_ble_eq_true rfl) rfl ?_
      refine tq_goto (tgt := 28) dLw_law_2523 (by decide) ?_
      refine tpR.fo (ls' := [some (vR x0), some (vR x1), some (vR x2), some (vR x3), some (vR x4), some (vI (x5 + (6 : Int32))), none, none]) ?_ (And.intro rfl (And.intro rfl (And.intro rfl (And.intro rfl (And.intro rfl (And.intro rfl trivial))))))
      exact k28 _ _ _ _ _ _ _ hw
    · have hw := hw.2 c18
      refine tq_aload_n dLw_law_633 rfl rfl ?_
      refine tq_iconst (v := (0 : Int32)) dLw_law_634 tni_0 ?_
      obtain ⟨a19, e20, f21, hw⟩ := hw
      obtain ⟨f22, hw⟩ := hw
      refine te_lald dLw_law_635 e20 f21 f22 ?_
      refine tq_iload dLw_law_636 rfl ?_
      refine tq_i2l dLw_law_638 ?_
      refine tq_lcmp dLw_law_639 ?_
      refine tq_ifeq (tgt := 645) dLw_law_640 (by decide) (fun c23 => ?_) (fun c23 => ?_)
      · have hw := hw.1 c23
        refine tq_goto (tgt := 2520) dLw_law_645 (by decide) ?_
        refine tq_inc (k := (6 : Int32)) (ls' := [some (vR x0), some (vR x1), some (vR x2), some (vR x3), some (vR x4), some (vI (x5 + (6 : Int32))), some (vI v6), some (vI v13)]) dLw_law_2520 rfl tni_6 (Nat.le_of_ble_eq_true rfl) rfl ?_
        refine tq_goto (tgt := 28) dLw_law_2523 (by decide) ?_
        refine tpR.fo (ls' := [some (vR x0), some (vR x1), some (vR x2), some (vR x3), some (vR x4), some (vI (x5 + (6 : Int32))), none, none]) ?_ (And.intro rfl (And.intro rfl (And.intro rfl (And.intro rfl (And.intro rfl (And.intro rfl trivial))))))
        exact k28 _ _ _ _ _ _ _ hw
      · have hw := hw.2 c23
        refine tq_iconst (v := (0 : Int32)) dLw_law_643 tni_0 ?_
        exact tq_iret rfl (by decide) dLw_law_644 hw
  · have hw := hw.2 c17
    refine tq_iconst (v := (0 : Int32)) dLw_law_626 tni_0 ?_
    exact tq_iret rfl (by decide) dLw_law_627 hw
theorem s_Lw_law_648 {h0 : tpH} {av : List tpV} {R : Int32 → tpH → Prop} {K28 : (Option Nat) → (Option Nat) → (Option Nat) → (Option Nat) → (Option Nat) → Int32 → tpH → Prop} (k28 : ∀ (x0 : Option Nat) (x1 : Option Nat) (x2 : Option Nat) (x3 : Option Nat) (x4 : Option Nat) (x5 : Int32) (h : tpH), K28 x0 x1 x2 x3 x4 x5 h → tpR Lw_main 11 h0 av (tpOi R (fun _ _ => False)) 28 [some (vR x0), some (vR x1), some (vR x2), some (vR x3), some (vR x4), some (vI x5), none, none] [] h) : ∀ (x0 : Option Nat) (x1 : Option Nat) (x2 : Option Nat) (x3 : Option Nat) (x4 : Option Nat) (x5 : Int32) (h : tpH), w_Lw_law_648 R K28 x0 x1 x2 x3 x4 x5 h → tpR Lw_main 11 h0 av (tpOi R (fun _ _ => False)) 648 [some (vR x0), some (vR x1), some (vR x2), some (vR x3), some (vR x4), some (vI x5), none, none] [] h := by
  intro x0 x1 x2 x3 x4 x5 h hw
  unfold w_Lw_law_648 at hw
  refine tq_aload_n dLw_law_648 rfl rfl ?_
  refine tq_aload_n dLw_law_649 rfl rfl ?_
  refine tq_callSX ms_Lw_seal (by intro hz; cases hz) (dc := 8) (as := [vR x1, vR x3]) (rest := []) kLw_151 (Nat.le_of_ble_eq_true rfl) (Nat.le_of_ble_eq_true rfl) rfl rfl (Nat.le_of_ble_eq_true rfl) dLw_law_650 (s_Lw_seal hw) (fun _ _ hx => False.elim hx) (tk_i fun v2 h1 hw => ?_)
  refine tq_istore (ls' := [some (vR x0), some (vR x1), some (vR x2), some (vR x3), some (vR x4), some (vI x5), some (vI v2), none]) dLw_law_653 (Nat.le_of_ble_eq_true rfl) rfl ?_
  refine tq_aload_n dLw_law_655 rfl rfl ?_
  obtain ⟨a3, e4, f5, hw⟩ := hw
  refine te_callV mv_Md_seal (ci := 13) (dc := 2) (as := []) (rest := []) kLw_154 rfl (Nat.le_of_ble_eq_true rfl) (Nat.le_of_ble_eq_true rfl) rfl rfl e4 f5 (Nat.le_of_ble_eq_true rfl) dLw_law_656 (s_Md_seal hw) (fun _ _ hx => False.elim hx) (tk_i fun v7 h6 hw => ?_)
  refine tq_istore (ls' := [some (vR x0), some (vR x1), some (vR x2), some (vR x3), some (vR x4), some (vI x5), some (vI v2), some (vI v7)]) dLw_law_659 (Nat.le_of_ble_eq_true rfl) rfl ?_
  refine tq_aload_n dLw_law_661 rfl rfl ?_
  obtain ⟨f8, hw⟩ := hw
  refine te_callV mv_Md_thrown (ci := 13) (dc := 0) (as := []) (rest := []) kLw_130 rfl (Nat.le_of_ble_eq_true rfl) (Nat.le_of_ble_eq_true rfl) rfl rfl e4 f8 (Nat.le_of_ble_eq_true rfl) dLw_law_662 (s_Md_thrown hw) (fun _ _ hx => False.elim hx) (tk_i fun v10 h9 hw => ?_)
  refine tq_iload dLw_law_665 rfl ?_
  refine tq_icmpeq (tgt := 672) dLw_law_667 (by decide) (fun c11 => ?_) (fun c11 => ?_)
  · have hw := hw.1 c11
    refine tq_iload dLw_law_672 rfl ?_
    refine tq_ifne (tgt := 689) dLw_law_674 (by decide) (fun c12 => ?_) (fun c12 => ?_)
    · have hw := hw.1 c12
      refine tq_goto (tgt := 2520) dLw_law_689 (by decide) ?_
      refine tq_inc (k := (6 : Int32)) (ls' := [some (vR x0), some (vR x1), some (vR x2), some (vR x3), some (vR x4), some (vI (x5 + (6 : Int32))), some (vI v2), some (vI v7)]) dLw_law_2520 rfl tni_6 (Nat.le_of_ble_eq_true rfl) rfl ?_
      refine tq_goto (tgt := 28) dLw_law_2523 (by decide) ?_
      refine tpR.fo (ls' := [some (vR x0), some (vR x1), some (vR x2), some (vR x3), some (vR x4), some (vI (x5 + (6 : Int32))), none, none]) ?_ (And.intro rfl (And.intro rfl (And.intro rfl (And.intro rfl (And.intro rfl (And.intro rfl trivial))))))
      exact k28 _ _ _ _ _ _ _ hw
    · have hw := hw.2 c12
      refine tq_aload_n dLw_law_677 rfl rfl ?_
      refine tq_iconst (v := (0 : Int32)) dLw_law_678 tni_0 ?_
      obtain ⟨a13, e14, f15, hw⟩ := hw
      obtain ⟨f16, hw⟩ := hw
      refine te_lald dLw_law_679 e14 f15 f16 ?_
      refine tq_iload dLw_law_680 rfl ?_
      refine tq_i2l dLw_law_682 ?_
      refine tq_lcmp dLw_law_683 ?_
      refine tq_ifeq (tgt := 689) dLw_law_684 (by decide) (fun c17 => ?_) (fun c17 => ?_)
      · have hw := hw.1 c17
        refine tq_goto (tgt := 2520) dLw_law_689 (by decide) ?_
        refine tq_inc (k := (6 : Int32)) (ls' := [some (vR x0), some (vR x1), some (vR x2), some (vR x3), some (vR x4), some (vI (x5 + (6 : Int32))), some (vI v2), some (vI v7)]) dLw_law_2520 rfl tni_6 (Nat.le_of_ble_eq_true rfl) rfl ?_
        refine tq_goto (tgt := 28) dLw_law_2523 (by decide) ?_
        refine tpR.fo (ls' := [some (vR x0), some (vR x1), some (vR x2), some (vR x3), some (vR x4), some (vI (x5 + (6 : Int32))), none, none]) ?_ (And.intro rfl (And.intro rfl (And.intro rfl (And.intro rfl (And.intro rfl (And.intro rfl trivial))))))
        exact k28 _ _ _ _ _ _ _ hw
      · have hw := hw.2 c17
        refine tq_iconst (v := (0 : Int32)) dLw_law_687 tni_0 ?_
        exact tq_iret rfl (by decide) dLw_law_688 hw
  · have hw := hw.2 c11
    refine tq_iconst (v := (0 : Int32)) dLw_law_670 tni_0 ?_
    exact tq_iret rfl (by decide) dLw_law_671 hw
theorem s_Lw_law_692 {h0 : tpH} {av : List tpV} {R : Int32 → tpH → Prop} {K28 : (Option Nat) → (Option Nat) → (Option Nat) → (Option Nat) → (Option Nat) → Int32 → tpH → Prop} (k28 : ∀ (x0 : Option Nat) (x1 : Option Nat) (x2 : Option Nat) (x3 : Option Nat) (x4 : Option Nat) (x5 : Int32) (h : tpH), K28 x0 x1 x2 x3 x4 x5 h → tpR Lw_main 11 h0 av (tpOi R (fun _ _ => False)) 28 [some (vR x0), some (vR x1), some (vR x2), some (vR x3), some (vR x4), some (vI x5), none, none] [] h) : ∀ (x0 : Option Nat) (x1 : Option Nat) (x2 : Option Nat) (x3 : Option Nat) (x4 : Option Nat) (x5 : Int32) (h : tpH), w_Lw_law_692 R K28 x0 x1 x2 x3 x4 x5 h → tpR Lw_main 11 h0 av (tpOi R (fun _ _ => False)) 692 [some (vR x0), some (vR x1), some (vR x2), some (vR x3), some (vR x4), some (vI x5), none, none] [] h := by
  intro x0 x1 x2 x3 x4 x5 h hw
  unfold w_Lw_law_692 at hw
  refine tq_aload_n dLw_law_692 rfl rfl ?_
  refine tq_aload_n dLw_law_693 rfl rfl ?_
  refine tq_iload dLw_law_694 rfl ?_
  refine tq_iconst (v := (1 : Int32)) dLw_law_696 tni_1 ?_
  refine tq_iadd dLw_law_697 ?_
  obtain ⟨a1, e2, f3, hw⟩ := hw
  obtain ⟨f4, hw⟩ := hw
  refine te_iald dLw_law_698 e2 (Or.inr f3) f4 ?_
  refine tq_aload_n dLw_law_699 rfl rfl ?_
  refine tq_iload dLw_law_700 rfl ?_
  refine tq_iconst (v := (2 : Int32)) dLw_law_702 tni_2 ?_
  refine tq_iadd dLw_law_703 ?_
  obtain ⟨f5, hw⟩ := hw
  refine te_iald dLw_law_704 e2 (Or.inr f3) f5 ?_
  refine tq_aload_n dLw_law_705 rfl rfl ?_
  refine tq_callSX ms_Lw_find (by intro hz; cases hz) (dc := 8) (as := [vR x1, vI (hI h a1 (x5 + (1 : Int32)).toNatClampNeg), vI (hI h a1 (x5 + (2 : Int32)).toNatClampNeg), vR x3]) (rest := []) kLw_155 (Nat.le_of_ble_eq_true rfl) (Nat.le_of_ble_eq_true rfl) rfl rfl (Nat.le_of_ble_eq_true rfl) dLw_law_706 (s_Lw_find hw) (fun _ _ hx => False.elim hx) (tk_i fun v7 h6 hw => ?_)
  refine tq_istore (ls' := [some (vR x0), some (vR x1), some (vR x2), some (vR x3), some (vR x4), some (vI x5), some (vI v7), none]) dLw_law_709 (Nat.le_of_ble_eq_true rfl) rfl ?_
  refine tq_aload_n dLw_law_711 rfl rfl ?_
  refine tq_aload_n dLw_law_712 rfl rfl ?_
  refine tq_iload dLw_law_713 rfl ?_
  refine tq_iconst (v := (1 : Int32)) dLw_law_715 tni_1 ?_
  refine tq_iadd dLw_law_716 ?_
  obtain ⟨f8, hw⟩ := hw
  obtain ⟨f9, hw⟩ := hw
  refine te_iald dLw_law_717 e2 (Or.inr f8) f9 ?_
  refine tq_aload_n dLw_law_718 rfl rfl ?_
  refine tq_iload dLw_law_719 rfl ?_
  refine tq_iconst (v := (2 : Int32)) dLw_law_721 tni_2 ?_
  refine tq_iadd dLw_law_722 ?_
  obtain ⟨f10, hw⟩ := hw
  refine te_iald dLw_law_723 e2 (Or.inr f8) f10 ?_
  obtain ⟨a11, e12, f13, hw⟩ := hw
  refine te_callV mv_Md_find (ci := 13) (dc := 6) (as := [vI (hI h6 a1 (x5 + (1 : Int32)).toNatClampNeg), vI (hI h6 a1 (x5 + (2 : Int32)).toNatClampNeg)]) (rest := []) kLw_157 rfl (Nat.le_of_ble_eq_true rfl) (Nat.le_of_ble_eq_true rfl) rfl rfl e12 f13 (Nat.le_of_ble_eq_true rfl) dLw_law_724 (s_Md_find hw) (fun _ _ hx => False.elim hx) (tk_i fun v15 h14 hw => ?_)
  refine tq_istore (ls' := [some (vR x0), some (vR x1), some (vR x2), some (vR x3), some (vR x4), some (vI x5), some (vI v7), some (vI v15)]) dLw_law_727 (Nat.le_of_ble_eq_true rfl) rfl ?_
  refine tq_aload_n dLw_law_729 rfl rfl ?_
  obtain ⟨f16, hw⟩ := hw
  refine te_callV mv_Md_thrown (ci := 13) (dc := 0) (as := []) (rest := []) kLw_130 rfl (Nat.le_of_ble_eq_true rfl) (Nat.le_of_ble_eq_true rfl) rfl rfl e12 f16 (Nat.le_of_ble_eq_true rfl) dLw_law_730 (s_Md_thrown hw) (fun _ _ hx => False.elim hx) (tk_i fun v18 h17 hw => ?_)
  refine tq_iload dLw_law_733 rfl ?_
  refine tq_icmpeq (tgt := 740) dLw_law_735 (by decide) (fun c19 => ?_) (fun c19 => ?_)
  · have hw := hw.1 c19
    refine tq_iload dLw_law_740 rfl ?_
    refine tq_ifne (tgt := 757) dLw_law_742 (by decide) (fun c20 => ?_) (fun c20 => ?_)
    · have hw := hw.1 c20
      refine tq_goto (tgt := 2520) dLw_law_757 (by decide) ?_
      refine tq_inc (k := (6 : Int32)) (ls' := [some (vR x0), some (vR x1), some (vR x2), some (vR x3), some (vR x4), some (vI (x5 + (6 : Int32))), some (vI v7), some (vI v15)]) dLw_law_2520 rfl tni_6 (Nat.le_of_ble_eq_true rfl) rfl ?_
      refine tq_goto (tgt := 28) dLw_law_2523 (by decide) ?_
      refine tpR.fo (ls' := [some (vR x0), some (vR x1), some (vR x2), some (vR x3), some (vR x4), some (vI (x5 + (6 : Int32))), none, none]) ?_ (And.intro rfl (And.intro rfl (And.intro rfl (And.intro rfl (And.intro rfl (And.intro rfl trivial))))))
      exact k28 _ _ _ _ _ _ _ hw
    · have hw := hw.2 c20
      refine tq_aload_n dLw_law_745 rfl rfl ?_
      refine tq_iconst (v := (0 : Int32)) dLw_law_746 tni_0 ?_
      obtain ⟨a21, e22, f23, hw⟩ := hw
      obtain ⟨f24, hw⟩ := hw
      refine te_lald dLw_law_747 e22 f23 f24 ?_
      refine tq_iload dLw_law_748 rfl ?_
      refine tq_i2l dLw_law_750 ?_
      refine tq_lcmp dLw_law_751 ?_
      refine tq_ifeq (tgt := 757) dLw_law_752 (by decide) (fun c25 => ?_) (fun c25 => ?_)
      · have hw := hw.1 c25
        refine tq_goto (tgt := 2520) dLw_law_757 (by decide) ?_
        refine tq_inc (k := (6 : Int32)) (ls' := [some (vR x0), some (vR x1), some (vR x2), some (vR x3), some (vR x4), some (vI (x5 + (6 : Int32))), some (vI v7), some (vI v15)]) dLw_law_2520 rfl tni_6 (Nat.le_of_ble_eq_true rfl) rfl ?_
        refine tq_goto (tgt := 28) dLw_law_2523 (by decide) ?_
        refine tpR.fo (ls' := [some (vR x0), some (vR x1), some (vR x2), some (vR x3), some (vR x4), some (vI (x5 + (6 : Int32))), none, none]) ?_ (And.intro rfl (And.intro rfl (And.intro rfl (And.intro rfl (And.intro rfl (And.intro rfl trivial))))))
        exact k28 _ _ _ _ _ _ _ hw
      · have hw := hw.2 c25
        refine tq_iconst (v := (0 : Int32)) dLw_law_755 tni_0 ?_
        exact tq_iret rfl (by decide) dLw_law_756 hw
  · have hw := hw.2 c19
    refine tq_iconst (v := (0 : Int32)) dLw_law_738 tni_0 ?_
    exact tq_iret rfl (by decide) dLw_law_739 hw
theorem s_Lw_law_760 {h0 : tpH} {av : List tpV} {R : Int32 → tpH → Prop} {K28 : (Option Nat) → (Option Nat) → (Option Nat) → (Option Nat) → (Option Nat) → Int32 → tpH → Prop} (k28 : ∀ (x0 : Option Nat) (x1 : Option Nat) (x2 : Option Nat) (x3 : Option Nat) (x4 : Option Nat) (x5 : Int32) (h : tpH), K28 x0 x1 x2 x3 x4 x5 h → tpR Lw_main 11 h0 av (tpOi R (fun _ _ => False)) 28 [some (vR x0), some (vR x1), some (vR x2), some (vR x3), some (vR x4), some (vI x5), none, none] [] h) : ∀ (x0 : Option Nat) (x1 : Option Nat) (x2 : Option Nat) (x3 : Option Nat) (x4 : Option Nat) (x5 : Int32) (h : tpH), w_Lw_law_760 R K28 x0 x1 x2 x3 x4 x5 h → tpR Lw_main 11 h0 av (tpOi R (fun _ _ => False)) 760 [some (vR x0), some (vR x1), some (vR x2), some (vR x3), some (vR x4), some (vI x5), none, none] [] h := by
  intro x0 x1 x2 x3 x4 x5 h hw
  unfold w_Lw_law_760 at hw
  refine tq_aload_n dLw_law_760 rfl rfl ?_
  refine tq_aload_n dLw_law_761 rfl rfl ?_
  refine tq_iload dLw_law_762 rfl ?_
  refine tq_iconst (v := (1 : Int32)) dLw_law_764 tni_1 ?_
  refine tq_iadd dLw_law_765 ?_
  obtain ⟨a1, e2, f3, hw⟩ := hw
  obtain ⟨f4, hw⟩ := hw
  refine te_iald dLw_law_766 e2 (Or.inr f3) f4 ?_
  refine tq_aload_n dLw_law_767 rfl rfl ?_
  refine tq_callSX ms_Lw_turn (by intro hz; cases hz) (dc := 8) (as := [vR x1, vI (hI h a1 (x5 + (1 : Int32)).toNatClampNeg), vR x3]) (rest := []) kLw_158 (Nat.le_of_ble_eq_true rfl) (Nat.le_of_ble_eq_true rfl) rfl rfl (Nat.le_of_ble_eq_true rfl) dLw_law_768 (s_Lw_turn hw) (fun _ _ hx => False.elim hx) (tk_i fun v6 h5 hw => ?_)
  refine tq_istore (ls' := [some (vR x0), some (vR x1), some (vR x2), some (vR x3), some (vR x4), some (vI x5), some (vI v6), none]) dLw_law_771 (Nat.le_of_ble_eq_true rfl) rfl ?_
  refine tq_aload_n dLw_law_773 rfl rfl ?_
  refine tq_aload_n dLw_law_774 rfl rfl ?_
  refine tq_iload dLw_law_775 rfl ?_
  refine tq_iconst (v := (1 : Int32)) dLw_law_777 tni_1 ?_
  refine tq_iadd dLw_law_778 ?_
  obtain ⟨f7, hw⟩ := hw
  obtain ⟨f8, hw⟩ := hw
  refine te_iald dLw_law_779 e2 (Or.inr f7) f8 ?_
  obtain ⟨a9, e10, f11, hw⟩ := hw
  refine te_callV mv_Md_turn (ci := 13) (dc := 2) (as := [vI (hI h5 a1 (x5 + (1 : Int32)).toNatClampNeg)]) (rest := []) kLw_160 rfl (Nat.le_of_ble_eq_true rfl) (Nat.le_of_ble_eq_true rfl) rfl rfl e10 f11 (Nat.le_of_ble_eq_true rfl) dLw_law_780 (s_Md_turn hw) (fun _ _ hx => False.elim hx) (tk_i fun v13 h12 hw => ?_)
  refine tq_istore (ls' := [some (vR x0), some (vR x1), some (vR x2), some (vR x3), some (vR x4), some (vI x5), some (vI v6), some (vI v13)]) dLw_law_783 (Nat.le_of_ble_eq_true rfl) rfl ?_
  refine tq_aload_n dLw_law_785 rfl rfl ?_
  obtain ⟨f14, hw⟩ := hw
  refine te_callV mv_Md_thrown (ci := 13) (dc := 0) (as := []) (rest := []) kLw_130 rfl (Nat.le_of_ble_eq_true rfl) (Nat.le_of_ble_eq_true rfl) rfl rfl e10 f14 (Nat.le_of_ble_eq_true rfl) dLw_law_786 (s_Md_thrown hw) (fun _ _ hx => False.elim hx) (tk_i fun v16 h15 hw => ?_)
  refine tq_iload dLw_law_789 rfl ?_
  refine tq_icmpeq (tgt := 796) dLw_law_791 (by decide) (fun c17 => ?_) (fun c17 => ?_)
  · have hw := hw.1 c17
    refine tq_iload dLw_law_796 rfl ?_
    refine tq_ifne (tgt := 813) dLw_law_798 (by decide) (fun c18 => ?_) (fun c18 => ?_)
    · have hw := hw.1 c18
      refine tq_goto (tgt := 2520) dLw_law_813 (by decide) ?_
      refine tq_inc (k := (6 : Int32)) (ls' := [some (vR x0), some (vR x1), some (vR x2), some (vR x3), some (vR x4), some (vI (x5 + (6 : Int32))), some (vI v6), some (vI v13)]) dLw_law_2520 rfl tni_6 (Nat.le_of_ble_eq_true rfl) rfl ?_
      refine tq_goto (tgt := 28) dLw_law_2523 (by decide) ?_
      refine tpR.fo (ls' := [some (vR x0), some (vR x1), some (vR x2), some (vR x3), some (vR x4), some (vI (x5 + (6 : Int32))), none, none]) ?_ (And.intro rfl (And.intro rfl (And.intro rfl (And.intro rfl (And.intro rfl (And.intro rfl trivial))))))
      exact k28 _ _ _ _ _ _ _ hw
    · have hw := hw.2 c18
      refine tq_aload_n dLw_law_801 rfl rfl ?_
      refine tq_iconst (v := (0 : Int32)) dLw_law_802 tni_0 ?_
      obtain ⟨a19, e20, f21, hw⟩ := hw
      obtain ⟨f22, hw⟩ := hw
      refine te_lald dLw_law_803 e20 f21 f22 ?_
      refine tq_iload dLw_law_804 rfl ?_
      refine tq_i2l dLw_law_806 ?_
      refine tq_lcmp dLw_law_807 ?_
      refine tq_ifeq (tgt := 813) dLw_law_808 (by decide) (fun c23 => ?_) (fun c23 => ?_)
      · have hw := hw.1 c23
        refine tq_goto (tgt := 2520) dLw_law_813 (by decide) ?_
        refine tq_inc (k := (6 : Int32)) (ls' := [some (vR x0), some (vR x1), some (vR x2), some (vR x3), some (vR x4), some (vI (x5 + (6 : Int32))), some (vI v6), some (vI v13)]) dLw_law_2520 rfl tni_6 (Nat.le_of_ble_eq_true rfl) rfl ?_
        refine tq_goto (tgt := 28) dLw_law_2523 (by decide) ?_
        refine tpR.fo (ls' := [some (vR x0), some (vR x1), some (vR x2), some (vR x3), some (vR x4), some (vI (x5 + (6 : Int32))), none, none]) ?_ (And.intro rfl (And.intro rfl (And.intro rfl (And.intro rfl (And.intro rfl (And.intro rfl trivial))))))
        exact k28 _ _ _ _ _ _ _ hw
      · have hw := hw.2 c23
        refine tq_iconst (v := (0 : Int32)) dLw_law_811 tni_0 ?_
        exact tq_iret rfl (by decide) dLw_law_812 hw
  · have hw := hw.2 c17
    refine tq_iconst (v := (0 : Int32)) dLw_law_794 tni_0 ?_
    exact tq_iret rfl (by decide) dLw_law_795 hw
theorem s_Lw_law_816 {h0 : tpH} {av : List tpV} {R : Int32 → tpH → Prop} {K28 : (Option Nat) → (Option Nat) → (Option Nat) → (Option Nat) → (Option Nat) → Int32 → tpH → Prop} (k28 : ∀ (x0 : Option Nat) (x1 : Option Nat) (x2 : Option Nat) (x3 : Option Nat) (x4 : Option Nat) (x5 : Int32) (h : tpH), K28 x0 x1 x2 x3 x4 x5 h → tpR Lw_main 11 h0 av (tpOi R (fun _ _ => False)) 28 [some (vR x0), some (vR x1), some (vR x2), some (vR x3), some (vR x4), some (vI x5), none, none] [] h) : ∀ (x0 : Option Nat) (x1 : Option Nat) (x2 : Option Nat) (x3 : Option Nat) (x4 : Option Nat) (x5 : Int32) (h : tpH), w_Lw_law_816 R K28 x0 x1 x2 x3 x4 x5 h → tpR Lw_main 11 h0 av (tpOi R (fun _ _ => False)) 816 [some (vR x0), some (vR x1), some (vR x2), some (vR x3), some (vR x4), some (vI x5), none, none] [] h := by
  intro x0 x1 x2 x3 x4 x5 h hw
  unfold w_Lw_law_816 at hw
  refine tq_aload_n dLw_law_816 rfl rfl ?_
  refine tq_aload_n dLw_law_817 rfl rfl ?_
  refine tq_iload dLw_law_818 rfl ?_
  refine tq_iconst (v := (1 : Int32)) dLw_law_820 tni_1 ?_
  refine tq_iadd dLw_law_821 ?_
  obtain ⟨a1, e2, f3, hw⟩ := hw
  obtain ⟨f4, hw⟩ := hw
  refine te_iald dLw_law_822 e2 (Or.inr f3) f4 ?_
  refine tq_aload_n dLw_law_823 rfl rfl ?_
  refine tq_iload dLw_law_824 rfl ?_
  refine tq_iconst (v := (2 : Int32)) dLw_law_826 tni_2 ?_
  refine tq_iadd dLw_law_827 ?_
  obtain ⟨f5, hw⟩ := hw
  refine te_iald dLw_law_828 e2 (Or.inr f3) f5 ?_
  refine tq_aload_n dLw_law_829 rfl rfl ?_
  refine tq_callSX ms_Lw_apply (by intro hz; cases hz) (dc := 8) (as := [vR x1, vI (hI h a1 (x5 + (1 : Int32)).toNatClampNeg), vI (hI h a1 (x5 + (2 : Int32)).toNatClampNeg), vR x3]) (rest := []) kLw_161 (Nat.le_of_ble_eq_true rfl) (Nat.le_of_ble_eq_true rfl) rfl rfl (Nat.le_of_ble_eq_true rfl) dLw_law_830 (s_Lw_apply hw) (fun _ _ hx => False.elim hx) (tk_i fun v7 h6 hw => ?_)
  refine tq_istore (ls' := [some (vR x0), some (vR x1), some (vR x2), some (vR x3), some (vR x4), some (vI x5), some (vI v7), none]) dLw_law_833 (Nat.le_of_ble_eq_true rfl) rfl ?_
  refine tq_aload_n dLw_law_835 rfl rfl ?_
  refine tq_aload_n dLw_law_836 rfl rfl ?_
  refine tq_iload dLw_law_837 rfl ?_
  refine tq_iconst (v := (1 : Int32)) dLw_law_839 tni_1 ?_
  refine tq_iadd dLw_law_840 ?_
  obtain ⟨f8, hw⟩ := hw
  obtain ⟨f9, hw⟩ := hw
  refine te_iald dLw_law_841 e2 (Or.inr f8) f9 ?_
  refine tq_aload_n dLw_law_842 rfl rfl ?_
  refine tq_iload dLw_law_843 rfl ?_
  refine tq_iconst (v := (2 : Int32)) dLw_law_845 tni_2 ?_
  refine tq_iadd dLw_law_846 ?_
  obtain ⟨f10, hw⟩ := hw
  refine te_iald dLw_law_847 e2 (Or.inr f8) f10 ?_
  obtain ⟨a11, e12, f13, hw⟩ := hw
  refine te_callV mv_Md_apply (ci := 13) (dc := 6) (as := [vI (hI h6 a1 (x5 + (1 : Int32)).toNatClampNeg), vI (hI h6 a1 (x5 + (2 : Int32)).toNatClampNeg)]) (rest := []) kLw_163 rfl (Nat.le_of_ble_eq_true rfl) (Nat.le_of_ble_eq_true rfl) rfl rfl e12 f13 (Nat.le_of_ble_eq_true rfl) dLw_law_848 (s_Md_apply hw) (fun _ _ hx => False.elim hx) (tk_i fun v15 h14 hw => ?_)
  refine tq_istore (ls' := [some (vR x0), some (vR x1), some (vR x2), some (vR x3), some (vR x4), some (vI x5), some (vI v7), some (vI v15)]) dLw_law_851 (Nat.le_of_ble_eq_true rfl) rfl ?_
  refine tq_aload_n dLw_law_853 rfl rfl ?_
  obtain ⟨f16, hw⟩ := hw
  refine te_callV mv_Md_thrown (ci := 13) (dc := 0) (as := []) (rest := []) kLw_130 rfl (Nat.le_of_ble_eq_true rfl) (Nat.le_of_ble_eq_true rfl) rfl rfl e12 f16 (Nat.le_of_ble_eq_true rfl) dLw_law_854 (s_Md_thrown hw) (fun _ _ hx => False.elim hx) (tk_i fun v18 h17 hw => ?_)
  refine tq_iload dLw_law_857 rfl ?_
  refine tq_icmpeq (tgt := 864) dLw_law_859 (by decide) (fun c19 => ?_) (fun c19 => ?_)
  · have hw := hw.1 c19
    refine tq_iload dLw_law_864 rfl ?_
    refine tq_ifne (tgt := 881) dLw_law_866 (by decide) (fun c20 => ?_) (fun c20 => ?_)
    · have hw := hw.1 c20
      refine tq_goto (tgt := 2520) dLw_law_881 (by decide) ?_
      refine tq_inc (k := (6 : Int32)) (ls' := [some (vR x0), some (vR x1), some (vR x2), some (vR x3), some (vR x4), some (vI (x5 + (6 : Int32))), some (vI v7), some (vI v15)]) dLw_law_2520 rfl tni_6 (Nat.le_of_ble_eq_true rfl) rfl ?_
      refine tq_goto (tgt := 28) dLw_law_2523 (by decide) ?_
      refine tpR.fo (ls' := [some (vR x0), some (vR x1), some (vR x2), some (vR x3), some (vR x4), some (vI (x5 + (6 : Int32))), none, none]) ?_ (And.intro rfl (And.intro rfl (And.intro rfl (And.intro rfl (And.intro rfl (And.intro rfl trivial))))))
      exact k28 _ _ _ _ _ _ _ hw
    · have hw := hw.2 c20
      refine tq_aload_n dLw_law_869 rfl rfl ?_
      refine tq_iconst (v := (0 : Int32)) dLw_law_870 tni_0 ?_
      obtain ⟨a21, e22, f23, hw⟩ := hw
      obtain ⟨f24, hw⟩ := hw
      refine te_lald dLw_law_871 e22 f23 f24 ?_
      refine tq_iload dLw_law_872 rfl ?_
      refine tq_i2l dLw_law_874 ?_
      refine tq_lcmp dLw_law_875 ?_
      refine tq_ifeq (tgt := 881) dLw_law_876 (by decide) (fun c25 => ?_) (fun c25 => ?_)
      · have hw := hw.1 c25
        refine tq_goto (tgt := 2520) dLw_law_881 (by decide) ?_
        refine tq_inc (k := (6 : Int32)) (ls' := [some (vR x0), some (vR x1), some (vR x2), some (vR x3), some (vR x4), some (vI (x5 + (6 : Int32))), some (vI v7), some (vI v15)]) dLw_law_2520 rfl tni_6 (Nat.le_of_ble_eq_true rfl) rfl ?_
        refine tq_goto (tgt := 28) dLw_law_2523 (by decide) ?_
        refine tpR.fo (ls' := [some (vR x0), some (vR x1), some (vR x2), some (vR x3), some (vR x4), some (vI (x5 + (6 : Int32))), none, none]) ?_ (And.intro rfl (And.intro rfl (And.intro rfl (And.intro rfl (And.intro rfl (And.intro rfl trivial))))))
        exact k28 _ _ _ _ _ _ _ hw
      · have hw := hw.2 c25
        refine tq_iconst (v := (0 : Int32)) dLw_law_879 tni_0 ?_
        exact tq_iret rfl (by decide) dLw_law_880 hw
  · have hw := hw.2 c19
    refine tq_iconst (v := (0 : Int32)) dLw_law_862 tni_0 ?_
    exact tq_iret rfl (by decide) dLw_law_863 hw
theorem s_Lw_law_884 {h0 : tpH} {av : List tpV} {R : Int32 → tpH → Prop} {K28 : (Option Nat) → (Option Nat) → (Option Nat) → (Option Nat) → (Option Nat) → Int32 → tpH → Prop} (k28 : ∀ (x0 : Option Nat) (x1 : Option Nat) (x2 : Option Nat) (x3 : Option Nat) (x4 : Option Nat) (x5 : Int32) (h : tpH), K28 x0 x1 x2 x3 x4 x5 h → tpR Lw_main 11 h0 av (tpOi R (fun _ _ => False)) 28 [some (vR x0), some (vR x1), some (vR x2), some (vR x3), some (vR x4), some (vI x5), none, none] [] h) : ∀ (x0 : Option Nat) (x1 : Option Nat) (x2 : Option Nat) (x3 : Option Nat) (x4 : Option Nat) (x5 : Int32) (h : tpH), w_Lw_law_884 R K28 x0 x1 x2 x3 x4 x5 h → tpR Lw_main 11 h0 av (tpOi R (fun _ _ => False)) 884 [some (vR x0), some (vR x1), some (vR x2), some (vR x3), some (vR x4), some (vI x5), none, none] [] h := by
  intro x0 x1 x2 x3 x4 x5 h hw
  unfold w_Lw_law_884 at hw
  refine tq_aload_n dLw_law_884 rfl rfl ?_
  obtain ⟨a1, e2, f3, hw⟩ := hw
  refine te_callV mv_TP_fuzz (ci := 12) (dc := 0) (as := []) (rest := []) kLw_164 rfl (Nat.le_of_ble_eq_true rfl) (Nat.le_of_ble_eq_true rfl) rfl rfl e2 f3 (Nat.le_of_ble_eq_true rfl) dLw_law_885 (s_TP_fuzz hw) (fun _ _ hx => False.elim hx) (tk_i fun v5 h4 hw => ?_)
  refine tq_aload_n dLw_law_888 rfl rfl ?_
  obtain ⟨a6, e7, f8, hw⟩ := hw
  refine te_callV mv_Md_fuzz (ci := 13) (dc := 0) (as := []) (rest := [vI v5]) kLw_167 rfl (Nat.le_of_ble_eq_true rfl) (Nat.le_of_ble_eq_true rfl) rfl rfl e7 f8 (Nat.le_of_ble_eq_true rfl) dLw_law_889 (s_Md_fuzz hw) (fun _ _ hx => False.elim hx) (tk_i fun v10 h9 hw => ?_)
  refine tq_icmpeq (tgt := 2520) dLw_law_892 (by decide) (fun c11 => ?_) (fun c11 => ?_)
  · have hw := hw.1 c11
    refine tq_inc (k := (6 : Int32)) (ls' := [some (vR x0), some (vR x1), some (vR x2), some (vR x3), some (vR x4), some (vI (x5 + (6 : Int32))), none, none]) dLw_law_2520 rfl tni_6 (Nat.le_of_ble_eq_true rfl) rfl ?_
    refine tq_goto (tgt := 28) dLw_law_2523 (by decide) ?_
    refine tpR.fo (ls' := [some (vR x0), some (vR x1), some (vR x2), some (vR x3), some (vR x4), some (vI (x5 + (6 : Int32))), none, none]) ?_ (And.intro rfl (And.intro rfl (And.intro rfl (And.intro rfl (And.intro rfl (And.intro rfl trivial))))))
    exact k28 _ _ _ _ _ _ _ hw
  · have hw := hw.2 c11
    refine tq_iconst (v := (0 : Int32)) dLw_law_895 tni_0 ?_
    exact tq_iret rfl (by decide) dLw_law_896 hw
theorem s_Lw_law_897 {h0 : tpH} {av : List tpV} {R : Int32 → tpH → Prop} {K28 : (Option Nat) → (Option Nat) → (Option Nat) → (Option Nat) → (Option Nat) → Int32 → tpH → Prop} (k28 : ∀ (x0 : Option Nat) (x1 : Option Nat) (x2 : Option Nat) (x3 : Option Nat) (x4 : Option Nat) (x5 : Int32) (h : tpH), K28 x0 x1 x2 x3 x4 x5 h → tpR Lw_main 11 h0 av (tpOi R (fun _ _ => False)) 28 [some (vR x0), some (vR x1), some (vR x2), some (vR x3), some (vR x4), some (vI x5), none, none] [] h) : ∀ (x0 : Option Nat) (x1 : Option Nat) (x2 : Option Nat) (x3 : Option Nat) (x4 : Option Nat) (x5 : Int32) (h : tpH), w_Lw_law_897 R K28 x0 x1 x2 x3 x4 x5 h → tpR Lw_main 11 h0 av (tpOi R (fun _ _ => False)) 897 [some (vR x0), some (vR x1), some (vR x2), some (vR x3), some (vR x4), some (vI x5), none, none] [] h := by
  intro x0 x1 x2 x3 x4 x5 h hw
  unfold w_Lw_law_897 at hw
  refine tq_aload_n dLw_law_897 rfl rfl ?_
  refine tq_aload_n dLw_law_898 rfl rfl ?_
  refine tq_iload dLw_law_899 rfl ?_
  refine tq_iconst (v := (1 : Int32)) dLw_law_901 tni_1 ?_
  refine tq_iadd dLw_law_902 ?_
  obtain ⟨a1, e2, f3, hw⟩ := hw
  obtain ⟨f4, hw⟩ := hw
  refine te_iald dLw_law_903 e2 (Or.inr f3) f4 ?_
  refine tq_aload_n dLw_law_904 rfl rfl ?_
  refine tq_iload dLw_law_905 rfl ?_
  refine tq_iconst (v := (2 : Int32)) dLw_law_907 tni_2 ?_
  refine tq_iadd dLw_law_908 ?_
  obtain ⟨f5, hw⟩ := hw
  refine te_iald dLw_law_909 e2 (Or.inr f3) f5 ?_
  refine tq_aload_n dLw_law_910 rfl rfl ?_
  refine tq_callSX ms_Lw_setPolicy (by intro hz; cases hz) (dc := 7) (as := [vR x1, vI (hI h a1 (x5 + (1 : Int32)).toNatClampNeg), vI (hI h a1 (x5 + (2 : Int32)).toNatClampNeg), vR x3]) (rest := []) kLw_168 (Nat.le_of_ble_eq_true rfl) (Nat.le_of_ble_eq_true rfl) rfl rfl (Nat.le_of_ble_eq_true rfl) dLw_law_911 (s_Lw_setPolicy hw) (fun _ _ hx => False.elim hx) (tk_i fun v7 h6 hw => ?_)
  refine tq_istore (ls' := [some (vR x0), some (vR x1), some (vR x2), some (vR x3), some (vR x4), some (vI x5), some (vI v7), none]) dLw_law_914 (Nat.le_of_ble_eq_true rfl) rfl ?_
  refine tq_aload_n dLw_law_916 rfl rfl ?_
  refine tq_aload_n dLw_law_917 rfl rfl ?_
  refine tq_iload dLw_law_918 rfl ?_
  refine tq_iconst (v := (1 : Int32)) dLw_law_920 tni_1 ?_
  refine tq_iadd dLw_law_921 ?_
  obtain ⟨f8, hw⟩ := hw
  obtain ⟨f9, hw⟩ := hw
  refine te_iald dLw_law_922 e2 (Or.inr f8) f9 ?_
  refine tq_aload_n dLw_law_923 rfl rfl ?_
  refine tq_iload dLw_law_924 rfl ?_
  refine tq_iconst (v := (2 : Int32)) dLw_law_926 tni_2 ?_
  refine tq_iadd dLw_law_927 ?_
  obtain ⟨f10, hw⟩ := hw
  refine te_iald dLw_law_928 e2 (Or.inr f8) f10 ?_
  obtain ⟨a11, e12, f13, hw⟩ := hw
  refine te_callV mv_Md_setPolicy (ci := 13) (dc := 1) (as := [vI (hI h6 a1 (x5 + (1 : Int32)).toNatClampNeg), vI (hI h6 a1 (x5 + (2 : Int32)).toNatClampNeg)]) (rest := []) kLw_170 rfl (Nat.le_of_ble_eq_true rfl) (Nat.le_of_ble_eq_true rfl) rfl rfl e12 f13 (Nat.le_of_ble_eq_true rfl) dLw_law_929 (s_Md_setPolicy hw) (fun _ _ hx => False.elim hx) (tk_i fun v15 h14 hw => ?_)
  refine tq_istore (ls' := [some (vR x0), some (vR x1), some (vR x2), some (vR x3), some (vR x4), some (vI x5), some (vI v7), some (vI v15)]) dLw_law_932 (Nat.le_of_ble_eq_true rfl) rfl ?_
  refine tq_aload_n dLw_law_934 rfl rfl ?_
  obtain ⟨f16, hw⟩ := hw
  refine te_callV mv_Md_thrown (ci := 13) (dc := 0) (as := []) (rest := []) kLw_130 rfl (Nat.le_of_ble_eq_true rfl) (Nat.le_of_ble_eq_true rfl) rfl rfl e12 f16 (Nat.le_of_ble_eq_true rfl) dLw_law_935 (s_Md_thrown hw) (fun _ _ hx => False.elim hx) (tk_i fun v18 h17 hw => ?_)
  refine tq_iload dLw_law_938 rfl ?_
  refine tq_icmpeq (tgt := 945) dLw_law_940 (by decide) (fun c19 => ?_) (fun c19 => ?_)
  · have hw := hw.1 c19
    refine tq_iload dLw_law_945 rfl ?_
    refine tq_ifne (tgt := 962) dLw_law_947 (by decide) (fun c20 => ?_) (fun c20 => ?_)
    · have hw := hw.1 c20
      refine tq_goto (tgt := 2520) dLw_law_962 (by decide) ?_
      refine tq_inc (k := (6 : Int32)) (ls' := [some (vR x0), some (vR x1), some (vR x2), some (vR x3), some (vR x4), some (vI (x5 + (6 : Int32))), some (vI v7), some (vI v15)]) dLw_law_2520 rfl tni_6 (Nat.le_of_ble_eq_true rfl) rfl ?_
      refine tq_goto (tgt := 28) dLw_law_2523 (by decide) ?_
      refine tpR.fo (ls' := [some (vR x0), some (vR x1), some (vR x2), some (vR x3), some (vR x4), some (vI (x5 + (6 : Int32))), none, none]) ?_ (And.intro rfl (And.intro rfl (And.intro rfl (And.intro rfl (And.intro rfl (And.intro rfl trivial))))))
      exact k28 _ _ _ _ _ _ _ hw
    · have hw := hw.2 c20
      refine tq_aload_n dLw_law_950 rfl rfl ?_
      refine tq_iconst (v := (0 : Int32)) dLw_law_951 tni_0 ?_
      obtain ⟨a21, e22, f23, hw⟩ := hw
      obtain ⟨f24, hw⟩ := hw
      refine te_lald dLw_law_952 e22 f23 f24 ?_
      refine tq_iload dLw_law_953 rfl ?_
      refine tq_i2l dLw_law_955 ?_
      refine tq_lcmp dLw_law_956 ?_
      refine tq_ifeq (tgt := 962) dLw_law_957 (by decide) (fun c25 => ?_) (fun c25 => ?_)
      · have hw := hw.1 c25
        refine tq_goto (tgt := 2520) dLw_law_962 (by decide) ?_
        refine tq_inc (k := (6 : Int32)) (ls' := [some (vR x0), some (vR x1), some (vR x2), some (vR x3), some (vR x4), some (vI (x5 + (6 : Int32))), some (vI v7), some (vI v15)]) dLw_law_2520 rfl tni_6 (Nat.le_of_ble_eq_true rfl) rfl ?_
        refine tq_goto (tgt := 28) dLw_law_2523 (by decide) ?_
        refine tpR.fo (ls' := [some (vR x0), some (vR x1), some (vR x2), some (vR x3), some (vR x4), some (vI (x5 + (6 : Int32))), none, none]) ?_ (And.intro rfl (And.intro rfl (And.intro rfl (And.intro rfl (And.intro rfl (And.intro rfl trivial))))))
        exact k28 _ _ _ _ _ _ _ hw
      · have hw := hw.2 c25
        refine tq_iconst (v := (0 : Int32)) dLw_law_960 tni_0 ?_
        exact tq_iret rfl (by decide) dLw_law_961 hw
  · have hw := hw.2 c19
    refine tq_iconst (v := (0 : Int32)) dLw_law_943 tni_0 ?_
    exact tq_iret rfl (by decide) dLw_law_944 hw
theorem s_Lw_law_965 {h0 : tpH} {av : List tpV} {R : Int32 → tpH → Prop} {K28 : (Option Nat) → (Option Nat) → (Option Nat) → (Option Nat) → (Option Nat) → Int32 → tpH → Prop} (k28 : ∀ (x0 : Option Nat) (x1 : Option Nat) (x2 : Option Nat) (x3 : Option Nat) (x4 : Option Nat) (x5 : Int32) (h : tpH), K28 x0 x1 x2 x3 x4 x5 h → tpR Lw_main 11 h0 av (tpOi R (fun _ _ => False)) 28 [some (vR x0), some (vR x1), some (vR x2), some (vR x3), some (vR x4), some (vI x5), none, none] [] h) : ∀ (x0 : Option Nat) (x1 : Option Nat) (x2 : Option Nat) (x3 : Option Nat) (x4 : Option Nat) (x5 : Int32) (h : tpH), w_Lw_law_965 R K28 x0 x1 x2 x3 x4 x5 h → tpR Lw_main 11 h0 av (tpOi R (fun _ _ => False)) 965 [some (vR x0), some (vR x1), some (vR x2), some (vR x3), some (vR x4), some (vI x5), none, none] [] h := by
  intro x0 x1 x2 x3 x4 x5 h hw
  unfold w_Lw_law_965 at hw
  refine tq_aload_n dLw_law_965 rfl rfl ?_
  refine tq_aload_n dLw_law_966 rfl rfl ?_
  refine tq_iload dLw_law_967 rfl ?_
  refine tq_iconst (v := (1 : Int32)) dLw_law_969 tni_1 ?_
  refine tq_iadd dLw_law_970 ?_
  obtain ⟨a1, e2, f3, hw⟩ := hw
  obtain ⟨f4, hw⟩ := hw
  refine te_iald dLw_law_971 e2 (Or.inr f3) f4 ?_
  refine tq_aload_n dLw_law_972 rfl rfl ?_
  refine tq_iload dLw_law_973 rfl ?_
  refine tq_iconst (v := (2 : Int32)) dLw_law_975 tni_2 ?_
  refine tq_iadd dLw_law_976 ?_
  obtain ⟨f5, hw⟩ := hw
  refine te_iald dLw_law_977 e2 (Or.inr f3) f5 ?_
  refine tq_aload_n dLw_law_978 rfl rfl ?_
  refine tq_iload dLw_law_979 rfl ?_
  refine tq_iconst (v := (3 : Int32)) dLw_law_981 tni_3 ?_
  refine tq_iadd dLw_law_982 ?_
  obtain ⟨f6, hw⟩ := hw
  refine te_iald dLw_law_983 e2 (Or.inr f3) f6 ?_
  refine tq_aload_n dLw_law_984 rfl rfl ?_
  refine tq_callSX ms_Lw_merge (by intro hz; cases hz) (dc := 10) (as := [vR x1, vI (hI h a1 (x5 + (1 : Int32)).toNatClampNeg), vI (hI h a1 (x5 + (2 : Int32)).toNatClampNeg), vI (hI h a1 (x5 + (3 : Int32)).toNatClampNeg), vR x3]) (rest := []) kLw_171 (Nat.le_of_ble_eq_true rfl) (Nat.le_of_ble_eq_true rfl) rfl rfl (Nat.le_of_ble_eq_true rfl) dLw_law_985 (s_Lw_merge hw) (fun _ _ hx => False.elim hx) (tk_i fun v8 h7 hw => ?_)
  refine tq_istore (ls' := [some (vR x0), some (vR x1), some (vR x2), some (vR x3), some (vR x4), some (vI x5), some (vI v8), none]) dLw_law_988 (Nat.le_of_ble_eq_true rfl) rfl ?_
  refine tq_aload_n dLw_law_990 rfl rfl ?_
  refine tq_aload_n dLw_law_991 rfl rfl ?_
  refine tq_iload dLw_law_992 rfl ?_
  refine tq_iconst (v := (1 : Int32)) dLw_law_994 tni_1 ?_
  refine tq_iadd dLw_law_995 ?_
  obtain ⟨f9, hw⟩ := hw
  obtain ⟨f10, hw⟩ := hw
  refine te_iald dLw_law_996 e2 (Or.inr f9) f10 ?_
  refine tq_aload_n dLw_law_997 rfl rfl ?_
  refine tq_iload dLw_law_998 rfl ?_
  refine tq_iconst (v := (2 : Int32)) dLw_law_1000 tni_2 ?_
  refine tq_iadd dLw_law_1001 ?_
  obtain ⟨f11, hw⟩ := hw
  refine te_iald dLw_law_1002 e2 (Or.inr f9) f11 ?_
  refine tq_aload_n dLw_law_1003 rfl rfl ?_
  refine tq_iload dLw_law_1004 rfl ?_
  refine tq_iconst (v := (3 : Int32)) dLw_law_1006 tni_3 ?_
  refine tq_iadd dLw_law_1007 ?_
  obtain ⟨f12, hw⟩ := hw
  refine te_iald dLw_law_1008 e2 (Or.inr f9) f12 ?_
  obtain ⟨a13, e14, f15, hw⟩ := hw
  refine te_callV mv_Md_merge (ci := 13) (dc := 8) (as := [vI (hI h7 a1 (x5 + (1 : Int32)).toNatClampNeg), vI (hI h7 a1 (x5 + (2 : Int32)).toNatClampNeg), vI (hI h7 a1 (x5 + (3 : Int32)).toNatClampNeg)]) (rest := []) kLw_173 rfl (Nat.le_of_ble_eq_true rfl) (Nat.le_of_ble_eq_true rfl) rfl rfl e14 f15 (Nat.le_of_ble_eq_true rfl) dLw_law_1009 (s_Md_merge hw) (fun _ _ hx => False.elim hx) (tk_i fun v17 h16 hw => ?_)
  refine tq_istore (ls' := [some (vR x0), some (vR x1), some (vR x2), some (vR x3), some (vR x4), some (vI x5), some (vI v8), some (vI v17)]) dLw_law_1012 (Nat.le_of_ble_eq_true rfl) rfl ?_
  refine tq_aload_n dLw_law_1014 rfl rfl ?_
  obtain ⟨f18, hw⟩ := hw
  refine te_callV mv_Md_thrown (ci := 13) (dc := 0) (as := []) (rest := []) kLw_130 rfl (Nat.le_of_ble_eq_true rfl) (Nat.le_of_ble_eq_true rfl) rfl rfl e14 f18 (Nat.le_of_ble_eq_true rfl) dLw_law_1015 (s_Md_thrown hw) (fun _ _ hx => False.elim hx) (tk_i fun v20 h19 hw => ?_)
  refine tq_iload dLw_law_1018 rfl ?_
  refine tq_icmpeq (tgt := 1025) dLw_law_1020 (by decide) (fun c21 => ?_) (fun c21 => ?_)
  · have hw := hw.1 c21
    refine tq_iload dLw_law_1025 rfl ?_
    refine tq_ifne (tgt := 1042) dLw_law_1027 (by decide) (fun c22 => ?_) (fun c22 => ?_)
    · have hw := hw.1 c22
      refine tq_goto (tgt := 2520) dLw_law_1042 (by decide) ?_
      refine tq_inc (k := (6 : Int32)) (ls' := [some (vR x0), some (vR x1), some (vR x2), some (vR x3), some (vR x4), some (vI (x5 + (6 : Int32))), some (vI v8), some (vI v17)]) dLw_law_2520 rfl tni_6 (Nat.le_of_ble_eq_true rfl) rfl ?_
      refine tq_goto (tgt := 28) dLw_law_2523 (by decide) ?_
      refine tpR.fo (ls' := [some (vR x0), some (vR x1), some (vR x2), some (vR x3), some (vR x4), some (vI (x5 + (6 : Int32))), none, none]) ?_ (And.intro rfl (And.intro rfl (And.intro rfl (And.intro rfl (And.intro rfl (And.intro rfl trivial))))))
      exact k28 _ _ _ _ _ _ _ hw
    · have hw := hw.2 c22
      refine tq_aload_n dLw_law_1030 rfl rfl ?_
      refine tq_iconst (v := (0 : Int32)) dLw_law_1031 tni_0 ?_
      obtain ⟨a23, e24, f25, hw⟩ := hw
      obtain ⟨f26, hw⟩ := hw
      refine te_lald dLw_law_1032 e24 f25 f26 ?_
      refine tq_iload dLw_law_1033 rfl ?_
      refine tq_i2l dLw_law_1035 ?_
      refine tq_lcmp dLw_law_1036 ?_
      refine tq_ifeq (tgt := 1042) dLw_law_1037 (by decide) (fun c27 => ?_) (fun c27 => ?_)
      · have hw := hw.1 c27
        refine tq_goto (tgt := 2520) dLw_law_1042 (by decide) ?_
        refine tq_inc (k := (6 : Int32)) (ls' := [some (vR x0), some (vR x1), some (vR x2), some (vR x3), some (vR x4), some (vI (x5 + (6 : Int32))), some (vI v8), some (vI v17)]) dLw_law_2520 rfl tni_6 (Nat.le_of_ble_eq_true rfl) rfl ?_
        refine tq_goto (tgt := 28) dLw_law_2523 (by decide) ?_
        refine tpR.fo (ls' := [some (vR x0), some (vR x1), some (vR x2), some (vR x3), some (vR x4), some (vI (x5 + (6 : Int32))), none, none]) ?_ (And.intro rfl (And.intro rfl (And.intro rfl (And.intro rfl (And.intro rfl (And.intro rfl trivial))))))
        exact k28 _ _ _ _ _ _ _ hw
      · have hw := hw.2 c27
        refine tq_iconst (v := (0 : Int32)) dLw_law_1040 tni_0 ?_
        exact tq_iret rfl (by decide) dLw_law_1041 hw
  · have hw := hw.2 c21
    refine tq_iconst (v := (0 : Int32)) dLw_law_1023 tni_0 ?_
    exact tq_iret rfl (by decide) dLw_law_1024 hw
theorem s_Lw_law_1045 {h0 : tpH} {av : List tpV} {R : Int32 → tpH → Prop} {K28 : (Option Nat) → (Option Nat) → (Option Nat) → (Option Nat) → (Option Nat) → Int32 → tpH → Prop} (k28 : ∀ (x0 : Option Nat) (x1 : Option Nat) (x2 : Option Nat) (x3 : Option Nat) (x4 : Option Nat) (x5 : Int32) (h : tpH), K28 x0 x1 x2 x3 x4 x5 h → tpR Lw_main 11 h0 av (tpOi R (fun _ _ => False)) 28 [some (vR x0), some (vR x1), some (vR x2), some (vR x3), some (vR x4), some (vI x5), none, none] [] h) : ∀ (x0 : Option Nat) (x1 : Option Nat) (x2 : Option Nat) (x3 : Option Nat) (x4 : Option Nat) (x5 : Int32) (h : tpH), w_Lw_law_1045 R K28 x0 x1 x2 x3 x4 x5 h → tpR Lw_main 11 h0 av (tpOi R (fun _ _ => False)) 1045 [some (vR x0), some (vR x1), some (vR x2), some (vR x3), some (vR x4), some (vI x5), none, none] [] h := by
  intro x0 x1 x2 x3 x4 x5 h hw
  unfold w_Lw_law_1045 at hw
  refine tq_aload_n dLw_law_1045 rfl rfl ?_
  refine tq_aload_n dLw_law_1046 rfl rfl ?_
  refine tq_iload dLw_law_1047 rfl ?_
  refine tq_iconst (v := (1 : Int32)) dLw_law_1049 tni_1 ?_
  refine tq_iadd dLw_law_1050 ?_
  obtain ⟨a1, e2, f3, hw⟩ := hw
  obtain ⟨f4, hw⟩ := hw
  refine te_iald dLw_law_1051 e2 (Or.inr f3) f4 ?_
  refine tq_aload_n dLw_law_1052 rfl rfl ?_
  refine tq_iload dLw_law_1053 rfl ?_
  refine tq_iconst (v := (2 : Int32)) dLw_law_1055 tni_2 ?_
  refine tq_iadd dLw_law_1056 ?_
  obtain ⟨f5, hw⟩ := hw
  refine te_iald dLw_law_1057 e2 (Or.inr f3) f5 ?_
  refine tq_aload_n dLw_law_1058 rfl rfl ?_
  refine tq_iload dLw_law_1059 rfl ?_
  refine tq_iconst (v := (3 : Int32)) dLw_law_1061 tni_3 ?_
  refine tq_iadd dLw_law_1062 ?_
  obtain ⟨f6, hw⟩ := hw
  refine te_iald dLw_law_1063 e2 (Or.inr f3) f6 ?_
  refine tq_aload_n dLw_law_1064 rfl rfl ?_
  refine tq_callSX ms_Lw_version (by intro hz; cases hz) (dc := 9) (as := [vR x1, vI (hI h a1 (x5 + (1 : Int32)).toNatClampNeg), vI (hI h a1 (x5 + (2 : Int32)).toNatClampNeg), vI (hI h a1 (x5 + (3 : Int32)).toNatClampNeg), vR x3]) (rest := []) kLw_174 (Nat.le_of_ble_eq_true rfl) (Nat.le_of_ble_eq_true rfl) rfl rfl (Nat.le_of_ble_eq_true rfl) dLw_law_1065 (s_Lw_version hw) (fun _ _ hx => False.elim hx) (tk_i fun v8 h7 hw => ?_)
  refine tq_istore (ls' := [some (vR x0), some (vR x1), some (vR x2), some (vR x3), some (vR x4), some (vI x5), some (vI v8), none]) dLw_law_1068 (Nat.le_of_ble_eq_true rfl) rfl ?_
  refine tq_aload_n dLw_law_1070 rfl rfl ?_
  refine tq_aload_n dLw_law_1071 rfl rfl ?_
  refine tq_iload dLw_law_1072 rfl ?_
  refine tq_iconst (v := (1 : Int32)) dLw_law_1074 tni_1 ?_
  refine tq_iadd dLw_law_1075 ?_
  obtain ⟨f9, hw⟩ := hw
  obtain ⟨f10, hw⟩ := hw
  refine te_iald dLw_law_1076 e2 (Or.inr f9) f10 ?_
  refine tq_aload_n dLw_law_1077 rfl rfl ?_
  refine tq_iload dLw_law_1078 rfl ?_
  refine tq_iconst (v := (2 : Int32)) dLw_law_1080 tni_2 ?_
  refine tq_iadd dLw_law_1081 ?_
  obtain ⟨f11, hw⟩ := hw
  refine te_iald dLw_law_1082 e2 (Or.inr f9) f11 ?_
  refine tq_aload_n dLw_law_1083 rfl rfl ?_
  refine tq_iload dLw_law_1084 rfl ?_
  refine tq_iconst (v := (3 : Int32)) dLw_law_1086 tni_3 ?_
  refine tq_iadd dLw_law_1087 ?_
  obtain ⟨f12, hw⟩ := hw
  refine te_iald dLw_law_1088 e2 (Or.inr f9) f12 ?_
  obtain ⟨a13, e14, f15, hw⟩ := hw
  refine te_callV mv_Md_version (ci := 13) (dc := 2) (as := [vI (hI h7 a1 (x5 + (1 : Int32)).toNatClampNeg), vI (hI h7 a1 (x5 + (2 : Int32)).toNatClampNeg), vI (hI h7 a1 (x5 + (3 : Int32)).toNatClampNeg)]) (rest := []) kLw_176 rfl (Nat.le_of_ble_eq_true rfl) (Nat.le_of_ble_eq_true rfl) rfl rfl e14 f15 (Nat.le_of_ble_eq_true rfl) dLw_law_1089 (s_Md_version hw) (fun _ _ hx => False.elim hx) (tk_i fun v17 h16 hw => ?_)
  refine tq_istore (ls' := [some (vR x0), some (vR x1), some (vR x2), some (vR x3), some (vR x4), some (vI x5), some (vI v8), some (vI v17)]) dLw_law_1092 (Nat.le_of_ble_eq_true rfl) rfl ?_
  refine tq_aload_n dLw_law_1094 rfl rfl ?_
  obtain ⟨f18, hw⟩ := hw
  refine te_callV mv_Md_thrown (ci := 13) (dc := 0) (as := []) (rest := []) kLw_130 rfl (Nat.le_of_ble_eq_true rfl) (Nat.le_of_ble_eq_true rfl) rfl rfl e14 f18 (Nat.le_of_ble_eq_true rfl) dLw_law_1095 (s_Md_thrown hw) (fun _ _ hx => False.elim hx) (tk_i fun v20 h19 hw => ?_)
  refine tq_iload dLw_law_1098 rfl ?_
  refine tq_icmpeq (tgt := 1105) dLw_law_1100 (by decide) (fun c21 => ?_) (fun c21 => ?_)
  · have hw := hw.1 c21
    refine tq_iload dLw_law_1105 rfl ?_
    refine tq_ifne (tgt := 1122) dLw_law_1107 (by decide) (fun c22 => ?_) (fun c22 => ?_)
    · have hw := hw.1 c22
      refine tq_goto (tgt := 2520) dLw_law_1122 (by decide) ?_
      refine tq_inc (k := (6 : Int32)) (ls' := [some (vR x0), some (vR x1), some (vR x2), some (vR x3), some (vR x4), some (vI (x5 + (6 : Int32))), some (vI v8), some (vI v17)]) dLw_law_2520 rfl tni_6 (Nat.le_of_ble_eq_true rfl) rfl ?_
      refine tq_goto (tgt := 28) dLw_law_2523 (by decide) ?_
      refine tpR.fo (ls' := [some (vR x0), some (vR x1), some (vR x2), some (vR x3), some (vR x4), some (vI (x5 + (6 : Int32))), none, none]) ?_ (And.intro rfl (And.intro rfl (And.intro rfl (And.intro rfl (And.intro rfl (And.intro rfl trivial))))))
      exact k28 _ _ _ _ _ _ _ hw
    · have hw := hw.2 c22
      refine tq_aload_n dLw_law_1110 rfl rfl ?_
      refine tq_iconst (v := (0 : Int32)) dLw_law_1111 tni_0 ?_
      obtain ⟨a23, e24, f25, hw⟩ := hw
      obtain ⟨f26, hw⟩ := hw
      refine te_lald dLw_law_1112 e24 f25 f26 ?_
      refine tq_iload dLw_law_1113 rfl ?_
      refine tq_i2l dLw_law_1115 ?_
      refine tq_lcmp dLw_law_1116 ?_
      refine tq_ifeq (tgt := 1122) dLw_law_1117 (by decide) (fun c27 => ?_) (fun c27 => ?_)
      · have hw := hw.1 c27
        refine tq_goto (tgt := 2520) dLw_law_1122 (by decide) ?_
        refine tq_inc (k := (6 : Int32)) (ls' := [some (vR x0), some (vR x1), some (vR x2), some (vR x3), some (vR x4), some (vI (x5 + (6 : Int32))), some (vI v8), some (vI v17)]) dLw_law_2520 rfl tni_6 (Nat.le_of_ble_eq_true rfl) rfl ?_
        refine tq_goto (tgt := 28) dLw_law_2523 (by decide) ?_
        refine tpR.fo (ls' := [some (vR x0), some (vR x1), some (vR x2), some (vR x3), some (vR x4), some (vI (x5 + (6 : Int32))), none, none]) ?_ (And.intro rfl (And.intro rfl (And.intro rfl (And.intro rfl (And.intro rfl (And.intro rfl trivial))))))
        exact k28 _ _ _ _ _ _ _ hw
      · have hw := hw.2 c27
        refine tq_iconst (v := (0 : Int32)) dLw_law_1120 tni_0 ?_
        exact tq_iret rfl (by decide) dLw_law_1121 hw
  · have hw := hw.2 c21
    refine tq_iconst (v := (0 : Int32)) dLw_law_1103 tni_0 ?_
    exact tq_iret rfl (by decide) dLw_law_1104 hw
theorem s_Lw_law_1125 {h0 : tpH} {av : List tpV} {R : Int32 → tpH → Prop} {K28 : (Option Nat) → (Option Nat) → (Option Nat) → (Option Nat) → (Option Nat) → Int32 → tpH → Prop} (k28 : ∀ (x0 : Option Nat) (x1 : Option Nat) (x2 : Option Nat) (x3 : Option Nat) (x4 : Option Nat) (x5 : Int32) (h : tpH), K28 x0 x1 x2 x3 x4 x5 h → tpR Lw_main 11 h0 av (tpOi R (fun _ _ => False)) 28 [some (vR x0), some (vR x1), some (vR x2), some (vR x3), some (vR x4), some (vI x5), none, none] [] h) : ∀ (x0 : Option Nat) (x1 : Option Nat) (x2 : Option Nat) (x3 : Option Nat) (x4 : Option Nat) (x5 : Int32) (h : tpH), w_Lw_law_1125 R K28 x0 x1 x2 x3 x4 x5 h → tpR Lw_main 11 h0 av (tpOi R (fun _ _ => False)) 1125 [some (vR x0), some (vR x1), some (vR x2), some (vR x3), some (vR x4), some (vI x5), none, none] [] h := by
  intro x0 x1 x2 x3 x4 x5 h hw
  unfold w_Lw_law_1125 at hw
  refine tq_aload_n dLw_law_1125 rfl rfl ?_
  refine tq_aload_n dLw_law_1126 rfl rfl ?_
  refine tq_iload dLw_law_1127 rfl ?_
  refine tq_iconst (v := (1 : Int32)) dLw_law_1129 tni_1 ?_
  refine tq_iadd dLw_law_1130 ?_
  obtain ⟨a1, e2, f3, hw⟩ := hw
  obtain ⟨f4, hw⟩ := hw
  refine te_iald dLw_law_1131 e2 (Or.inr f3) f4 ?_
  refine tq_aload_n dLw_law_1132 rfl rfl ?_
  refine tq_iload dLw_law_1133 rfl ?_
  refine tq_iconst (v := (2 : Int32)) dLw_law_1135 tni_2 ?_
  refine tq_iadd dLw_law_1136 ?_
  obtain ⟨f5, hw⟩ := hw
  refine te_iald dLw_law_1137 e2 (Or.inr f3) f5 ?_
  refine tq_aload_n dLw_law_1138 rfl rfl ?_
  refine tq_callSX ms_Lw_mergeVersions (by intro hz; cases hz) (dc := 10) (as := [vR x1, vI (hI h a1 (x5 + (1 : Int32)).toNatClampNeg), vI (hI h a1 (x5 + (2 : Int32)).toNatClampNeg), vR x3]) (rest := []) kLw_177 (Nat.le_of_ble_eq_true rfl) (Nat.le_of_ble_eq_true rfl) rfl rfl (Nat.le_of_ble_eq_true rfl) dLw_law_1139 (s_Lw_mergeVersions hw) (fun _ _ hx => False.elim hx) (tk_i fun v7 h6 hw => ?_)
  refine tq_istore (ls' := [some (vR x0), some (vR x1), some (vR x2), some (vR x3), some (vR x4), some (vI x5), some (vI v7), none]) dLw_law_1142 (Nat.le_of_ble_eq_true rfl) rfl ?_
  refine tq_aload_n dLw_law_1144 rfl rfl ?_
  refine tq_aload_n dLw_law_1145 rfl rfl ?_
  refine tq_iload dLw_law_1146 rfl ?_
  refine tq_iconst (v := (1 : Int32)) dLw_law_1148 tni_1 ?_
  refine tq_iadd dLw_law_1149 ?_
  obtain ⟨f8, hw⟩ := hw
  obtain ⟨f9, hw⟩ := hw
  refine te_iald dLw_law_1150 e2 (Or.inr f8) f9 ?_
  refine tq_aload_n dLw_law_1151 rfl rfl ?_
  refine tq_iload dLw_law_1152 rfl ?_
  refine tq_iconst (v := (2 : Int32)) dLw_law_1154 tni_2 ?_
  refine tq_iadd dLw_law_1155 ?_
  obtain ⟨f10, hw⟩ := hw
  refine te_iald dLw_law_1156 e2 (Or.inr f8) f10 ?_
  obtain ⟨a11, e12, f13, hw⟩ := hw
  refine te_callV mv_Md_mergeVersions (ci := 13) (dc := 8) (as := [vI (hI h6 a1 (x5 + (1 : Int32)).toNatClampNeg), vI (hI h6 a1 (x5 + (2 : Int32)).toNatClampNeg)]) (rest := []) kLw_179 rfl (Nat.le_of_ble_eq_true rfl) (Nat.le_of_ble_eq_true rfl) rfl rfl e12 f13 (Nat.le_of_ble_eq_true rfl) dLw_law_1157 (s_Md_mergeVersions hw) (fun _ _ hx => False.elim hx) (tk_i fun v15 h14 hw => ?_)
  refine tq_istore (ls' := [some (vR x0), some (vR x1), some (vR x2), some (vR x3), some (vR x4), some (vI x5), some (vI v7), some (vI v15)]) dLw_law_1160 (Nat.le_of_ble_eq_true rfl) rfl ?_
  refine tq_aload_n dLw_law_1162 rfl rfl ?_
  obtain ⟨f16, hw⟩ := hw
  refine te_callV mv_Md_thrown (ci := 13) (dc := 0) (as := []) (rest := []) kLw_130 rfl (Nat.le_of_ble_eq_true rfl) (Nat.le_of_ble_eq_true rfl) rfl rfl e12 f16 (Nat.le_of_ble_eq_true rfl) dLw_law_1163 (s_Md_thrown hw) (fun _ _ hx => False.elim hx) (tk_i fun v18 h17 hw => ?_)
  refine tq_iload dLw_law_1166 rfl ?_
  refine tq_icmpeq (tgt := 1173) dLw_law_1168 (by decide) (fun c19 => ?_) (fun c19 => ?_)
  · have hw := hw.1 c19
    refine tq_iload dLw_law_1173 rfl ?_
    refine tq_ifne (tgt := 1190) dLw_law_1175 (by decide) (fun c20 => ?_) (fun c20 => ?_)
    · have hw := hw.1 c20
      refine tq_goto (tgt := 2520) dLw_law_1190 (by decide) ?_
      refine tq_inc (k := (6 : Int32)) (ls' := [some (vR x0), some (vR x1), some (vR x2), some (vR x3), some (vR x4), some (vI (x5 + (6 : Int32))), some (vI v7), some (vI v15)]) dLw_law_2520 rfl tni_6 (Nat.le_of_ble_eq_true rfl) rfl ?_
      refine tq_goto (tgt := 28) dLw_law_2523 (by decide) ?_
      refine tpR.fo (ls' := [some (vR x0), some (vR x1), some (vR x2), some (vR x3), some (vR x4), some (vI (x5 + (6 : Int32))), none, none]) ?_ (And.intro rfl (And.intro rfl (And.intro rfl (And.intro rfl (And.intro rfl (And.intro rfl trivial))))))
      exact k28 _ _ _ _ _ _ _ hw
    · have hw := hw.2 c20
      refine tq_aload_n dLw_law_1178 rfl rfl ?_
      refine tq_iconst (v := (0 : Int32)) dLw_law_1179 tni_0 ?_
      obtain ⟨a21, e22, f23, hw⟩ := hw
      obtain ⟨f24, hw⟩ := hw
      refine te_lald dLw_law_1180 e22 f23 f24 ?_
      refine tq_iload dLw_law_1181 rfl ?_
      refine tq_i2l dLw_law_1183 ?_
      refine tq_lcmp dLw_law_1184 ?_
      refine tq_ifeq (tgt := 1190) dLw_law_1185 (by decide) (fun c25 => ?_) (fun c25 => ?_)
      · have hw := hw.1 c25
        refine tq_goto (tgt := 2520) dLw_law_1190 (by decide) ?_
        refine tq_inc (k := (6 : Int32)) (ls' := [some (vR x0), some (vR x1), some (vR x2), some (vR x3), some (vR x4), some (vI (x5 + (6 : Int32))), some (vI v7), some (vI v15)]) dLw_law_2520 rfl tni_6 (Nat.le_of_ble_eq_true rfl) rfl ?_
        refine tq_goto (tgt := 28) dLw_law_2523 (by decide) ?_
        refine tpR.fo (ls' := [some (vR x0), some (vR x1), some (vR x2), some (vR x3), some (vR x4), some (vI (x5 + (6 : Int32))), none, none]) ?_ (And.intro rfl (And.intro rfl (And.intro rfl (And.intro rfl (And.intro rfl (And.intro rfl trivial))))))
        exact k28 _ _ _ _ _ _ _ hw
      · have hw := hw.2 c25
        refine tq_iconst (v := (0 : Int32)) dLw_law_1188 tni_0 ?_
        exact tq_iret rfl (by decide) dLw_law_1189 hw
  · have hw := hw.2 c19
    refine tq_iconst (v := (0 : Int32)) dLw_law_1171 tni_0 ?_
    exact tq_iret rfl (by decide) dLw_law_1172 hw
theorem s_Lw_law_1193 {h0 : tpH} {av : List tpV} {R : Int32 → tpH → Prop} {K28 : (Option Nat) → (Option Nat) → (Option Nat) → (Option Nat) → (Option Nat) → Int32 → tpH → Prop} (k28 : ∀ (x0 : Option Nat) (x1 : Option Nat) (x2 : Option Nat) (x3 : Option Nat) (x4 : Option Nat) (x5 : Int32) (h : tpH), K28 x0 x1 x2 x3 x4 x5 h → tpR Lw_main 11 h0 av (tpOi R (fun _ _ => False)) 28 [some (vR x0), some (vR x1), some (vR x2), some (vR x3), some (vR x4), some (vI x5), none, none] [] h) : ∀ (x0 : Option Nat) (x1 : Option Nat) (x2 : Option Nat) (x3 : Option Nat) (x4 : Option Nat) (x5 : Int32) (h : tpH), w_Lw_law_1193 R K28 x0 x1 x2 x3 x4 x5 h → tpR Lw_main 11 h0 av (tpOi R (fun _ _ => False)) 1193 [some (vR x0), some (vR x1), some (vR x2), some (vR x3), some (vR x4), some (vI x5), none, none] [] h := by
  intro x0 x1 x2 x3 x4 x5 h hw
  unfold w_Lw_law_1193 at hw
  refine tq_aload_n dLw_law_1193 rfl rfl ?_
  refine tq_aload_n dLw_law_1194 rfl rfl ?_
  refine tq_iload dLw_law_1195 rfl ?_
  refine tq_iconst (v := (1 : Int32)) dLw_law_1197 tni_1 ?_
  refine tq_iadd dLw_law_1198 ?_
  obtain ⟨a1, e2, f3, hw⟩ := hw
  obtain ⟨f4, hw⟩ := hw
  refine te_iald dLw_law_1199 e2 (Or.inr f3) f4 ?_
  refine tq_aload_n dLw_law_1200 rfl rfl ?_
  refine tq_iload dLw_law_1201 rfl ?_
  refine tq_iconst (v := (2 : Int32)) dLw_law_1203 tni_2 ?_
  refine tq_iadd dLw_law_1204 ?_
  obtain ⟨f5, hw⟩ := hw
  refine te_iald dLw_law_1205 e2 (Or.inr f3) f5 ?_
  refine tq_aload_n dLw_law_1206 rfl rfl ?_
  refine tq_callSX ms_Lw_takeBack (by intro hz; cases hz) (dc := 10) (as := [vR x1, vI (hI h a1 (x5 + (1 : Int32)).toNatClampNeg), vI (hI h a1 (x5 + (2 : Int32)).toNatClampNeg), vR x3]) (rest := []) kLw_180 (Nat.le_of_ble_eq_true rfl) (Nat.le_of_ble_eq_true rfl) rfl rfl (Nat.le_of_ble_eq_true rfl) dLw_law_1207 (s_Lw_takeBack hw) (fun _ _ hx => False.elim hx) (tk_i fun v7 h6 hw => ?_)
  refine tq_istore (ls' := [some (vR x0), some (vR x1), some (vR x2), some (vR x3), some (vR x4), some (vI x5), some (vI v7), none]) dLw_law_1210 (Nat.le_of_ble_eq_true rfl) rfl ?_
  refine tq_aload_n dLw_law_1212 rfl rfl ?_
  refine tq_aload_n dLw_law_1213 rfl rfl ?_
  refine tq_iload dLw_law_1214 rfl ?_
  refine tq_iconst (v := (1 : Int32)) dLw_law_1216 tni_1 ?_
  refine tq_iadd dLw_law_1217 ?_
  obtain ⟨f8, hw⟩ := hw
  obtain ⟨f9, hw⟩ := hw
  refine te_iald dLw_law_1218 e2 (Or.inr f8) f9 ?_
  refine tq_aload_n dLw_law_1219 rfl rfl ?_
  refine tq_iload dLw_law_1220 rfl ?_
  refine tq_iconst (v := (2 : Int32)) dLw_law_1222 tni_2 ?_
  refine tq_iadd dLw_law_1223 ?_
  obtain ⟨f10, hw⟩ := hw
  refine te_iald dLw_law_1224 e2 (Or.inr f8) f10 ?_
  obtain ⟨a11, e12, f13, hw⟩ := hw
  refine te_callV mv_Md_takeBack (ci := 13) (dc := 8) (as := [vI (hI h6 a1 (x5 + (1 : Int32)).toNatClampNeg), vI (hI h6 a1 (x5 + (2 : Int32)).toNatClampNeg)]) (rest := []) kLw_182 rfl (Nat.le_of_ble_eq_true rfl) (Nat.le_of_ble_eq_true rfl) rfl rfl e12 f13 (Nat.le_of_ble_eq_true rfl) dLw_law_1225 (s_Md_takeBack hw) (fun _ _ hx => False.elim hx) (tk_i fun v15 h14 hw => ?_)
  refine tq_istore (ls' := [some (vR x0), some (vR x1), some (vR x2), some (vR x3), some (vR x4), some (vI x5), some (vI v7), some (vI v15)]) dLw_law_1228 (Nat.le_of_ble_eq_true rfl) rfl ?_
  refine tq_aload_n dLw_law_1230 rfl rfl ?_
  obtain ⟨f16, hw⟩ := hw
  refine te_callV mv_Md_thrown (ci := 13) (dc := 0) (as := []) (rest := []) kLw_130 rfl (Nat.le_of_ble_eq_true rfl) (Nat.le_of_ble_eq_true rfl) rfl rfl e12 f16 (Nat.le_of_ble_eq_true rfl) dLw_law_1231 (s_Md_thrown hw) (fun _ _ hx => False.elim hx) (tk_i fun v18 h17 hw => ?_)
  refine tq_iload dLw_law_1234 rfl ?_
  refine tq_icmpeq (tgt := 1241) dLw_law_1236 (by decide) (fun c19 => ?_) (fun c19 => ?_)
  · have hw := hw.1 c19
    refine tq_iload dLw_law_1241 rfl ?_
    refine tq_ifne (tgt := 1258) dLw_law_1243 (by decide) (fun c20 => ?_) (fun c20 => ?_)
    · have hw := hw.1 c20
      refine tq_goto (tgt := 2520) dLw_law_1258 (by decide) ?_
      refine tq_inc (k := (6 : Int32)) (ls' := [some (vR x0), some (vR x1), some (vR x2), some (vR x3), some (vR x4), some (vI (x5 + (6 : Int32))), some (vI v7), some (vI v15)]) dLw_law_2520 rfl tni_6 (Nat.le_of_ble_eq_true rfl) rfl ?_
      refine tq_goto (tgt := 28) dLw_law_2523 (by decide) ?_
      refine tpR.fo (ls' := [some (vR x0), some (vR x1), some (vR x2), some (vR x3), some (vR x4), some (vI (x5 + (6 : Int32))), none, none]) ?_ (And.intro rfl (And.intro rfl (And.intro rfl (And.intro rfl (And.intro rfl (And.intro rfl trivial))))))
      exact k28 _ _ _ _ _ _ _ hw
    · have hw := hw.2 c20
      refine tq_aload_n dLw_law_1246 rfl rfl ?_
      refine tq_iconst (v := (0 : Int32)) dLw_law_1247 tni_0 ?_
      obtain ⟨a21, e22, f23, hw⟩ := hw
      obtain ⟨f24, hw⟩ := hw
      refine te_lald dLw_law_1248 e22 f23 f24 ?_
      refine tq_iload dLw_law_1249 rfl ?_
      refine tq_i2l dLw_law_1251 ?_
      refine tq_lcmp dLw_law_1252 ?_
      refine tq_ifeq (tgt := 1258) dLw_law_1253 (by decide) (fun c25 => ?_) (fun c25 => ?_)
      · have hw := hw.1 c25
        refine tq_goto (tgt := 2520) dLw_law_1258 (by decide) ?_
        refine tq_inc (k := (6 : Int32)) (ls' := [some (vR x0), some (vR x1), some (vR x2), some (vR x3), some (vR x4), some (vI (x5 + (6 : Int32))), some (vI v7), some (vI v15)]) dLw_law_2520 rfl tni_6 (Nat.le_of_ble_eq_true rfl) rfl ?_
        refine tq_goto (tgt := 28) dLw_law_2523 (by decide) ?_
        refine tpR.fo (ls' := [some (vR x0), some (vR x1), some (vR x2), some (vR x3), some (vR x4), some (vI (x5 + (6 : Int32))), none, none]) ?_ (And.intro rfl (And.intro rfl (And.intro rfl (And.intro rfl (And.intro rfl (And.intro rfl trivial))))))
        exact k28 _ _ _ _ _ _ _ hw
      · have hw := hw.2 c25
        refine tq_iconst (v := (0 : Int32)) dLw_law_1256 tni_0 ?_
        exact tq_iret rfl (by decide) dLw_law_1257 hw
  · have hw := hw.2 c19
    refine tq_iconst (v := (0 : Int32)) dLw_law_1239 tni_0 ?_
    exact tq_iret rfl (by decide) dLw_law_1240 hw
theorem s_Lw_law_1261 {h0 : tpH} {av : List tpV} {R : Int32 → tpH → Prop} {K28 : (Option Nat) → (Option Nat) → (Option Nat) → (Option Nat) → (Option Nat) → Int32 → tpH → Prop} (k28 : ∀ (x0 : Option Nat) (x1 : Option Nat) (x2 : Option Nat) (x3 : Option Nat) (x4 : Option Nat) (x5 : Int32) (h : tpH), K28 x0 x1 x2 x3 x4 x5 h → tpR Lw_main 11 h0 av (tpOi R (fun _ _ => False)) 28 [some (vR x0), some (vR x1), some (vR x2), some (vR x3), some (vR x4), some (vI x5), none, none] [] h) : ∀ (x0 : Option Nat) (x1 : Option Nat) (x2 : Option Nat) (x3 : Option Nat) (x4 : Option Nat) (x5 : Int32) (h : tpH), w_Lw_law_1261 R K28 x0 x1 x2 x3 x4 x5 h → tpR Lw_main 11 h0 av (tpOi R (fun _ _ => False)) 1261 [some (vR x0), some (vR x1), some (vR x2), some (vR x3), some (vR x4), some (vI x5), none, none] [] h := by
  intro x0 x1 x2 x3 x4 x5 h hw
  unfold w_Lw_law_1261 at hw
  refine tq_aload_n dLw_law_1261 rfl rfl ?_
  obtain ⟨a1, e2, f3, hw⟩ := hw
  refine te_callV mv_TP_trees (ci := 12) (dc := 0) (as := []) (rest := []) kLw_183 rfl (Nat.le_of_ble_eq_true rfl) (Nat.le_of_ble_eq_true rfl) rfl rfl e2 f3 (Nat.le_of_ble_eq_true rfl) dLw_law_1262 (s_TP_trees hw) (fun _ _ hx => False.elim hx) (tk_i fun v5 h4 hw => ?_)
  refine tq_aload_n dLw_law_1265 rfl rfl ?_
  obtain ⟨a6, e7, f8, hw⟩ := hw
  refine te_callV mv_Md_trees (ci := 13) (dc := 0) (as := []) (rest := [vI v5]) kLw_186 rfl (Nat.le_of_ble_eq_true rfl) (Nat.le_of_ble_eq_true rfl) rfl rfl e7 f8 (Nat.le_of_ble_eq_true rfl) dLw_law_1266 (s_Md_trees hw) (fun _ _ hx => False.elim hx) (tk_i fun v10 h9 hw => ?_)
  refine tq_icmpeq (tgt := 2520) dLw_law_1269 (by decide) (fun c11 => ?_) (fun c11 => ?_)
  · have hw := hw.1 c11
    refine tq_inc (k := (6 : Int32)) (ls' := [some (vR x0), some (vR x1), some (vR x2), some (vR x3), some (vR x4), some (vI (x5 + (6 : Int32))), none, none]) dLw_law_2520 rfl tni_6 (Nat.le_of_ble_eq_true rfl) rfl ?_
    refine tq_goto (tgt := 28) dLw_law_2523 (by decide) ?_
    refine tpR.fo (ls' := [some (vR x0), some (vR x1), some (vR x2), some (vR x3), some (vR x4), some (vI (x5 + (6 : Int32))), none, none]) ?_ (And.intro rfl (And.intro rfl (And.intro rfl (And.intro rfl (And.intro rfl (And.intro rfl trivial))))))
    exact k28 _ _ _ _ _ _ _ hw
  · have hw := hw.2 c11
    refine tq_iconst (v := (0 : Int32)) dLw_law_1272 tni_0 ?_
    exact tq_iret rfl (by decide) dLw_law_1273 hw
theorem s_Lw_law_1274 {h0 : tpH} {av : List tpV} {R : Int32 → tpH → Prop} {K28 : (Option Nat) → (Option Nat) → (Option Nat) → (Option Nat) → (Option Nat) → Int32 → tpH → Prop} (k28 : ∀ (x0 : Option Nat) (x1 : Option Nat) (x2 : Option Nat) (x3 : Option Nat) (x4 : Option Nat) (x5 : Int32) (h : tpH), K28 x0 x1 x2 x3 x4 x5 h → tpR Lw_main 11 h0 av (tpOi R (fun _ _ => False)) 28 [some (vR x0), some (vR x1), some (vR x2), some (vR x3), some (vR x4), some (vI x5), none, none] [] h) : ∀ (x0 : Option Nat) (x1 : Option Nat) (x2 : Option Nat) (x3 : Option Nat) (x4 : Option Nat) (x5 : Int32) (h : tpH), w_Lw_law_1274 R K28 x0 x1 x2 x3 x4 x5 h → tpR Lw_main 11 h0 av (tpOi R (fun _ _ => False)) 1274 [some (vR x0), some (vR x1), some (vR x2), some (vR x3), some (vR x4), some (vI x5), none, none] [] h := by
  intro x0 x1 x2 x3 x4 x5 h hw
  unfold w_Lw_law_1274 at hw
  refine tq_aload_n dLw_law_1274 rfl rfl ?_
  refine tq_aload_n dLw_law_1275 rfl rfl ?_
  refine tq_iload dLw_law_1276 rfl ?_
  refine tq_iconst (v := (1 : Int32)) dLw_law_1278 tni_1 ?_
  refine tq_iadd dLw_law_1279 ?_
  obtain ⟨a1, e2, f3, hw⟩ := hw
  obtain ⟨f4, hw⟩ := hw
  refine te_iald dLw_law_1280 e2 (Or.inr f3) f4 ?_
  refine tq_aload_n dLw_law_1281 rfl rfl ?_
  refine tq_callSX ms_Lw_size (by intro hz; cases hz) (dc := 8) (as := [vR x1, vI (hI h a1 (x5 + (1 : Int32)).toNatClampNeg), vR x3]) (rest := []) kLw_187 (Nat.le_of_ble_eq_true rfl) (Nat.le_of_ble_eq_true rfl) rfl rfl (Nat.le_of_ble_eq_true rfl) dLw_law_1282 (s_Lw_size hw) (fun _ _ hx => False.elim hx) (tk_i fun v6 h5 hw => ?_)
  refine tq_istore (ls' := [some (vR x0), some (vR x1), some (vR x2), some (vR x3), some (vR x4), some (vI x5), some (vI v6), none]) dLw_law_1285 (Nat.le_of_ble_eq_true rfl) rfl ?_
  refine tq_aload_n dLw_law_1287 rfl rfl ?_
  refine tq_aload_n dLw_law_1288 rfl rfl ?_
  refine tq_iload dLw_law_1289 rfl ?_
  refine tq_iconst (v := (1 : Int32)) dLw_law_1291 tni_1 ?_
  refine tq_iadd dLw_law_1292 ?_
  obtain ⟨f7, hw⟩ := hw
  obtain ⟨f8, hw⟩ := hw
  refine te_iald dLw_law_1293 e2 (Or.inr f7) f8 ?_
  obtain ⟨a9, e10, f11, hw⟩ := hw
  refine te_callV mv_Md_size (ci := 13) (dc := 2) (as := [vI (hI h5 a1 (x5 + (1 : Int32)).toNatClampNeg)]) (rest := []) kLw_189 rfl (Nat.le_of_ble_eq_true rfl) (Nat.le_of_ble_eq_true rfl) rfl rfl e10 f11 (Nat.le_of_ble_eq_true rfl) dLw_law_1294 (s_Md_size hw) (fun _ _ hx => False.elim hx) (tk_i fun v13 h12 hw => ?_)
  refine tq_istore (ls' := [some (vR x0), some (vR x1), some (vR x2), some (vR x3), some (vR x4), some (vI x5), some (vI v6), some (vI v13)]) dLw_law_1297 (Nat.le_of_ble_eq_true rfl) rfl ?_
  refine tq_aload_n dLw_law_1299 rfl rfl ?_
  obtain ⟨f14, hw⟩ := hw
  refine te_callV mv_Md_thrown (ci := 13) (dc := 0) (as := []) (rest := []) kLw_130 rfl (Nat.le_of_ble_eq_true rfl) (Nat.le_of_ble_eq_true rfl) rfl rfl e10 f14 (Nat.le_of_ble_eq_true rfl) dLw_law_1300 (s_Md_thrown hw) (fun _ _ hx => False.elim hx) (tk_i fun v16 h15 hw => ?_)
  refine tq_iload dLw_law_1303 rfl ?_
  refine tq_icmpeq (tgt := 1310) dLw_law_1305 (by decide) (fun c17 => ?_) (fun c17 => ?_)
  · have hw := hw.1 c17
    refine tq_iload dLw_law_1310 rfl ?_
    refine tq_ifne (tgt := 1327) dLw_law_1312 (by decide) (fun c18 => ?_) (fun c18 => ?_)
    · have hw := hw.1 c18
      refine tq_goto (tgt := 2520) dLw_law_1327 (by decide) ?_
      refine tq_inc (k := (6 : Int32)) (ls' := [some (vR x0), some (vR x1), some (vR x2), some (vR x3), some (vR x4), some (vI (x5 + (6 : Int32))), some (vI v6), some (vI v13)]) dLw_law_2520 rfl tni_6 (Nat.le_of_ble_eq_true rfl) rfl ?_
      refine tq_goto (tgt := 28) dLw_law_2523 (by decide) ?_
      refine tpR.fo (ls' := [some (vR x0), some (vR x1), some (vR x2), some (vR x3), some (vR x4), some (vI (x5 + (6 : Int32))), none, none]) ?_ (And.intro rfl (And.intro rfl (And.intro rfl (And.intro rfl (And.intro rfl (And.intro rfl trivial))))))
      exact k28 _ _ _ _ _ _ _ hw
    · have hw := hw.2 c18
      refine tq_aload_n dLw_law_1315 rfl rfl ?_
      refine tq_iconst (v := (0 : Int32)) dLw_law_1316 tni_0 ?_
      obtain ⟨a19, e20, f21, hw⟩ := hw
      obtain ⟨f22, hw⟩ := hw
      refine te_lald dLw_law_1317 e20 f21 f22 ?_
      refine tq_iload dLw_law_1318 rfl ?_
      refine tq_i2l dLw_law_1320 ?_
      refine tq_lcmp dLw_law_1321 ?_
      refine tq_ifeq (tgt := 1327) dLw_law_1322 (by decide) (fun c23 => ?_) (fun c23 => ?_)
      · have hw := hw.1 c23
        refine tq_goto (tgt := 2520) dLw_law_1327 (by decide) ?_
        refine tq_inc (k := (6 : Int32)) (ls' := [some (vR x0), some (vR x1), some (vR x2), some (vR x3), some (vR x4), some (vI (x5 + (6 : Int32))), some (vI v6), some (vI v13)]) dLw_law_2520 rfl tni_6 (Nat.le_of_ble_eq_true rfl) rfl ?_
        refine tq_goto (tgt := 28) dLw_law_2523 (by decide) ?_
        refine tpR.fo (ls' := [some (vR x0), some (vR x1), some (vR x2), some (vR x3), some (vR x4), some (vI (x5 + (6 : Int32))), none, none]) ?_ (And.intro rfl (And.intro rfl (And.intro rfl (And.intro rfl (And.intro rfl (And.intro rfl trivial))))))
        exact k28 _ _ _ _ _ _ _ hw
      · have hw := hw.2 c23
        refine tq_iconst (v := (0 : Int32)) dLw_law_1325 tni_0 ?_
        exact tq_iret rfl (by decide) dLw_law_1326 hw
  · have hw := hw.2 c17
    refine tq_iconst (v := (0 : Int32)) dLw_law_1308 tni_0 ?_
    exact tq_iret rfl (by decide) dLw_law_1309 hw
theorem s_Lw_law_1330 {h0 : tpH} {av : List tpV} {R : Int32 → tpH → Prop} {K28 : (Option Nat) → (Option Nat) → (Option Nat) → (Option Nat) → (Option Nat) → Int32 → tpH → Prop} (k28 : ∀ (x0 : Option Nat) (x1 : Option Nat) (x2 : Option Nat) (x3 : Option Nat) (x4 : Option Nat) (x5 : Int32) (h : tpH), K28 x0 x1 x2 x3 x4 x5 h → tpR Lw_main 11 h0 av (tpOi R (fun _ _ => False)) 28 [some (vR x0), some (vR x1), some (vR x2), some (vR x3), some (vR x4), some (vI x5), none, none] [] h) : ∀ (x0 : Option Nat) (x1 : Option Nat) (x2 : Option Nat) (x3 : Option Nat) (x4 : Option Nat) (x5 : Int32) (h : tpH), w_Lw_law_1330 R K28 x0 x1 x2 x3 x4 x5 h → tpR Lw_main 11 h0 av (tpOi R (fun _ _ => False)) 1330 [some (vR x0), some (vR x1), some (vR x2), some (vR x3), some (vR x4), some (vI x5), none, none] [] h := by
  intro x0 x1 x2 x3 x4 x5 h hw
  unfold w_Lw_law_1330 at hw
  refine tq_aload_n dLw_law_1330 rfl rfl ?_
  refine tq_aload_n dLw_law_1331 rfl rfl ?_
  refine tq_iload dLw_law_1332 rfl ?_
  refine tq_iconst (v := (1 : Int32)) dLw_law_1334 tni_1 ?_
  refine tq_iadd dLw_law_1335 ?_
  obtain ⟨a1, e2, f3, hw⟩ := hw
  obtain ⟨f4, hw⟩ := hw
  refine te_iald dLw_law_1336 e2 (Or.inr f3) f4 ?_
  refine tq_aload_n dLw_law_1337 rfl rfl ?_
  refine tq_iload dLw_law_1338 rfl ?_
  refine tq_iconst (v := (2 : Int32)) dLw_law_1340 tni_2 ?_
  refine tq_iadd dLw_law_1341 ?_
  obtain ⟨f5, hw⟩ := hw
  refine te_iald dLw_law_1342 e2 (Or.inr f3) f5 ?_
  refine tq_aload_n dLw_law_1343 rfl rfl ?_
  refine tq_callSX ms_Lw_markAt (by intro hz; cases hz) (dc := 8) (as := [vR x1, vI (hI h a1 (x5 + (1 : Int32)).toNatClampNeg), vI (hI h a1 (x5 + (2 : Int32)).toNatClampNeg), vR x3]) (rest := []) kLw_190 (Nat.le_of_ble_eq_true rfl) (Nat.le_of_ble_eq_true rfl) rfl rfl (Nat.le_of_ble_eq_true rfl) dLw_law_1344 (s_Lw_markAt hw) (fun _ _ hx => False.elim hx) (tk_i fun v7 h6 hw => ?_)
  refine tq_istore (ls' := [some (vR x0), some (vR x1), some (vR x2), some (vR x3), some (vR x4), some (vI x5), some (vI v7), none]) dLw_law_1347 (Nat.le_of_ble_eq_true rfl) rfl ?_
  refine tq_aload_n dLw_law_1349 rfl rfl ?_
  refine tq_aload_n dLw_law_1350 rfl rfl ?_
  refine tq_iload dLw_law_1351 rfl ?_
  refine tq_iconst (v := (1 : Int32)) dLw_law_1353 tni_1 ?_
  refine tq_iadd dLw_law_1354 ?_
  obtain ⟨f8, hw⟩ := hw
  obtain ⟨f9, hw⟩ := hw
  refine te_iald dLw_law_1355 e2 (Or.inr f8) f9 ?_
  refine tq_aload_n dLw_law_1356 rfl rfl ?_
  refine tq_iload dLw_law_1357 rfl ?_
  refine tq_iconst (v := (2 : Int32)) dLw_law_1359 tni_2 ?_
  refine tq_iadd dLw_law_1360 ?_
  obtain ⟨f10, hw⟩ := hw
  refine te_iald dLw_law_1361 e2 (Or.inr f8) f10 ?_
  obtain ⟨a11, e12, f13, hw⟩ := hw
  refine te_callV mv_Md_markAt (ci := 13) (dc := 2) (as := [vI (hI h6 a1 (x5 + (1 : Int32)).toNatClampNeg), vI (hI h6 a1 (x5 + (2 : Int32)).toNatClampNeg)]) (rest := []) kLw_192 rfl (Nat.le_of_ble_eq_true rfl) (Nat.le_of_ble_eq_true rfl) rfl rfl e12 f13 (Nat.le_of_ble_eq_true rfl) dLw_law_1362 (s_Md_markAt hw) (fun _ _ hx => False.elim hx) (tk_i fun v15 h14 hw => ?_)
  refine tq_istore (ls' := [some (vR x0), some (vR x1), some (vR x2), some (vR x3), some (vR x4), some (vI x5), some (vI v7), some (vI v15)]) dLw_law_1365 (Nat.le_of_ble_eq_true rfl) rfl ?_
  refine tq_aload_n dLw_law_1367 rfl rfl ?_
  obtain ⟨f16, hw⟩ := hw
  refine te_callV mv_Md_thrown (ci := 13) (dc := 0) (as := []) (rest := []) kLw_130 rfl (Nat.le_of_ble_eq_true rfl) (Nat.le_of_ble_eq_true rfl) rfl rfl e12 f16 (Nat.le_of_ble_eq_true rfl) dLw_law_1368 (s_Md_thrown hw) (fun _ _ hx => False.elim hx) (tk_i fun v18 h17 hw => ?_)
  refine tq_iload dLw_law_1371 rfl ?_
  refine tq_icmpeq (tgt := 1378) dLw_law_1373 (by decide) (fun c19 => ?_) (fun c19 => ?_)
  · have hw := hw.1 c19
    refine tq_iload dLw_law_1378 rfl ?_
    refine tq_ifne (tgt := 1395) dLw_law_1380 (by decide) (fun c20 => ?_) (fun c20 => ?_)
    · have hw := hw.1 c20
      refine tq_goto (tgt := 2520) dLw_law_1395 (by decide) ?_
      refine tq_inc (k := (6 : Int32)) (ls' := [some (vR x0), some (vR x1), some (vR x2), some (vR x3), some (vR x4), some (vI (x5 + (6 : Int32))), some (vI v7), some (vI v15)]) dLw_law_2520 rfl tni_6 (Nat.le_of_ble_eq_true rfl) rfl ?_
      refine tq_goto (tgt := 28) dLw_law_2523 (by decide) ?_
      refine tpR.fo (ls' := [some (vR x0), some (vR x1), some (vR x2), some (vR x3), some (vR x4), some (vI (x5 + (6 : Int32))), none, none]) ?_ (And.intro rfl (And.intro rfl (And.intro rfl (And.intro rfl (And.intro rfl (And.intro rfl trivial))))))
      exact k28 _ _ _ _ _ _ _ hw
    · have hw := hw.2 c20
      refine tq_aload_n dLw_law_1383 rfl rfl ?_
      refine tq_iconst (v := (0 : Int32)) dLw_law_1384 tni_0 ?_
      obtain ⟨a21, e22, f23, hw⟩ := hw
      obtain ⟨f24, hw⟩ := hw
      refine te_lald dLw_law_1385 e22 f23 f24 ?_
      refine tq_iload dLw_law_1386 rfl ?_
      refine tq_i2l dLw_law_1388 ?_
      refine tq_lcmp dLw_law_1389 ?_
      refine tq_ifeq (tgt := 1395) dLw_law_1390 (by decide) (fun c25 => ?_) (fun c25 => ?_)
      · have hw := hw.1 c25
        refine tq_goto (tgt := 2520) dLw_law_1395 (by decide) ?_
        refine tq_inc (k := (6 : Int32)) (ls' := [some (vR x0), some (vR x1), some (vR x2), some (vR x3), some (vR x4), some (vI (x5 + (6 : Int32))), some (vI v7), some (vI v15)]) dLw_law_2520 rfl tni_6 (Nat.le_of_ble_eq_true rfl) rfl ?_
        refine tq_goto (tgt := 28) dLw_law_2523 (by decide) ?_
        refine tpR.fo (ls' := [some (vR x0), some (vR x1), some (vR x2), some (vR x3), some (vR x4), some (vI (x5 + (6 : Int32))), none, none]) ?_ (And.intro rfl (And.intro rfl (And.intro rfl (And.intro rfl (And.intro rfl (And.intro rfl trivial))))))
        exact k28 _ _ _ _ _ _ _ hw
      · have hw := hw.2 c25
        refine tq_iconst (v := (0 : Int32)) dLw_law_1393 tni_0 ?_
        exact tq_iret rfl (by decide) dLw_law_1394 hw
  · have hw := hw.2 c19
    refine tq_iconst (v := (0 : Int32)) dLw_law_1376 tni_0 ?_
    exact tq_iret rfl (by decide) dLw_law_1377 hw
theorem s_Lw_law_1398 {h0 : tpH} {av : List tpV} {R : Int32 → tpH → Prop} {K28 : (Option Nat) → (Option Nat) → (Option Nat) → (Option Nat) → (Option Nat) → Int32 → tpH → Prop} (k28 : ∀ (x0 : Option Nat) (x1 : Option Nat) (x2 : Option Nat) (x3 : Option Nat) (x4 : Option Nat) (x5 : Int32) (h : tpH), K28 x0 x1 x2 x3 x4 x5 h → tpR Lw_main 11 h0 av (tpOi R (fun _ _ => False)) 28 [some (vR x0), some (vR x1), some (vR x2), some (vR x3), some (vR x4), some (vI x5), none, none] [] h) : ∀ (x0 : Option Nat) (x1 : Option Nat) (x2 : Option Nat) (x3 : Option Nat) (x4 : Option Nat) (x5 : Int32) (h : tpH), w_Lw_law_1398 R K28 x0 x1 x2 x3 x4 x5 h → tpR Lw_main 11 h0 av (tpOi R (fun _ _ => False)) 1398 [some (vR x0), some (vR x1), some (vR x2), some (vR x3), some (vR x4), some (vI x5), none, none] [] h := by
  intro x0 x1 x2 x3 x4 x5 h hw
  unfold w_Lw_law_1398 at hw
  refine tq_aload_n dLw_law_1398 rfl rfl ?_
  refine tq_aload_n dLw_law_1399 rfl rfl ?_
  refine tq_iload dLw_law_1400 rfl ?_
  refine tq_iconst (v := (1 : Int32)) dLw_law_1402 tni_1 ?_
  refine tq_iadd dLw_law_1403 ?_
  obtain ⟨a1, e2, f3, hw⟩ := hw
  obtain ⟨f4, hw⟩ := hw
  refine te_iald dLw_law_1404 e2 (Or.inr f3) f4 ?_
  refine tq_aload_n dLw_law_1405 rfl rfl ?_
  refine tq_iload dLw_law_1406 rfl ?_
  refine tq_iconst (v := (2 : Int32)) dLw_law_1408 tni_2 ?_
  refine tq_iadd dLw_law_1409 ?_
  obtain ⟨f5, hw⟩ := hw
  refine te_iald dLw_law_1410 e2 (Or.inr f3) f5 ?_
  refine tq_aload_n dLw_law_1411 rfl rfl ?_
  refine tq_callSX ms_Lw_value (by intro hz; cases hz) (dc := 8) (as := [vR x1, vI (hI h a1 (x5 + (1 : Int32)).toNatClampNeg), vI (hI h a1 (x5 + (2 : Int32)).toNatClampNeg), vR x3]) (rest := []) kLw_193 (Nat.le_of_ble_eq_true rfl) (Nat.le_of_ble_eq_true rfl) rfl rfl (Nat.le_of_ble_eq_true rfl) dLw_law_1412 (s_Lw_value hw) (fun _ _ hx => False.elim hx) (tk_i fun v7 h6 hw => ?_)
  refine tq_istore (ls' := [some (vR x0), some (vR x1), some (vR x2), some (vR x3), some (vR x4), some (vI x5), some (vI v7), none]) dLw_law_1415 (Nat.le_of_ble_eq_true rfl) rfl ?_
  refine tq_aload_n dLw_law_1417 rfl rfl ?_
  refine tq_aload_n dLw_law_1418 rfl rfl ?_
  refine tq_iload dLw_law_1419 rfl ?_
  refine tq_iconst (v := (1 : Int32)) dLw_law_1421 tni_1 ?_
  refine tq_iadd dLw_law_1422 ?_
  obtain ⟨f8, hw⟩ := hw
  obtain ⟨f9, hw⟩ := hw
  refine te_iald dLw_law_1423 e2 (Or.inr f8) f9 ?_
  refine tq_aload_n dLw_law_1424 rfl rfl ?_
  refine tq_iload dLw_law_1425 rfl ?_
  refine tq_iconst (v := (2 : Int32)) dLw_law_1427 tni_2 ?_
  refine tq_iadd dLw_law_1428 ?_
  obtain ⟨f10, hw⟩ := hw
  refine te_iald dLw_law_1429 e2 (Or.inr f8) f10 ?_
  obtain ⟨a11, e12, f13, hw⟩ := hw
  refine te_callV mv_Md_value (ci := 13) (dc := 3) (as := [vI (hI h6 a1 (x5 + (1 : Int32)).toNatClampNeg), vI (hI h6 a1 (x5 + (2 : Int32)).toNatClampNeg)]) (rest := []) kLw_195 rfl (Nat.le_of_ble_eq_true rfl) (Nat.le_of_ble_eq_true rfl) rfl rfl e12 f13 (Nat.le_of_ble_eq_true rfl) dLw_law_1430 (s_Md_value hw) (fun _ _ hx => False.elim hx) (tk_i fun v15 h14 hw => ?_)
  refine tq_istore (ls' := [some (vR x0), some (vR x1), some (vR x2), some (vR x3), some (vR x4), some (vI x5), some (vI v7), some (vI v15)]) dLw_law_1433 (Nat.le_of_ble_eq_true rfl) rfl ?_
  refine tq_aload_n dLw_law_1435 rfl rfl ?_
  obtain ⟨f16, hw⟩ := hw
  refine te_callV mv_Md_thrown (ci := 13) (dc := 0) (as := []) (rest := []) kLw_130 rfl (Nat.le_of_ble_eq_true rfl) (Nat.le_of_ble_eq_true rfl) rfl rfl e12 f16 (Nat.le_of_ble_eq_true rfl) dLw_law_1436 (s_Md_thrown hw) (fun _ _ hx => False.elim hx) (tk_i fun v18 h17 hw => ?_)
  refine tq_iload dLw_law_1439 rfl ?_
  refine tq_icmpeq (tgt := 1446) dLw_law_1441 (by decide) (fun c19 => ?_) (fun c19 => ?_)
  · have hw := hw.1 c19
    refine tq_iload dLw_law_1446 rfl ?_
    refine tq_ifne (tgt := 1463) dLw_law_1448 (by decide) (fun c20 => ?_) (fun c20 => ?_)
    · have hw := hw.1 c20
      refine tq_goto (tgt := 2520) dLw_law_1463 (by decide) ?_
      refine tq_inc (k := (6 : Int32)) (ls' := [some (vR x0), some (vR x1), some (vR x2), some (vR x3), some (vR x4), some (vI (x5 + (6 : Int32))), some (vI v7), some (vI v15)]) dLw_law_2520 rfl tni_6 (Nat.le_of_ble_eq_true rfl) rfl ?_
      refine tq_goto (tgt := 28) dLw_law_2523 (by decide) ?_
      refine tpR.fo (ls' := [some (vR x0), some (vR x1), some (vR x2), some (vR x3), some (vR x4), some (vI (x5 + (6 : Int32))), none, none]) ?_ (And.intro rfl (And.intro rfl (And.intro rfl (And.intro rfl (And.intro rfl (And.intro rfl trivial))))))
      exact k28 _ _ _ _ _ _ _ hw
    · have hw := hw.2 c20
      refine tq_aload_n dLw_law_1451 rfl rfl ?_
      refine tq_iconst (v := (0 : Int32)) dLw_law_1452 tni_0 ?_
      obtain ⟨a21, e22, f23, hw⟩ := hw
      obtain ⟨f24, hw⟩ := hw
      refine te_lald dLw_law_1453 e22 f23 f24 ?_
      refine tq_iload dLw_law_1454 rfl ?_
      refine tq_i2l dLw_law_1456 ?_
      refine tq_lcmp dLw_law_1457 ?_
      refine tq_ifeq (tgt := 1463) dLw_law_1458 (by decide) (fun c25 => ?_) (fun c25 => ?_)
      · have hw := hw.1 c25
        refine tq_goto (tgt := 2520) dLw_law_1463 (by decide) ?_
        refine tq_inc (k := (6 : Int32)) (ls' := [some (vR x0), some (vR x1), some (vR x2), some (vR x3), some (vR x4), some (vI (x5 + (6 : Int32))), some (vI v7), some (vI v15)]) dLw_law_2520 rfl tni_6 (Nat.le_of_ble_eq_true rfl) rfl ?_
        refine tq_goto (tgt := 28) dLw_law_2523 (by decide) ?_
        refine tpR.fo (ls' := [some (vR x0), some (vR x1), some (vR x2), some (vR x3), some (vR x4), some (vI (x5 + (6 : Int32))), none, none]) ?_ (And.intro rfl (And.intro rfl (And.intro rfl (And.intro rfl (And.intro rfl (And.intro rfl trivial))))))
        exact k28 _ _ _ _ _ _ _ hw
      · have hw := hw.2 c25
        refine tq_iconst (v := (0 : Int32)) dLw_law_1461 tni_0 ?_
        exact tq_iret rfl (by decide) dLw_law_1462 hw
  · have hw := hw.2 c19
    refine tq_iconst (v := (0 : Int32)) dLw_law_1444 tni_0 ?_
    exact tq_iret rfl (by decide) dLw_law_1445 hw
theorem s_Lw_law_1466 {h0 : tpH} {av : List tpV} {R : Int32 → tpH → Prop} {K28 : (Option Nat) → (Option Nat) → (Option Nat) → (Option Nat) → (Option Nat) → Int32 → tpH → Prop} (k28 : ∀ (x0 : Option Nat) (x1 : Option Nat) (x2 : Option Nat) (x3 : Option Nat) (x4 : Option Nat) (x5 : Int32) (h : tpH), K28 x0 x1 x2 x3 x4 x5 h → tpR Lw_main 11 h0 av (tpOi R (fun _ _ => False)) 28 [some (vR x0), some (vR x1), some (vR x2), some (vR x3), some (vR x4), some (vI x5), none, none] [] h) : ∀ (x0 : Option Nat) (x1 : Option Nat) (x2 : Option Nat) (x3 : Option Nat) (x4 : Option Nat) (x5 : Int32) (h : tpH), w_Lw_law_1466 R K28 x0 x1 x2 x3 x4 x5 h → tpR Lw_main 11 h0 av (tpOi R (fun _ _ => False)) 1466 [some (vR x0), some (vR x1), some (vR x2), some (vR x3), some (vR x4), some (vI x5), none, none] [] h := by
  intro x0 x1 x2 x3 x4 x5 h hw
  unfold w_Lw_law_1466 at hw
  refine tq_aload_n dLw_law_1466 rfl rfl ?_
  refine tq_aload_n dLw_law_1467 rfl rfl ?_
  refine tq_iload dLw_law_1468 rfl ?_
  refine tq_iconst (v := (1 : Int32)) dLw_law_1470 tni_1 ?_
  refine tq_iadd dLw_law_1471 ?_
  obtain ⟨a1, e2, f3, hw⟩ := hw
  obtain ⟨f4, hw⟩ := hw
  refine te_iald dLw_law_1472 e2 (Or.inr f3) f4 ?_
  refine tq_aload_n dLw_law_1473 rfl rfl ?_
  refine tq_iload dLw_law_1474 rfl ?_
  refine tq_iconst (v := (2 : Int32)) dLw_law_1476 tni_2 ?_
  refine tq_iadd dLw_law_1477 ?_
  obtain ⟨f5, hw⟩ := hw
  refine te_iald dLw_law_1478 e2 (Or.inr f3) f5 ?_
  refine tq_aload_n dLw_law_1479 rfl rfl ?_
  refine tq_callSX ms_Lw_parent (by intro hz; cases hz) (dc := 8) (as := [vR x1, vI (hI h a1 (x5 + (1 : Int32)).toNatClampNeg), vI (hI h a1 (x5 + (2 : Int32)).toNatClampNeg), vR x3]) (rest := []) kLw_196 (Nat.le_of_ble_eq_true rfl) (Nat.le_of_ble_eq_true rfl) rfl rfl (Nat.le_of_ble_eq_true rfl) dLw_law_1480 (s_Lw_parent hw) (fun _ _ hx => False.elim hx) (tk_i fun v7 h6 hw => ?_)
  refine tq_istore (ls' := [some (vR x0), some (vR x1), some (vR x2), some (vR x3), some (vR x4), some (vI x5), some (vI v7), none]) dLw_law_1483 (Nat.le_of_ble_eq_true rfl) rfl ?_
  refine tq_aload_n dLw_law_1485 rfl rfl ?_
  refine tq_aload_n dLw_law_1486 rfl rfl ?_
  refine tq_iload dLw_law_1487 rfl ?_
  refine tq_iconst (v := (1 : Int32)) dLw_law_1489 tni_1 ?_
  refine tq_iadd dLw_law_1490 ?_
  obtain ⟨f8, hw⟩ := hw
  obtain ⟨f9, hw⟩ := hw
  refine te_iald dLw_law_1491 e2 (Or.inr f8) f9 ?_
  refine tq_aload_n dLw_law_1492 rfl rfl ?_
  refine tq_iload dLw_law_1493 rfl ?_
  refine tq_iconst (v := (2 : Int32)) dLw_law_1495 tni_2 ?_
  refine tq_iadd dLw_law_1496 ?_
  obtain ⟨f10, hw⟩ := hw
  refine te_iald dLw_law_1497 e2 (Or.inr f8) f10 ?_
  obtain ⟨a11, e12, f13, hw⟩ := hw
  refine te_callV mv_Md_parent (ci := 13) (dc := 3) (as := [vI (hI h6 a1 (x5 + (1 : Int32)).toNatClampNeg), vI (hI h6 a1 (x5 + (2 : Int32)).toNatClampNeg)]) (rest := []) kLw_198 rfl (Nat.le_of_ble_eq_true rfl) (Nat.le_of_ble_eq_true rfl) rfl rfl e12 f13 (Nat.le_of_ble_eq_true rfl) dLw_law_1498 (s_Md_parent hw) (fun _ _ hx => False.elim hx) (tk_i fun v15 h14 hw => ?_)
  refine tq_istore (ls' := [some (vR x0), some (vR x1), some (vR x2), some (vR x3), some (vR x4), some (vI x5), some (vI v7), some (vI v15)]) dLw_law_1501 (Nat.le_of_ble_eq_true rfl) rfl ?_
  refine tq_aload_n dLw_law_1503 rfl rfl ?_
  obtain ⟨f16, hw⟩ := hw
  refine te_callV mv_Md_thrown (ci := 13) (dc := 0) (as := []) (rest := []) kLw_130 rfl (Nat.le_of_ble_eq_true rfl) (Nat.le_of_ble_eq_true rfl) rfl rfl e12 f16 (Nat.le_of_ble_eq_true rfl) dLw_law_1504 (s_Md_thrown hw) (fun _ _ hx => False.elim hx) (tk_i fun v18 h17 hw => ?_)
  refine tq_iload dLw_law_1507 rfl ?_
  refine tq_icmpeq (tgt := 1514) dLw_law_1509 (by decide) (fun c19 => ?_) (fun c19 => ?_)
  · have hw := hw.1 c19
    refine tq_iload dLw_law_1514 rfl ?_
    refine tq_ifne (tgt := 1531) dLw_law_1516 (by decide) (fun c20 => ?_) (fun c20 => ?_)
    · have hw := hw.1 c20
      refine tq_goto (tgt := 2520) dLw_law_1531 (by decide) ?_
      refine tq_inc (k := (6 : Int32)) (ls' := [some (vR x0), some (vR x1), some (vR x2), some (vR x3), some (vR x4), some (vI (x5 + (6 : Int32))), some (vI v7), some (vI v15)]) dLw_law_2520 rfl tni_6 (Nat.le_of_ble_eq_true rfl) rfl ?_
      refine tq_goto (tgt := 28) dLw_law_2523 (by decide) ?_
      refine tpR.fo (ls' := [some (vR x0), some (vR x1), some (vR x2), some (vR x3), some (vR x4), some (vI (x5 + (6 : Int32))), none, none]) ?_ (And.intro rfl (And.intro rfl (And.intro rfl (And.intro rfl (And.intro rfl (And.intro rfl trivial))))))
      exact k28 _ _ _ _ _ _ _ hw
    · have hw := hw.2 c20
      refine tq_aload_n dLw_law_1519 rfl rfl ?_
      refine tq_iconst (v := (0 : Int32)) dLw_law_1520 tni_0 ?_
      obtain ⟨a21, e22, f23, hw⟩ := hw
      obtain ⟨f24, hw⟩ := hw
      refine te_lald dLw_law_1521 e22 f23 f24 ?_
      refine tq_iload dLw_law_1522 rfl ?_
      refine tq_i2l dLw_law_1524 ?_
      refine tq_lcmp dLw_law_1525 ?_
      refine tq_ifeq (tgt := 1531) dLw_law_1526 (by decide) (fun c25 => ?_) (fun c25 => ?_)
      · have hw := hw.1 c25
        refine tq_goto (tgt := 2520) dLw_law_1531 (by decide) ?_
        refine tq_inc (k := (6 : Int32)) (ls' := [some (vR x0), some (vR x1), some (vR x2), some (vR x3), some (vR x4), some (vI (x5 + (6 : Int32))), some (vI v7), some (vI v15)]) dLw_law_2520 rfl tni_6 (Nat.le_of_ble_eq_true rfl) rfl ?_
        refine tq_goto (tgt := 28) dLw_law_2523 (by decide) ?_
        refine tpR.fo (ls' := [some (vR x0), some (vR x1), some (vR x2), some (vR x3), some (vR x4), some (vI (x5 + (6 : Int32))), none, none]) ?_ (And.intro rfl (And.intro rfl (And.intro rfl (And.intro rfl (And.intro rfl (And.intro rfl trivial))))))
        exact k28 _ _ _ _ _ _ _ hw
      · have hw := hw.2 c25
        refine tq_iconst (v := (0 : Int32)) dLw_law_1529 tni_0 ?_
        exact tq_iret rfl (by decide) dLw_law_1530 hw
  · have hw := hw.2 c19
    refine tq_iconst (v := (0 : Int32)) dLw_law_1512 tni_0 ?_
    exact tq_iret rfl (by decide) dLw_law_1513 hw
theorem s_Lw_law_1600 {h0 : tpH} {av : List tpV} {R : Int32 → tpH → Prop} {K28 : (Option Nat) → (Option Nat) → (Option Nat) → (Option Nat) → (Option Nat) → Int32 → tpH → Prop} (k28 : ∀ (x0 : Option Nat) (x1 : Option Nat) (x2 : Option Nat) (x3 : Option Nat) (x4 : Option Nat) (x5 : Int32) (h : tpH), K28 x0 x1 x2 x3 x4 x5 h → tpR Lw_main 11 h0 av (tpOi R (fun _ _ => False)) 28 [some (vR x0), some (vR x1), some (vR x2), some (vR x3), some (vR x4), some (vI x5), none, none] [] h) : ∀ (x0 : Option Nat) (x1 : Option Nat) (x2 : Option Nat) (x3 : Option Nat) (x4 : Option Nat) (x5 : Int32) (t0 : Int64) (t1 : Int64) (h : tpH), w_Lw_law_1600 R K28 x0 x1 x2 x3 x4 x5 t0 t1 h → tpR Lw_main 11 h0 av (tpOi R (fun _ _ => False)) 1600 [some (vR x0), some (vR x1), some (vR x2), some (vR x3), some (vR x4), some (vI x5), none, none] [vJ t0, vJ t1] h := by
  intro x0 x1 x2 x3 x4 x5 t0 t1 h hw
  unfold w_Lw_law_1600 at hw
  refine tq_lcmp dLw_law_1600 ?_
  refine tq_ifeq (tgt := 1606) dLw_law_1601 (by decide) (fun c1 => ?_) (fun c1 => ?_)
  · have hw := hw.1 c1
    refine tq_goto (tgt := 2520) dLw_law_1606 (by decide) ?_
    refine tq_inc (k := (6 : Int32)) (ls' := [some (vR x0), some (vR x1), some (vR x2), some (vR x3), some (vR x4), some (vI (x5 + (6 : Int32))), none, none]) dLw_law_2520 rfl tni_6 (Nat.le_of_ble_eq_true rfl) rfl ?_
    refine tq_goto (tgt := 28) dLw_law_2523 (by decide) ?_
    refine tpR.fo (ls' := [some (vR x0), some (vR x1), some (vR x2), some (vR x3), some (vR x4), some (vI (x5 + (6 : Int32))), none, none]) ?_ (And.intro rfl (And.intro rfl (And.intro rfl (And.intro rfl (And.intro rfl (And.intro rfl trivial))))))
    exact k28 _ _ _ _ _ _ _ hw
  · have hw := hw.2 c1
    refine tq_iconst (v := (0 : Int32)) dLw_law_1604 tni_0 ?_
    exact tq_iret rfl (by decide) dLw_law_1605 hw
theorem s_Lw_law_1534 {h0 : tpH} {av : List tpV} {R : Int32 → tpH → Prop} {K28 : (Option Nat) → (Option Nat) → (Option Nat) → (Option Nat) → (Option Nat) → Int32 → tpH → Prop} (k28 : ∀ (x0 : Option Nat) (x1 : Option Nat) (x2 : Option Nat) (x3 : Option Nat) (x4 : Option Nat) (x5 : Int32) (h : tpH), K28 x0 x1 x2 x3 x4 x5 h → tpR Lw_main 11 h0 av (tpOi R (fun _ _ => False)) 28 [some (vR x0), some (vR x1), some (vR x2), some (vR x3), some (vR x4), some (vI x5), none, none] [] h) : ∀ (x0 : Option Nat) (x1 : Option Nat) (x2 : Option Nat) (x3 : Option Nat) (x4 : Option Nat) (x5 : Int32) (h : tpH), w_Lw_law_1534 R K28 x0 x1 x2 x3 x4 x5 h → tpR Lw_main 11 h0 av (tpOi R (fun _ _ => False)) 1534 [some (vR x0), some (vR x1), some (vR x2), some (vR x3), some (vR x4), some (vI x5), none, none] [] h := by
  intro x0 x1 x2 x3 x4 x5 h hw
  unfold w_Lw_law_1534 at hw
  refine tq_aload_n dLw_law_1534 rfl rfl ?_
  refine tq_aload_n dLw_law_1535 rfl rfl ?_
  refine tq_iload dLw_law_1536 rfl ?_
  refine tq_iconst (v := (1 : Int32)) dLw_law_1538 tni_1 ?_
  refine tq_iadd dLw_law_1539 ?_
  obtain ⟨a1, e2, f3, hw⟩ := hw
  obtain ⟨f4, hw⟩ := hw
  refine te_iald dLw_law_1540 e2 (Or.inr f3) f4 ?_
  refine tq_aload_n dLw_law_1541 rfl rfl ?_
  refine tq_iload dLw_law_1542 rfl ?_
  refine tq_iconst (v := (2 : Int32)) dLw_law_1544 tni_2 ?_
  refine tq_iadd dLw_law_1545 ?_
  obtain ⟨f5, hw⟩ := hw
  refine te_iald dLw_law_1546 e2 (Or.inr f3) f5 ?_
  refine tq_aload_n dLw_law_1547 rfl rfl ?_
  refine tq_callSX ms_Lw_areAlike (by intro hz; cases hz) (dc := 8) (as := [vR x1, vI (hI h a1 (x5 + (1 : Int32)).toNatClampNeg), vI (hI h a1 (x5 + (2 : Int32)).toNatClampNeg), vR x3]) (rest := []) kLw_199 (Nat.le_of_ble_eq_true rfl) (Nat.le_of_ble_eq_true rfl) rfl rfl (Nat.le_of_ble_eq_true rfl) dLw_law_1548 (s_Lw_areAlike hw) (fun _ _ hx => False.elim hx) (tk_i fun v7 h6 hw => ?_)
  refine tq_istore (ls' := [some (vR x0), some (vR x1), some (vR x2), some (vR x3), some (vR x4), some (vI x5), some (vI v7), none]) dLw_law_1551 (Nat.le_of_ble_eq_true rfl) rfl ?_
  refine tq_aload_n dLw_law_1553 rfl rfl ?_
  refine tq_aload_n dLw_law_1554 rfl rfl ?_
  refine tq_iload dLw_law_1555 rfl ?_
  refine tq_iconst (v := (1 : Int32)) dLw_law_1557 tni_1 ?_
  refine tq_iadd dLw_law_1558 ?_
  obtain ⟨f8, hw⟩ := hw
  obtain ⟨f9, hw⟩ := hw
  refine te_iald dLw_law_1559 e2 (Or.inr f8) f9 ?_
  refine tq_aload_n dLw_law_1560 rfl rfl ?_
  refine tq_iload dLw_law_1561 rfl ?_
  refine tq_iconst (v := (2 : Int32)) dLw_law_1563 tni_2 ?_
  refine tq_iadd dLw_law_1564 ?_
  obtain ⟨f10, hw⟩ := hw
  refine te_iald dLw_law_1565 e2 (Or.inr f8) f10 ?_
  obtain ⟨a11, e12, f13, hw⟩ := hw
  refine te_callV mv_Md_areAlike (ci := 13) (dc := 4) (as := [vI (hI h6 a1 (x5 + (1 : Int32)).toNatClampNeg), vI (hI h6 a1 (x5 + (2 : Int32)).toNatClampNeg)]) (rest := []) kLw_201 rfl (Nat.le_of_ble_eq_true rfl) (Nat.le_of_ble_eq_true rfl) rfl rfl e12 f13 (Nat.le_of_ble_eq_true rfl) dLw_law_1566 (s_Md_areAlike hw) (fun _ _ hx => False.elim hx) (tk_i fun v15 h14 hw => ?_)
  refine tq_istore (ls' := [some (vR x0), some (vR x1), some (vR x2), some (vR x3), some (vR x4), some (vI x5), some (vI v7), some (vI v15)]) dLw_law_1569 (Nat.le_of_ble_eq_true rfl) rfl ?_
  refine tq_aload_n dLw_law_1571 rfl rfl ?_
  obtain ⟨f16, hw⟩ := hw
  refine te_callV mv_Md_thrown (ci := 13) (dc := 0) (as := []) (rest := []) kLw_130 rfl (Nat.le_of_ble_eq_true rfl) (Nat.le_of_ble_eq_true rfl) rfl rfl e12 f16 (Nat.le_of_ble_eq_true rfl) dLw_law_1572 (s_Md_thrown hw) (fun _ _ hx => False.elim hx) (tk_i fun v18 h17 hw => ?_)
  refine tq_iload dLw_law_1575 rfl ?_
  refine tq_icmpeq (tgt := 1582) dLw_law_1577 (by decide) (fun c19 => ?_) (fun c19 => ?_)
  · have hw := hw.1 c19
    refine tq_iload dLw_law_1582 rfl ?_
    refine tq_ifne (tgt := 1606) dLw_law_1584 (by decide) (fun c20 => ?_) (fun c20 => ?_)
    · have hw := hw.1 c20
      refine tq_goto (tgt := 2520) dLw_law_1606 (by decide) ?_
      refine tq_inc (k := (6 : Int32)) (ls' := [some (vR x0), some (vR x1), some (vR x2), some (vR x3), some (vR x4), some (vI (x5 + (6 : Int32))), some (vI v7), some (vI v15)]) dLw_law_2520 rfl tni_6 (Nat.le_of_ble_eq_true rfl) rfl ?_
      refine tq_goto (tgt := 28) dLw_law_2523 (by decide) ?_
      refine tpR.fo (ls' := [some (vR x0), some (vR x1), some (vR x2), some (vR x3), some (vR x4), some (vI (x5 + (6 : Int32))), none, none]) ?_ (And.intro rfl (And.intro rfl (And.intro rfl (And.intro rfl (And.intro rfl (And.intro rfl trivial))))))
      exact k28 _ _ _ _ _ _ _ hw
    · have hw := hw.2 c20
      refine tq_aload_n dLw_law_1587 rfl rfl ?_
      refine tq_iconst (v := (0 : Int32)) dLw_law_1588 tni_0 ?_
      obtain ⟨a21, e22, f23, hw⟩ := hw
      obtain ⟨f24, hw⟩ := hw
      refine te_lald dLw_law_1589 e22 f23 f24 ?_
      refine tq_iload dLw_law_1590 rfl ?_
      refine tq_ifeq (tgt := 1599) dLw_law_1592 (by decide) (fun c25 => ?_) (fun c25 => ?_)
      · have hw := hw.1 c25
        refine tq_lconst (v := 0) dLw_law_1599 (by decide) ?_
        refine tpR.fo (ls' := [some (vR x0), some (vR x1), some (vR x2), some (vR x3), some (vR x4), some (vI x5), none, none]) ?_ (And.intro rfl (And.intro rfl (And.intro rfl (And.intro rfl (And.intro rfl (And.intro rfl trivial))))))
        exact s_Lw_law_1600 k28 _ _ _ _ _ _ _ _ _ hw
      · have hw := hw.2 c25
        refine tq_lconst (v := 1) dLw_law_1595 (by decide) ?_
        refine tq_goto (tgt := 1600) dLw_law_1596 (by decide) ?_
        refine tpR.fo (ls' := [some (vR x0), some (vR x1), some (vR x2), some (vR x3), some (vR x4), some (vI x5), none, none]) ?_ (And.intro rfl (And.intro rfl (And.intro rfl (And.intro rfl (And.intro rfl (And.intro rfl trivial))))))
        exact s_Lw_law_1600 k28 _ _ _ _ _ _ _ _ _ hw
  · have hw := hw.2 c19
    refine tq_iconst (v := (0 : Int32)) dLw_law_1580 tni_0 ?_
    exact tq_iret rfl (by decide) dLw_law_1581 hw
theorem s_Lw_law_1675 {h0 : tpH} {av : List tpV} {R : Int32 → tpH → Prop} {K28 : (Option Nat) → (Option Nat) → (Option Nat) → (Option Nat) → (Option Nat) → Int32 → tpH → Prop} (k28 : ∀ (x0 : Option Nat) (x1 : Option Nat) (x2 : Option Nat) (x3 : Option Nat) (x4 : Option Nat) (x5 : Int32) (h : tpH), K28 x0 x1 x2 x3 x4 x5 h → tpR Lw_main 11 h0 av (tpOi R (fun _ _ => False)) 28 [some (vR x0), some (vR x1), some (vR x2), some (vR x3), some (vR x4), some (vI x5), none, none] [] h) : ∀ (x0 : Option Nat) (x1 : Option Nat) (x2 : Option Nat) (x3 : Option Nat) (x4 : Option Nat) (x5 : Int32) (t0 : Int64) (t1 : Int64) (h : tpH), w_Lw_law_1675 R K28 x0 x1 x2 x3 x4 x5 t0 t1 h → tpR Lw_main 11 h0 av (tpOi R (fun _ _ => False)) 1675 [some (vR x0), some (vR x1), some (vR x2), some (vR x3), some (vR x4), some (vI x5), none, none] [vJ t0, vJ t1] h := by
  intro x0 x1 x2 x3 x4 x5 t0 t1 h hw
  unfold w_Lw_law_1675 at hw
  refine tq_lcmp dLw_law_1675 ?_
  refine tq_ifeq (tgt := 1681) dLw_law_1676 (by decide) (fun c1 => ?_) (fun c1 => ?_)
  · have hw := hw.1 c1
    refine tq_goto (tgt := 2520) dLw_law_1681 (by decide) ?_
    refine tq_inc (k := (6 : Int32)) (ls' := [some (vR x0), some (vR x1), some (vR x2), some (vR x3), some (vR x4), some (vI (x5 + (6 : Int32))), none, none]) dLw_law_2520 rfl tni_6 (Nat.le_of_ble_eq_true rfl) rfl ?_
    refine tq_goto (tgt := 28) dLw_law_2523 (by decide) ?_
    refine tpR.fo (ls' := [some (vR x0), some (vR x1), some (vR x2), some (vR x3), some (vR x4), some (vI (x5 + (6 : Int32))), none, none]) ?_ (And.intro rfl (And.intro rfl (And.intro rfl (And.intro rfl (And.intro rfl (And.intro rfl trivial))))))
    exact k28 _ _ _ _ _ _ _ hw
  · have hw := hw.2 c1
    refine tq_iconst (v := (0 : Int32)) dLw_law_1679 tni_0 ?_
    exact tq_iret rfl (by decide) dLw_law_1680 hw
theorem s_Lw_law_1609 {h0 : tpH} {av : List tpV} {R : Int32 → tpH → Prop} {K28 : (Option Nat) → (Option Nat) → (Option Nat) → (Option Nat) → (Option Nat) → Int32 → tpH → Prop} (k28 : ∀ (x0 : Option Nat) (x1 : Option Nat) (x2 : Option Nat) (x3 : Option Nat) (x4 : Option Nat) (x5 : Int32) (h : tpH), K28 x0 x1 x2 x3 x4 x5 h → tpR Lw_main 11 h0 av (tpOi R (fun _ _ => False)) 28 [some (vR x0), some (vR x1), some (vR x2), some (vR x3), some (vR x4), some (vI x5), none, none] [] h) : ∀ (x0 : Option Nat) (x1 : Option Nat) (x2 : Option Nat) (x3 : Option Nat) (x4 : Option Nat) (x5 : Int32) (h : tpH), w_Lw_law_1609 R K28 x0 x1 x2 x3 x4 x5 h → tpR Lw_main 11 h0 av (tpOi R (fun _ _ => False)) 1609 [some (vR x0), some (vR x1), some (vR x2), some (vR x3), some (vR x4), some (vI x5), none, none] [] h := by
  intro x0 x1 x2 x3 x4 x5 h hw
  unfold w_Lw_law_1609 at hw
  refine tq_aload_n dLw_law_1609 rfl rfl ?_
  refine tq_aload_n dLw_law_1610 rfl rfl ?_
  refine tq_iload dLw_law_1611 rfl ?_
  refine tq_iconst (v := (1 : Int32)) dLw_law_1613 tni_1 ?_
  refine tq_iadd dLw_law_1614 ?_
  obtain ⟨a1, e2, f3, hw⟩ := hw
  obtain ⟨f4, hw⟩ := hw
  refine te_iald dLw_law_1615 e2 (Or.inr f3) f4 ?_
  refine tq_aload_n dLw_law_1616 rfl rfl ?_
  refine tq_iload dLw_law_1617 rfl ?_
  refine tq_iconst (v := (2 : Int32)) dLw_law_1619 tni_2 ?_
  refine tq_iadd dLw_law_1620 ?_
  obtain ⟨f5, hw⟩ := hw
  refine te_iald dLw_law_1621 e2 (Or.inr f3) f5 ?_
  refine tq_aload_n dLw_law_1622 rfl rfl ?_
  refine tq_callSX ms_Lw_areSame (by intro hz; cases hz) (dc := 8) (as := [vR x1, vI (hI h a1 (x5 + (1 : Int32)).toNatClampNeg), vI (hI h a1 (x5 + (2 : Int32)).toNatClampNeg), vR x3]) (rest := []) kLw_202 (Nat.le_of_ble_eq_true rfl) (Nat.le_of_ble_eq_true rfl) rfl rfl (Nat.le_of_ble_eq_true rfl) dLw_law_1623 (s_Lw_areSame hw) (fun _ _ hx => False.elim hx) (tk_i fun v7 h6 hw => ?_)
  refine tq_istore (ls' := [some (vR x0), some (vR x1), some (vR x2), some (vR x3), some (vR x4), some (vI x5), some (vI v7), none]) dLw_law_1626 (Nat.le_of_ble_eq_true rfl) rfl ?_
  refine tq_aload_n dLw_law_1628 rfl rfl ?_
  refine tq_aload_n dLw_law_1629 rfl rfl ?_
  refine tq_iload dLw_law_1630 rfl ?_
  refine tq_iconst (v := (1 : Int32)) dLw_law_1632 tni_1 ?_
  refine tq_iadd dLw_law_1633 ?_
  obtain ⟨f8, hw⟩ := hw
  obtain ⟨f9, hw⟩ := hw
  refine te_iald dLw_law_1634 e2 (Or.inr f8) f9 ?_
  refine tq_aload_n dLw_law_1635 rfl rfl ?_
  refine tq_iload dLw_law_1636 rfl ?_
  refine tq_iconst (v := (2 : Int32)) dLw_law_1638 tni_2 ?_
  refine tq_iadd dLw_law_1639 ?_
  obtain ⟨f10, hw⟩ := hw
  refine te_iald dLw_law_1640 e2 (Or.inr f8) f10 ?_
  obtain ⟨a11, e12, f13, hw⟩ := hw
  refine te_callV mv_Md_areSame (ci := 13) (dc := 3) (as := [vI (hI h6 a1 (x5 + (1 : Int32)).toNatClampNeg), vI (hI h6 a1 (x5 + (2 : Int32)).toNatClampNeg)]) (rest := []) kLw_204 rfl (Nat.le_of_ble_eq_true rfl) (Nat.le_of_ble_eq_true rfl) rfl rfl e12 f13 (Nat.le_of_ble_eq_true rfl) dLw_law_1641 (s_Md_areSame hw) (fun _ _ hx => False.elim hx) (tk_i fun v15 h14 hw => ?_)
  refine tq_istore (ls' := [some (vR x0), some (vR x1), some (vR x2), some (vR x3), some (vR x4), some (vI x5), some (vI v7), some (vI v15)]) dLw_law_1644 (Nat.le_of_ble_eq_true rfl) rfl ?_
  refine tq_aload_n dLw_law_1646 rfl rfl ?_
  obtain ⟨f16, hw⟩ := hw
  refine te_callV mv_Md_thrown (ci := 13) (dc := 0) (as := []) (rest := []) kLw_130 rfl (Nat.le_of_ble_eq_true rfl) (Nat.le_of_ble_eq_true rfl) rfl rfl e12 f16 (Nat.le_of_ble_eq_true rfl) dLw_law_1647 (s_Md_thrown hw) (fun _ _ hx => False.elim hx) (tk_i fun v18 h17 hw => ?_)
  refine tq_iload dLw_law_1650 rfl ?_
  refine tq_icmpeq (tgt := 1657) dLw_law_1652 (by decide) (fun c19 => ?_) (fun c19 => ?_)
  · have hw := hw.1 c19
    refine tq_iload dLw_law_1657 rfl ?_
    refine tq_ifne (tgt := 1681) dLw_law_1659 (by decide) (fun c20 => ?_) (fun c20 => ?_)
    · have hw := hw.1 c20
      refine tq_goto (tgt := 2520) dLw_law_1681 (by decide) ?_
      refine tq_inc (k := (6 : Int32)) (ls' := [some (vR x0), some (vR x1), some (vR x2), some (vR x3), some (vR x4), some (vI (x5 + (6 : Int32))), some (vI v7), some (vI v15)]) dLw_law_2520 rfl tni_6 (Nat.le_of_ble_eq_true rfl) rfl ?_
      refine tq_goto (tgt := 28) dLw_law_2523 (by decide) ?_
      refine tpR.fo (ls' := [some (vR x0), some (vR x1), some (vR x2), some (vR x3), some (vR x4), some (vI (x5 + (6 : Int32))), none, none]) ?_ (And.intro rfl (And.intro rfl (And.intro rfl (And.intro rfl (And.intro rfl (And.intro rfl trivial))))))
      exact k28 _ _ _ _ _ _ _ hw
    · have hw := hw.2 c20
      refine tq_aload_n dLw_law_1662 rfl rfl ?_
      refine tq_iconst (v := (0 : Int32)) dLw_law_1663 tni_0 ?_
      obtain ⟨a21, e22, f23, hw⟩ := hw
      obtain ⟨f24, hw⟩ := hw
      refine te_lald dLw_law_1664 e22 f23 f24 ?_
      refine tq_iload dLw_law_1665 rfl ?_
      refine tq_ifeq (tgt := 1674) dLw_law_1667 (by decide) (fun c25 => ?_) (fun c25 => ?_)
      · have hw := hw.1 c25
        refine tq_lconst (v := 0) dLw_law_1674 (by decide) ?_
        refine tpR.fo (ls' := [some (vR x0), some (vR x1), some (vR x2), some (vR x3), some (vR x4), some (vI x5), none, none]) ?_ (And.intro rfl (And.intro rfl (And.intro rfl (And.intro rfl (And.intro rfl (And.intro rfl trivial))))))
        exact s_Lw_law_1675 k28 _ _ _ _ _ _ _ _ _ hw
      · have hw := hw.2 c25
        refine tq_lconst (v := 1) dLw_law_1670 (by decide) ?_
        refine tq_goto (tgt := 1675) dLw_law_1671 (by decide) ?_
        refine tpR.fo (ls' := [some (vR x0), some (vR x1), some (vR x2), some (vR x3), some (vR x4), some (vI x5), none, none]) ?_ (And.intro rfl (And.intro rfl (And.intro rfl (And.intro rfl (And.intro rfl (And.intro rfl trivial))))))
        exact s_Lw_law_1675 k28 _ _ _ _ _ _ _ _ _ hw
  · have hw := hw.2 c19
    refine tq_iconst (v := (0 : Int32)) dLw_law_1655 tni_0 ?_
    exact tq_iret rfl (by decide) dLw_law_1656 hw
theorem s_Lw_law_1684 {h0 : tpH} {av : List tpV} {R : Int32 → tpH → Prop} {K28 : (Option Nat) → (Option Nat) → (Option Nat) → (Option Nat) → (Option Nat) → Int32 → tpH → Prop} (k28 : ∀ (x0 : Option Nat) (x1 : Option Nat) (x2 : Option Nat) (x3 : Option Nat) (x4 : Option Nat) (x5 : Int32) (h : tpH), K28 x0 x1 x2 x3 x4 x5 h → tpR Lw_main 11 h0 av (tpOi R (fun _ _ => False)) 28 [some (vR x0), some (vR x1), some (vR x2), some (vR x3), some (vR x4), some (vI x5), none, none] [] h) : ∀ (x0 : Option Nat) (x1 : Option Nat) (x2 : Option Nat) (x3 : Option Nat) (x4 : Option Nat) (x5 : Int32) (h : tpH), w_Lw_law_1684 R K28 x0 x1 x2 x3 x4 x5 h → tpR Lw_main 11 h0 av (tpOi R (fun _ _ => False)) 1684 [some (vR x0), some (vR x1), some (vR x2), some (vR x3), some (vR x4), some (vI x5), none, none] [] h := by
  intro x0 x1 x2 x3 x4 x5 h hw
  unfold w_Lw_law_1684 at hw
  refine tq_aload_n dLw_law_1684 rfl rfl ?_
  refine tq_aload_n dLw_law_1685 rfl rfl ?_
  refine tq_iload dLw_law_1686 rfl ?_
  refine tq_iconst (v := (1 : Int32)) dLw_law_1688 tni_1 ?_
  refine tq_iadd dLw_law_1689 ?_
  obtain ⟨a1, e2, f3, hw⟩ := hw
  obtain ⟨f4, hw⟩ := hw
  refine te_iald dLw_law_1690 e2 (Or.inr f3) f4 ?_
  refine tq_aload_n dLw_law_1691 rfl rfl ?_
  refine tq_iload dLw_law_1692 rfl ?_
  refine tq_iconst (v := (2 : Int32)) dLw_law_1694 tni_2 ?_
  refine tq_iadd dLw_law_1695 ?_
  obtain ⟨f5, hw⟩ := hw
  refine te_iald dLw_law_1696 e2 (Or.inr f3) f5 ?_
  refine tq_aload_n dLw_law_1697 rfl rfl ?_
  refine tq_iload dLw_law_1698 rfl ?_
  refine tq_iconst (v := (3 : Int32)) dLw_law_1700 tni_3 ?_
  refine tq_iadd dLw_law_1701 ?_
  obtain ⟨f6, hw⟩ := hw
  refine te_iald dLw_law_1702 e2 (Or.inr f3) f6 ?_
  refine tq_aload_n dLw_law_1703 rfl rfl ?_
  refine tq_callSX ms_Lw_match (by intro hz; cases hz) (dc := 8) (as := [vR x1, vI (hI h a1 (x5 + (1 : Int32)).toNatClampNeg), vI (hI h a1 (x5 + (2 : Int32)).toNatClampNeg), vI (hI h a1 (x5 + (3 : Int32)).toNatClampNeg), vR x3]) (rest := []) kLw_205 (Nat.le_of_ble_eq_true rfl) (Nat.le_of_ble_eq_true rfl) rfl rfl (Nat.le_of_ble_eq_true rfl) dLw_law_1704 (s_Lw_match hw) (fun _ _ hx => False.elim hx) (tk_i fun v8 h7 hw => ?_)
  refine tq_istore (ls' := [some (vR x0), some (vR x1), some (vR x2), some (vR x3), some (vR x4), some (vI x5), some (vI v8), none]) dLw_law_1707 (Nat.le_of_ble_eq_true rfl) rfl ?_
  refine tq_aload_n dLw_law_1709 rfl rfl ?_
  refine tq_aload_n dLw_law_1710 rfl rfl ?_
  refine tq_iload dLw_law_1711 rfl ?_
  refine tq_iconst (v := (1 : Int32)) dLw_law_1713 tni_1 ?_
  refine tq_iadd dLw_law_1714 ?_
  obtain ⟨f9, hw⟩ := hw
  obtain ⟨f10, hw⟩ := hw
  refine te_iald dLw_law_1715 e2 (Or.inr f9) f10 ?_
  refine tq_aload_n dLw_law_1716 rfl rfl ?_
  refine tq_iload dLw_law_1717 rfl ?_
  refine tq_iconst (v := (2 : Int32)) dLw_law_1719 tni_2 ?_
  refine tq_iadd dLw_law_1720 ?_
  obtain ⟨f11, hw⟩ := hw
  refine te_iald dLw_law_1721 e2 (Or.inr f9) f11 ?_
  refine tq_aload_n dLw_law_1722 rfl rfl ?_
  refine tq_iload dLw_law_1723 rfl ?_
  refine tq_iconst (v := (3 : Int32)) dLw_law_1725 tni_3 ?_
  refine tq_iadd dLw_law_1726 ?_
  obtain ⟨f12, hw⟩ := hw
  refine te_iald dLw_law_1727 e2 (Or.inr f9) f12 ?_
  obtain ⟨a13, e14, f15, hw⟩ := hw
  refine te_callV mv_Md_match (ci := 13) (dc := 7) (as := [vI (hI h7 a1 (x5 + (1 : Int32)).toNatClampNeg), vI (hI h7 a1 (x5 + (2 : Int32)).toNatClampNeg), vI (hI h7 a1 (x5 + (3 : Int32)).toNatClampNeg)]) (rest := []) kLw_207 rfl (Nat.le_of_ble_eq_true rfl) (Nat.le_of_ble_eq_true rfl) rfl rfl e14 f15 (Nat.le_of_ble_eq_true rfl) dLw_law_1728 (s_Md_match hw) (fun _ _ hx => False.elim hx) (tk_i fun v17 h16 hw => ?_)
  refine tq_istore (ls' := [some (vR x0), some (vR x1), some (vR x2), some (vR x3), some (vR x4), some (vI x5), some (vI v8), some (vI v17)]) dLw_law_1731 (Nat.le_of_ble_eq_true rfl) rfl ?_
  refine tq_aload_n dLw_law_1733 rfl rfl ?_
  obtain ⟨f18, hw⟩ := hw
  refine te_callV mv_Md_thrown (ci := 13) (dc := 0) (as := []) (rest := []) kLw_130 rfl (Nat.le_of_ble_eq_true rfl) (Nat.le_of_ble_eq_true rfl) rfl rfl e14 f18 (Nat.le_of_ble_eq_true rfl) dLw_law_1734 (s_Md_thrown hw) (fun _ _ hx => False.elim hx) (tk_i fun v20 h19 hw => ?_)
  refine tq_iload dLw_law_1737 rfl ?_
  refine tq_icmpeq (tgt := 1744) dLw_law_1739 (by decide) (fun c21 => ?_) (fun c21 => ?_)
  · have hw := hw.1 c21
    refine tq_iload dLw_law_1744 rfl ?_
    refine tq_ifne (tgt := 1761) dLw_law_1746 (by decide) (fun c22 => ?_) (fun c22 => ?_)
    · have hw := hw.1 c22
      refine tq_goto (tgt := 2520) dLw_law_1761 (by decide) ?_
      refine tq_inc (k := (6 : Int32)) (ls' := [some (vR x0), some (vR x1), some (vR x2), some (vR x3), some (vR x4), some (vI (x5 + (6 : Int32))), some (vI v8), some (vI v17)]) dLw_law_2520 rfl tni_6 (Nat.le_of_ble_eq_true rfl) rfl ?_
      refine tq_goto (tgt := 28) dLw_law_2523 (by decide) ?_
      refine tpR.fo (ls' := [some (vR x0), some (vR x1), some (vR x2), some (vR x3), some (vR x4), some (vI (x5 + (6 : Int32))), none, none]) ?_ (And.intro rfl (And.intro rfl (And.intro rfl (And.intro rfl (And.intro rfl (And.intro rfl trivial))))))
      exact k28 _ _ _ _ _ _ _ hw
    · have hw := hw.2 c22
      refine tq_aload_n dLw_law_1749 rfl rfl ?_
      refine tq_iconst (v := (0 : Int32)) dLw_law_1750 tni_0 ?_
      obtain ⟨a23, e24, f25, hw⟩ := hw
      obtain ⟨f26, hw⟩ := hw
      refine te_lald dLw_law_1751 e24 f25 f26 ?_
      refine tq_iload dLw_law_1752 rfl ?_
      refine tq_i2l dLw_law_1754 ?_
      refine tq_lcmp dLw_law_1755 ?_
      refine tq_ifeq (tgt := 1761) dLw_law_1756 (by decide) (fun c27 => ?_) (fun c27 => ?_)
      · have hw := hw.1 c27
        refine tq_goto (tgt := 2520) dLw_law_1761 (by decide) ?_
        refine tq_inc (k := (6 : Int32)) (ls' := [some (vR x0), some (vR x1), some (vR x2), some (vR x3), some (vR x4), some (vI (x5 + (6 : Int32))), some (vI v8), some (vI v17)]) dLw_law_2520 rfl tni_6 (Nat.le_of_ble_eq_true rfl) rfl ?_
        refine tq_goto (tgt := 28) dLw_law_2523 (by decide) ?_
        refine tpR.fo (ls' := [some (vR x0), some (vR x1), some (vR x2), some (vR x3), some (vR x4), some (vI (x5 + (6 : Int32))), none, none]) ?_ (And.intro rfl (And.intro rfl (And.intro rfl (And.intro rfl (And.intro rfl (And.intro rfl trivial))))))
        exact k28 _ _ _ _ _ _ _ hw
      · have hw := hw.2 c27
        refine tq_iconst (v := (0 : Int32)) dLw_law_1759 tni_0 ?_
        exact tq_iret rfl (by decide) dLw_law_1760 hw
  · have hw := hw.2 c21
    refine tq_iconst (v := (0 : Int32)) dLw_law_1742 tni_0 ?_
    exact tq_iret rfl (by decide) dLw_law_1743 hw
theorem s_Lw_law_1764 {h0 : tpH} {av : List tpV} {R : Int32 → tpH → Prop} {K28 : (Option Nat) → (Option Nat) → (Option Nat) → (Option Nat) → (Option Nat) → Int32 → tpH → Prop} (k28 : ∀ (x0 : Option Nat) (x1 : Option Nat) (x2 : Option Nat) (x3 : Option Nat) (x4 : Option Nat) (x5 : Int32) (h : tpH), K28 x0 x1 x2 x3 x4 x5 h → tpR Lw_main 11 h0 av (tpOi R (fun _ _ => False)) 28 [some (vR x0), some (vR x1), some (vR x2), some (vR x3), some (vR x4), some (vI x5), none, none] [] h) : ∀ (x0 : Option Nat) (x1 : Option Nat) (x2 : Option Nat) (x3 : Option Nat) (x4 : Option Nat) (x5 : Int32) (h : tpH), w_Lw_law_1764 R K28 x0 x1 x2 x3 x4 x5 h → tpR Lw_main 11 h0 av (tpOi R (fun _ _ => False)) 1764 [some (vR x0), some (vR x1), some (vR x2), some (vR x3), some (vR x4), some (vI x5), none, none] [] h := by
  intro x0 x1 x2 x3 x4 x5 h hw
  unfold w_Lw_law_1764 at hw
  refine tq_aload_n dLw_law_1764 rfl rfl ?_
  refine tq_aload_n dLw_law_1765 rfl rfl ?_
  refine tq_iload dLw_law_1766 rfl ?_
  refine tq_iconst (v := (1 : Int32)) dLw_law_1768 tni_1 ?_
  refine tq_iadd dLw_law_1769 ?_
  obtain ⟨a1, e2, f3, hw⟩ := hw
  obtain ⟨f4, hw⟩ := hw
  refine te_iald dLw_law_1770 e2 (Or.inr f3) f4 ?_
  refine tq_aload_n dLw_law_1771 rfl rfl ?_
  refine tq_iload dLw_law_1772 rfl ?_
  refine tq_iconst (v := (2 : Int32)) dLw_law_1774 tni_2 ?_
  refine tq_iadd dLw_law_1775 ?_
  obtain ⟨f5, hw⟩ := hw
  refine te_iald dLw_law_1776 e2 (Or.inr f3) f5 ?_
  refine tq_aload_n dLw_law_1777 rfl rfl ?_
  refine tq_iload dLw_law_1778 rfl ?_
  refine tq_iconst (v := (3 : Int32)) dLw_law_1780 tni_3 ?_
  refine tq_iadd dLw_law_1781 ?_
  obtain ⟨f6, hw⟩ := hw
  refine te_iald dLw_law_1782 e2 (Or.inr f3) f6 ?_
  refine tq_aload_n dLw_law_1783 rfl rfl ?_
  refine tq_iload dLw_law_1784 rfl ?_
  refine tq_iconst (v := (4 : Int32)) dLw_law_1786 tni_4 ?_
  refine tq_iadd dLw_law_1787 ?_
  obtain ⟨f7, hw⟩ := hw
  refine te_iald dLw_law_1788 e2 (Or.inr f3) f7 ?_
  refine tq_aload dLw_law_1789 rfl ?_
  refine tq_callSX ms_Lw_likeness (by intro hz; cases hz) (dc := 8) (as := [vR x1, vI (hI h a1 (x5 + (1 : Int32)).toNatClampNeg), vI (hI h a1 (x5 + (2 : Int32)).toNatClampNeg), vI (hI h a1 (x5 + (3 : Int32)).toNatClampNeg), vI (hI h a1 (x5 + (4 : Int32)).toNatClampNeg), vR x4]) (rest := []) kLw_208 (Nat.le_of_ble_eq_true rfl) (Nat.le_of_ble_eq_true rfl) rfl rfl (Nat.le_of_ble_eq_true rfl) dLw_law_1791 (s_Lw_likeness hw) (fun _ _ hx => False.elim hx) (tk_i fun v9 h8 hw => ?_)
  refine tq_istore (ls' := [some (vR x0), some (vR x1), some (vR x2), some (vR x3), some (vR x4), some (vI x5), some (vI v9), none]) dLw_law_1794 (Nat.le_of_ble_eq_true rfl) rfl ?_
  refine tq_aload_n dLw_law_1796 rfl rfl ?_
  refine tq_aload_n dLw_law_1797 rfl rfl ?_
  refine tq_iload dLw_law_1798 rfl ?_
  refine tq_iconst (v := (1 : Int32)) dLw_law_1800 tni_1 ?_
  refine tq_iadd dLw_law_1801 ?_
  obtain ⟨f10, hw⟩ := hw
  obtain ⟨f11, hw⟩ := hw
  refine te_iald dLw_law_1802 e2 (Or.inr f10) f11 ?_
  refine tq_aload_n dLw_law_1803 rfl rfl ?_
  refine tq_iload dLw_law_1804 rfl ?_
  refine tq_iconst (v := (2 : Int32)) dLw_law_1806 tni_2 ?_
  refine tq_iadd dLw_law_1807 ?_
  obtain ⟨f12, hw⟩ := hw
  refine te_iald dLw_law_1808 e2 (Or.inr f10) f12 ?_
  refine tq_aload_n dLw_law_1809 rfl rfl ?_
  refine tq_iload dLw_law_1810 rfl ?_
  refine tq_iconst (v := (3 : Int32)) dLw_law_1812 tni_3 ?_
  refine tq_iadd dLw_law_1813 ?_
  obtain ⟨f13, hw⟩ := hw
  refine te_iald dLw_law_1814 e2 (Or.inr f10) f13 ?_
  refine tq_aload_n dLw_law_1815 rfl rfl ?_
  refine tq_iload dLw_law_1816 rfl ?_
  refine tq_iconst (v := (4 : Int32)) dLw_law_1818 tni_4 ?_
  refine tq_iadd dLw_law_1819 ?_
  obtain ⟨f14, hw⟩ := hw
  refine te_iald dLw_law_1820 e2 (Or.inr f10) f14 ?_
  obtain ⟨a15, e16, f17, hw⟩ := hw
  refine te_callV mv_Md_likeness (ci := 13) (dc := 7) (as := [vI (hI h8 a1 (x5 + (1 : Int32)).toNatClampNeg), vI (hI h8 a1 (x5 + (2 : Int32)).toNatClampNeg), vI (hI h8 a1 (x5 + (3 : Int32)).toNatClampNeg), vI (hI h8 a1 (x5 + (4 : Int32)).toNatClampNeg)]) (rest := []) kLw_211 rfl (Nat.le_of_ble_eq_true rfl) (Nat.le_of_ble_eq_true rfl) rfl rfl e16 f17 (Nat.le_of_ble_eq_true rfl) dLw_law_1821 (s_Md_likeness hw) (fun _ _ hx => False.elim hx) (tk_f fun v19 h18 hw => ?_)
  refine tq_fstore (ls' := [some (vR x0), some (vR x1), some (vR x2), some (vR x3), some (vR x4), some (vI x5), some (vI v9), some (vF v19)]) dLw_law_1824 (Nat.le_of_ble_eq_true rfl) rfl ?_
  refine tq_aload_n dLw_law_1826 rfl rfl ?_
  obtain ⟨f20, hw⟩ := hw
  refine te_callV mv_Md_thrown (ci := 13) (dc := 0) (as := []) (rest := []) kLw_130 rfl (Nat.le_of_ble_eq_true rfl) (Nat.le_of_ble_eq_true rfl) rfl rfl e16 f20 (Nat.le_of_ble_eq_true rfl) dLw_law_1827 (s_Md_thrown hw) (fun _ _ hx => False.elim hx) (tk_i fun v22 h21 hw => ?_)
  refine tq_iload dLw_law_1830 rfl ?_
  refine tq_icmpeq (tgt := 1837) dLw_law_1832 (by decide) (fun c23 => ?_) (fun c23 => ?_)
  · have hw := hw.1 c23
    refine tq_iload dLw_law_1837 rfl ?_
    refine tq_ifne (tgt := 1875) dLw_law_1839 (by decide) (fun c24 => ?_) (fun c24 => ?_)
    · have hw := hw.1 c24
      refine tq_goto (tgt := 2520) dLw_law_1875 (by decide) ?_
      refine tq_inc (k := (6 : Int32)) (ls' := [some (vR x0), some (vR x1), some (vR x2), some (vR x3), some (vR x4), some (vI (x5 + (6 : Int32))), some (vI v9), some (vF v19)]) dLw_law_2520 rfl tni_6 (Nat.le_of_ble_eq_true rfl) rfl ?_
      refine tq_goto (tgt := 28) dLw_law_2523 (by decide) ?_
      refine tpR.fo (ls' := [some (vR x0), some (vR x1), some (vR x2), some (vR x3), some (vR x4), some (vI (x5 + (6 : Int32))), none, none]) ?_ (And.intro rfl (And.intro rfl (And.intro rfl (And.intro rfl (And.intro rfl (And.intro rfl trivial))))))
      exact k28 _ _ _ _ _ _ _ hw
    · have hw := hw.2 c24
      refine tq_aload dLw_law_1842 rfl ?_
      refine tq_iconst (v := (0 : Int32)) dLw_law_1844 tni_0 ?_
      obtain ⟨a25, e26, f27, hw⟩ := hw
      obtain ⟨f28, hw⟩ := hw
      refine te_dald dLw_law_1845 e26 f27 f28 ?_
      refine tq_fload dLw_law_1846 rfl ?_
      obtain ⟨f29, hw⟩ := hw
      refine tq_f2d dLw_law_1848 f29 ?_
      refine tq_dcmp dLw_law_1849 ?_
      refine tq_ifeq (tgt := 1875) dLw_law_1850 (by decide) (fun c30 => ?_) (fun c30 => ?_)
      · have hw := hw.1 c30
        refine tq_goto (tgt := 2520) dLw_law_1875 (by decide) ?_
        refine tq_inc (k := (6 : Int32)) (ls' := [some (vR x0), some (vR x1), some (vR x2), some (vR x3), some (vR x4), some (vI (x5 + (6 : Int32))), some (vI v9), some (vF v19)]) dLw_law_2520 rfl tni_6 (Nat.le_of_ble_eq_true rfl) rfl ?_
        refine tq_goto (tgt := 28) dLw_law_2523 (by decide) ?_
        refine tpR.fo (ls' := [some (vR x0), some (vR x1), some (vR x2), some (vR x3), some (vR x4), some (vI (x5 + (6 : Int32))), none, none]) ?_ (And.intro rfl (And.intro rfl (And.intro rfl (And.intro rfl (And.intro rfl (And.intro rfl trivial))))))
        exact k28 _ _ _ _ _ _ _ hw
      · have hw := hw.2 c30
        refine tq_aload dLw_law_1853 rfl ?_
        refine tq_iconst (v := (0 : Int32)) dLw_law_1855 tni_0 ?_
        obtain ⟨f31, hw⟩ := hw
        refine te_dald dLw_law_1856 e26 f27 f31 ?_
        refine tq_aload dLw_law_1857 rfl ?_
        refine tq_iconst (v := (0 : Int32)) dLw_law_1859 tni_0 ?_
        obtain ⟨f32, hw⟩ := hw
        refine te_dald dLw_law_1860 e26 f27 f32 ?_
        refine tq_dcmp dLw_law_1861 ?_
        refine tq_ifeq (tgt := 1873) dLw_law_1862 (by decide) (fun c33 => ?_) (fun c33 => ?_)
        · have hw := hw.1 c33
          refine tq_iconst (v := (0 : Int32)) dLw_law_1873 tni_0 ?_
          exact tq_iret rfl (by decide) dLw_law_1874 hw
        · have hw := hw.2 c33
          refine tq_fload dLw_law_1865 rfl ?_
          refine tq_fload dLw_law_1867 rfl ?_
          refine tq_fcmp dLw_law_1869 ?_
          refine tq_ifne (tgt := 1875) dLw_law_1870 (by decide) (fun c34 => ?_) (fun c34 => ?_)
          · have hw := hw.1 c34
            refine tq_goto (tgt := 2520) dLw_law_1875 (by decide) ?_
            refine tq_inc (k := (6 : Int32)) (ls' := [some (vR x0), some (vR x1), some (vR x2), some (vR x3), some (vR x4), some (vI (x5 + (6 : Int32))), some (vI v9), some (vF v19)]) dLw_law_2520 rfl tni_6 (Nat.le_of_ble_eq_true rfl) rfl ?_
            refine tq_goto (tgt := 28) dLw_law_2523 (by decide) ?_
            refine tpR.fo (ls' := [some (vR x0), some (vR x1), some (vR x2), some (vR x3), some (vR x4), some (vI (x5 + (6 : Int32))), none, none]) ?_ (And.intro rfl (And.intro rfl (And.intro rfl (And.intro rfl (And.intro rfl (And.intro rfl trivial))))))
            exact k28 _ _ _ _ _ _ _ hw
          · have hw := hw.2 c34
            refine tq_iconst (v := (0 : Int32)) dLw_law_1873 tni_0 ?_
            exact tq_iret rfl (by decide) dLw_law_1874 hw
  · have hw := hw.2 c23
    refine tq_iconst (v := (0 : Int32)) dLw_law_1835 tni_0 ?_
    exact tq_iret rfl (by decide) dLw_law_1836 hw
theorem s_Lw_law_1878 {h0 : tpH} {av : List tpV} {R : Int32 → tpH → Prop} {K28 : (Option Nat) → (Option Nat) → (Option Nat) → (Option Nat) → (Option Nat) → Int32 → tpH → Prop} (k28 : ∀ (x0 : Option Nat) (x1 : Option Nat) (x2 : Option Nat) (x3 : Option Nat) (x4 : Option Nat) (x5 : Int32) (h : tpH), K28 x0 x1 x2 x3 x4 x5 h → tpR Lw_main 11 h0 av (tpOi R (fun _ _ => False)) 28 [some (vR x0), some (vR x1), some (vR x2), some (vR x3), some (vR x4), some (vI x5), none, none] [] h) : ∀ (x0 : Option Nat) (x1 : Option Nat) (x2 : Option Nat) (x3 : Option Nat) (x4 : Option Nat) (x5 : Int32) (h : tpH), w_Lw_law_1878 R K28 x0 x1 x2 x3 x4 x5 h → tpR Lw_main 11 h0 av (tpOi R (fun _ _ => False)) 1878 [some (vR x0), some (vR x1), some (vR x2), some (vR x3), some (vR x4), some (vI x5), none, none] [] h := by
  intro x0 x1 x2 x3 x4 x5 h hw
  unfold w_Lw_law_1878 at hw
  refine tq_aload_n dLw_law_1878 rfl rfl ?_
  refine tq_aload_n dLw_law_1879 rfl rfl ?_
  refine tq_iload dLw_law_1880 rfl ?_
  refine tq_iconst (v := (1 : Int32)) dLw_law_1882 tni_1 ?_
  refine tq_iadd dLw_law_1883 ?_
  obtain ⟨a1, e2, f3, hw⟩ := hw
  obtain ⟨f4, hw⟩ := hw
  refine te_iald dLw_law_1884 e2 (Or.inr f3) f4 ?_
  refine tq_aload_n dLw_law_1885 rfl rfl ?_
  refine tq_callSX ms_Lw_steps (by intro hz; cases hz) (dc := 8) (as := [vR x1, vI (hI h a1 (x5 + (1 : Int32)).toNatClampNeg), vR x3]) (rest := []) kLw_212 (Nat.le_of_ble_eq_true rfl) (Nat.le_of_ble_eq_true rfl) rfl rfl (Nat.le_of_ble_eq_true rfl) dLw_law_1886 (s_Lw_steps hw) (fun _ _ hx => False.elim hx) (tk_i fun v6 h5 hw => ?_)
  refine tq_istore (ls' := [some (vR x0), some (vR x1), some (vR x2), some (vR x3), some (vR x4), some (vI x5), some (vI v6), none]) dLw_law_1889 (Nat.le_of_ble_eq_true rfl) rfl ?_
  refine tq_aload_n dLw_law_1891 rfl rfl ?_
  refine tq_aload_n dLw_law_1892 rfl rfl ?_
  refine tq_iload dLw_law_1893 rfl ?_
  refine tq_iconst (v := (1 : Int32)) dLw_law_1895 tni_1 ?_
  refine tq_iadd dLw_law_1896 ?_
  obtain ⟨f7, hw⟩ := hw
  obtain ⟨f8, hw⟩ := hw
  refine te_iald dLw_law_1897 e2 (Or.inr f7) f8 ?_
  obtain ⟨a9, e10, f11, hw⟩ := hw
  refine te_callV mv_Md_steps (ci := 13) (dc := 2) (as := [vI (hI h5 a1 (x5 + (1 : Int32)).toNatClampNeg)]) (rest := []) kLw_214 rfl (Nat.le_of_ble_eq_true rfl) (Nat.le_of_ble_eq_true rfl) rfl rfl e10 f11 (Nat.le_of_ble_eq_true rfl) dLw_law_1898 (s_Md_steps hw) (fun _ _ hx => False.elim hx) (tk_i fun v13 h12 hw => ?_)
  refine tq_istore (ls' := [some (vR x0), some (vR x1), some (vR x2), some (vR x3), some (vR x4), some (vI x5), some (vI v6), some (vI v13)]) dLw_law_1901 (Nat.le_of_ble_eq_true rfl) rfl ?_
  refine tq_aload_n dLw_law_1903 rfl rfl ?_
  obtain ⟨f14, hw⟩ := hw
  refine te_callV mv_Md_thrown (ci := 13) (dc := 0) (as := []) (rest := []) kLw_130 rfl (Nat.le_of_ble_eq_true rfl) (Nat.le_of_ble_eq_true rfl) rfl rfl e10 f14 (Nat.le_of_ble_eq_true rfl) dLw_law_1904 (s_Md_thrown hw) (fun _ _ hx => False.elim hx) (tk_i fun v16 h15 hw => ?_)
  refine tq_iload dLw_law_1907 rfl ?_
  refine tq_icmpeq (tgt := 1914) dLw_law_1909 (by decide) (fun c17 => ?_) (fun c17 => ?_)
  · have hw := hw.1 c17
    refine tq_iload dLw_law_1914 rfl ?_
    refine tq_ifne (tgt := 1931) dLw_law_1916 (by decide) (fun c18 => ?_) (fun c18 => ?_)
    · have hw := hw.1 c18
      refine tq_goto (tgt := 2520) dLw_law_1931 (by decide) ?_
      refine tq_inc (k := (6 : Int32)) (ls' := [some (vR x0), some (vR x1), some (vR x2), some (vR x3), some (vR x4), some (vI (x5 + (6 : Int32))), some (vI v6), some (vI v13)]) dLw_law_2520 rfl tni_6 (Nat.le_of_ble_eq_true rfl) rfl ?_
      refine tq_goto (tgt := 28) dLw_law_2523 (by decide) ?_
      refine tpR.fo (ls' := [some (vR x0), some (vR x1), some (vR x2), some (vR x3), some (vR x4), some (vI (x5 + (6 : Int32))), none, none]) ?_ (And.intro rfl (And.intro rfl (And.intro rfl (And.intro rfl (And.intro rfl (And.intro rfl trivial))))))
      exact k28 _ _ _ _ _ _ _ hw
    · have hw := hw.2 c18
      refine tq_aload_n dLw_law_1919 rfl rfl ?_
      refine tq_iconst (v := (0 : Int32)) dLw_law_1920 tni_0 ?_
      obtain ⟨a19, e20, f21, hw⟩ := hw
      obtain ⟨f22, hw⟩ := hw
      refine te_lald dLw_law_1921 e20 f21 f22 ?_
      refine tq_iload dLw_law_1922 rfl ?_
      refine tq_i2l dLw_law_1924 ?_
      refine tq_lcmp dLw_law_1925 ?_
      refine tq_ifeq (tgt := 1931) dLw_law_1926 (by decide) (fun c23 => ?_) (fun c23 => ?_)
      · have hw := hw.1 c23
        refine tq_goto (tgt := 2520) dLw_law_1931 (by decide) ?_
        refine tq_inc (k := (6 : Int32)) (ls' := [some (vR x0), some (vR x1), some (vR x2), some (vR x3), some (vR x4), some (vI (x5 + (6 : Int32))), some (vI v6), some (vI v13)]) dLw_law_2520 rfl tni_6 (Nat.le_of_ble_eq_true rfl) rfl ?_
        refine tq_goto (tgt := 28) dLw_law_2523 (by decide) ?_
        refine tpR.fo (ls' := [some (vR x0), some (vR x1), some (vR x2), some (vR x3), some (vR x4), some (vI (x5 + (6 : Int32))), none, none]) ?_ (And.intro rfl (And.intro rfl (And.intro rfl (And.intro rfl (And.intro rfl (And.intro rfl trivial))))))
        exact k28 _ _ _ _ _ _ _ hw
      · have hw := hw.2 c23
        refine tq_iconst (v := (0 : Int32)) dLw_law_1929 tni_0 ?_
        exact tq_iret rfl (by decide) dLw_law_1930 hw
  · have hw := hw.2 c17
    refine tq_iconst (v := (0 : Int32)) dLw_law_1912 tni_0 ?_
    exact tq_iret rfl (by decide) dLw_law_1913 hw
theorem s_Lw_law_1934 {h0 : tpH} {av : List tpV} {R : Int32 → tpH → Prop} {K28 : (Option Nat) → (Option Nat) → (Option Nat) → (Option Nat) → (Option Nat) → Int32 → tpH → Prop} (k28 : ∀ (x0 : Option Nat) (x1 : Option Nat) (x2 : Option Nat) (x3 : Option Nat) (x4 : Option Nat) (x5 : Int32) (h : tpH), K28 x0 x1 x2 x3 x4 x5 h → tpR Lw_main 11 h0 av (tpOi R (fun _ _ => False)) 28 [some (vR x0), some (vR x1), some (vR x2), some (vR x3), some (vR x4), some (vI x5), none, none] [] h) : ∀ (x0 : Option Nat) (x1 : Option Nat) (x2 : Option Nat) (x3 : Option Nat) (x4 : Option Nat) (x5 : Int32) (h : tpH), w_Lw_law_1934 R K28 x0 x1 x2 x3 x4 x5 h → tpR Lw_main 11 h0 av (tpOi R (fun _ _ => False)) 1934 [some (vR x0), some (vR x1), some (vR x2), some (vR x3), some (vR x4), some (vI x5), none, none] [] h := by
  intro x0 x1 x2 x3 x4 x5 h hw
  unfold w_Lw_law_1934 at hw
  refine tq_aload_n dLw_law_1934 rfl rfl ?_
  refine tq_aload_n dLw_law_1935 rfl rfl ?_
  refine tq_iload dLw_law_1936 rfl ?_
  refine tq_iconst (v := (1 : Int32)) dLw_law_1938 tni_1 ?_
  refine tq_iadd dLw_law_1939 ?_
  obtain ⟨a1, e2, f3, hw⟩ := hw
  obtain ⟨f4, hw⟩ := hw
  refine te_iald dLw_law_1940 e2 (Or.inr f3) f4 ?_
  refine tq_aload_n dLw_law_1941 rfl rfl ?_
  refine tq_iload dLw_law_1942 rfl ?_
  refine tq_iconst (v := (2 : Int32)) dLw_law_1944 tni_2 ?_
  refine tq_iadd dLw_law_1945 ?_
  obtain ⟨f5, hw⟩ := hw
  refine te_iald dLw_law_1946 e2 (Or.inr f3) f5 ?_
  refine tq_aload_n dLw_law_1947 rfl rfl ?_
  refine tq_callSX ms_Lw_stepKind (by intro hz; cases hz) (dc := 9) (as := [vR x1, vI (hI h a1 (x5 + (1 : Int32)).toNatClampNeg), vI (hI h a1 (x5 + (2 : Int32)).toNatClampNeg), vR x3]) (rest := []) kLw_215 (Nat.le_of_ble_eq_true rfl) (Nat.le_of_ble_eq_true rfl) rfl rfl (Nat.le_of_ble_eq_true rfl) dLw_law_1948 (s_Lw_stepKind hw) (fun _ _ hx => False.elim hx) (tk_i fun v7 h6 hw => ?_)
  refine tq_istore (ls' := [some (vR x0), some (vR x1), some (vR x2), some (vR x3), some (vR x4), some (vI x5), some (vI v7), none]) dLw_law_1951 (Nat.le_of_ble_eq_true rfl) rfl ?_
  refine tq_aload_n dLw_law_1953 rfl rfl ?_
  refine tq_aload_n dLw_law_1954 rfl rfl ?_
  refine tq_iload dLw_law_1955 rfl ?_
  refine tq_iconst (v := (1 : Int32)) dLw_law_1957 tni_1 ?_
  refine tq_iadd dLw_law_1958 ?_
  obtain ⟨f8, hw⟩ := hw
  obtain ⟨f9, hw⟩ := hw
  refine te_iald dLw_law_1959 e2 (Or.inr f8) f9 ?_
  refine tq_aload_n dLw_law_1960 rfl rfl ?_
  refine tq_iload dLw_law_1961 rfl ?_
  refine tq_iconst (v := (2 : Int32)) dLw_law_1963 tni_2 ?_
  refine tq_iadd dLw_law_1964 ?_
  obtain ⟨f10, hw⟩ := hw
  refine te_iald dLw_law_1965 e2 (Or.inr f8) f10 ?_
  obtain ⟨a11, e12, f13, hw⟩ := hw
  refine te_callV mv_Md_stepKind (ci := 13) (dc := 3) (as := [vI (hI h6 a1 (x5 + (1 : Int32)).toNatClampNeg), vI (hI h6 a1 (x5 + (2 : Int32)).toNatClampNeg)]) (rest := []) kLw_217 rfl (Nat.le_of_ble_eq_true rfl) (Nat.le_of_ble_eq_true rfl) rfl rfl e12 f13 (Nat.le_of_ble_eq_true rfl) dLw_law_1966 (s_Md_stepKind hw) (fun _ _ hx => False.elim hx) (tk_i fun v15 h14 hw => ?_)
  refine tq_istore (ls' := [some (vR x0), some (vR x1), some (vR x2), some (vR x3), some (vR x4), some (vI x5), some (vI v7), some (vI v15)]) dLw_law_1969 (Nat.le_of_ble_eq_true rfl) rfl ?_
  refine tq_aload_n dLw_law_1971 rfl rfl ?_
  obtain ⟨f16, hw⟩ := hw
  refine te_callV mv_Md_thrown (ci := 13) (dc := 0) (as := []) (rest := []) kLw_130 rfl (Nat.le_of_ble_eq_true rfl) (Nat.le_of_ble_eq_true rfl) rfl rfl e12 f16 (Nat.le_of_ble_eq_true rfl) dLw_law_1972 (s_Md_thrown hw) (fun _ _ hx => False.elim hx) (tk_i fun v18 h17 hw => ?_)
  refine tq_iload dLw_law_1975 rfl ?_
  refine tq_icmpeq (tgt := 1982) dLw_law_1977 (by decide) (fun c19 => ?_) (fun c19 => ?_)
  · have hw := hw.1 c19
    refine tq_iload dLw_law_1982 rfl ?_
    refine tq_ifne (tgt := 1999) dLw_law_1984 (by decide) (fun c20 => ?_) (fun c20 => ?_)
    · have hw := hw.1 c20
      refine tq_goto (tgt := 2520) dLw_law_1999 (by decide) ?_
      refine tq_inc (k := (6 : Int32)) (ls' := [some (vR x0), some (vR x1), some (vR x2), some (vR x3), some (vR x4), some (vI (x5 + (6 : Int32))), some (vI v7), some (vI v15)]) dLw_law_2520 rfl tni_6 (Nat.le_of_ble_eq_true rfl) rfl ?_
      refine tq_goto (tgt := 28) dLw_law_2523 (by decide) ?_
      refine tpR.fo (ls' := [some (vR x0), some (vR x1), some (vR x2), some (vR x3), some (vR x4), some (vI (x5 + (6 : Int32))), none, none]) ?_ (And.intro rfl (And.intro rfl (And.intro rfl (And.intro rfl (And.intro rfl (And.intro rfl trivial))))))
      exact k28 _ _ _ _ _ _ _ hw
    · have hw := hw.2 c20
      refine tq_aload_n dLw_law_1987 rfl rfl ?_
      refine tq_iconst (v := (0 : Int32)) dLw_law_1988 tni_0 ?_
      obtain ⟨a21, e22, f23, hw⟩ := hw
      obtain ⟨f24, hw⟩ := hw
      refine te_lald dLw_law_1989 e22 f23 f24 ?_
      refine tq_iload dLw_law_1990 rfl ?_
      refine tq_i2l dLw_law_1992 ?_
      refine tq_lcmp dLw_law_1993 ?_
      refine tq_ifeq (tgt := 1999) dLw_law_1994 (by decide) (fun c25 => ?_) (fun c25 => ?_)
      · have hw := hw.1 c25
        refine tq_goto (tgt := 2520) dLw_law_1999 (by decide) ?_
        refine tq_inc (k := (6 : Int32)) (ls' := [some (vR x0), some (vR x1), some (vR x2), some (vR x3), some (vR x4), some (vI (x5 + (6 : Int32))), some (vI v7), some (vI v15)]) dLw_law_2520 rfl tni_6 (Nat.le_of_ble_eq_true rfl) rfl ?_
        refine tq_goto (tgt := 28) dLw_law_2523 (by decide) ?_
        refine tpR.fo (ls' := [some (vR x0), some (vR x1), some (vR x2), some (vR x3), some (vR x4), some (vI (x5 + (6 : Int32))), none, none]) ?_ (And.intro rfl (And.intro rfl (And.intro rfl (And.intro rfl (And.intro rfl (And.intro rfl trivial))))))
        exact k28 _ _ _ _ _ _ _ hw
      · have hw := hw.2 c25
        refine tq_iconst (v := (0 : Int32)) dLw_law_1997 tni_0 ?_
        exact tq_iret rfl (by decide) dLw_law_1998 hw
  · have hw := hw.2 c19
    refine tq_iconst (v := (0 : Int32)) dLw_law_1980 tni_0 ?_
    exact tq_iret rfl (by decide) dLw_law_1981 hw
theorem s_Lw_law_2002 {h0 : tpH} {av : List tpV} {R : Int32 → tpH → Prop} {K28 : (Option Nat) → (Option Nat) → (Option Nat) → (Option Nat) → (Option Nat) → Int32 → tpH → Prop} (k28 : ∀ (x0 : Option Nat) (x1 : Option Nat) (x2 : Option Nat) (x3 : Option Nat) (x4 : Option Nat) (x5 : Int32) (h : tpH), K28 x0 x1 x2 x3 x4 x5 h → tpR Lw_main 11 h0 av (tpOi R (fun _ _ => False)) 28 [some (vR x0), some (vR x1), some (vR x2), some (vR x3), some (vR x4), some (vI x5), none, none] [] h) : ∀ (x0 : Option Nat) (x1 : Option Nat) (x2 : Option Nat) (x3 : Option Nat) (x4 : Option Nat) (x5 : Int32) (h : tpH), w_Lw_law_2002 R K28 x0 x1 x2 x3 x4 x5 h → tpR Lw_main 11 h0 av (tpOi R (fun _ _ => False)) 2002 [some (vR x0), some (vR x1), some (vR x2), some (vR x3), some (vR x4), some (vI x5), none, none] [] h := by
  intro x0 x1 x2 x3 x4 x5 h hw
  unfold w_Lw_law_2002 at hw
  refine tq_aload_n dLw_law_2002 rfl rfl ?_
  refine tq_aload_n dLw_law_2003 rfl rfl ?_
  refine tq_iload dLw_law_2004 rfl ?_
  refine tq_iconst (v := (1 : Int32)) dLw_law_2006 tni_1 ?_
  refine tq_iadd dLw_law_2007 ?_
  obtain ⟨a1, e2, f3, hw⟩ := hw
  obtain ⟨f4, hw⟩ := hw
  refine te_iald dLw_law_2008 e2 (Or.inr f3) f4 ?_
  refine tq_aload_n dLw_law_2009 rfl rfl ?_
  refine tq_iload dLw_law_2010 rfl ?_
  refine tq_iconst (v := (2 : Int32)) dLw_law_2012 tni_2 ?_
  refine tq_iadd dLw_law_2013 ?_
  obtain ⟨f5, hw⟩ := hw
  refine te_iald dLw_law_2014 e2 (Or.inr f3) f5 ?_
  refine tq_aload_n dLw_law_2015 rfl rfl ?_
  refine tq_callSX ms_Lw_stepMark (by intro hz; cases hz) (dc := 9) (as := [vR x1, vI (hI h a1 (x5 + (1 : Int32)).toNatClampNeg), vI (hI h a1 (x5 + (2 : Int32)).toNatClampNeg), vR x3]) (rest := []) kLw_218 (Nat.le_of_ble_eq_true rfl) (Nat.le_of_ble_eq_true rfl) rfl rfl (Nat.le_of_ble_eq_true rfl) dLw_law_2016 (s_Lw_stepMark hw) (fun _ _ hx => False.elim hx) (tk_i fun v7 h6 hw => ?_)
  refine tq_istore (ls' := [some (vR x0), some (vR x1), some (vR x2), some (vR x3), some (vR x4), some (vI x5), some (vI v7), none]) dLw_law_2019 (Nat.le_of_ble_eq_true rfl) rfl ?_
  refine tq_aload_n dLw_law_2021 rfl rfl ?_
  refine tq_aload_n dLw_law_2022 rfl rfl ?_
  refine tq_iload dLw_law_2023 rfl ?_
  refine tq_iconst (v := (1 : Int32)) dLw_law_2025 tni_1 ?_
  refine tq_iadd dLw_law_2026 ?_
  obtain ⟨f8, hw⟩ := hw
  obtain ⟨f9, hw⟩ := hw
  refine te_iald dLw_law_2027 e2 (Or.inr f8) f9 ?_
  refine tq_aload_n dLw_law_2028 rfl rfl ?_
  refine tq_iload dLw_law_2029 rfl ?_
  refine tq_iconst (v := (2 : Int32)) dLw_law_2031 tni_2 ?_
  refine tq_iadd dLw_law_2032 ?_
  obtain ⟨f10, hw⟩ := hw
  refine te_iald dLw_law_2033 e2 (Or.inr f8) f10 ?_
  obtain ⟨a11, e12, f13, hw⟩ := hw
  refine te_callV mv_Md_stepMark (ci := 13) (dc := 3) (as := [vI (hI h6 a1 (x5 + (1 : Int32)).toNatClampNeg), vI (hI h6 a1 (x5 + (2 : Int32)).toNatClampNeg)]) (rest := []) kLw_220 rfl (Nat.le_of_ble_eq_true rfl) (Nat.le_of_ble_eq_true rfl) rfl rfl e12 f13 (Nat.le_of_ble_eq_true rfl) dLw_law_2034 (s_Md_stepMark hw) (fun _ _ hx => False.elim hx) (tk_i fun v15 h14 hw => ?_)
  refine tq_istore (ls' := [some (vR x0), some (vR x1), some (vR x2), some (vR x3), some (vR x4), some (vI x5), some (vI v7), some (vI v15)]) dLw_law_2037 (Nat.le_of_ble_eq_true rfl) rfl ?_
  refine tq_aload_n dLw_law_2039 rfl rfl ?_
  obtain ⟨f16, hw⟩ := hw
  refine te_callV mv_Md_thrown (ci := 13) (dc := 0) (as := []) (rest := []) kLw_130 rfl (Nat.le_of_ble_eq_true rfl) (Nat.le_of_ble_eq_true rfl) rfl rfl e12 f16 (Nat.le_of_ble_eq_true rfl) dLw_law_2040 (s_Md_thrown hw) (fun _ _ hx => False.elim hx) (tk_i fun v18 h17 hw => ?_)
  refine tq_iload dLw_law_2043 rfl ?_
  refine tq_icmpeq (tgt := 2050) dLw_law_2045 (by decide) (fun c19 => ?_) (fun c19 => ?_)
  · have hw := hw.1 c19
    refine tq_iload dLw_law_2050 rfl ?_
    refine tq_ifne (tgt := 2067) dLw_law_2052 (by decide) (fun c20 => ?_) (fun c20 => ?_)
    · have hw := hw.1 c20
      refine tq_goto (tgt := 2520) dLw_law_2067 (by decide) ?_
      refine tq_inc (k := (6 : Int32)) (ls' := [some (vR x0), some (vR x1), some (vR x2), some (vR x3), some (vR x4), some (vI (x5 + (6 : Int32))), some (vI v7), some (vI v15)]) dLw_law_2520 rfl tni_6 (Nat.le_of_ble_eq_true rfl) rfl ?_
      refine tq_goto (tgt := 28) dLw_law_2523 (by decide) ?_
      refine tpR.fo (ls' := [some (vR x0), some (vR x1), some (vR x2), some (vR x3), some (vR x4), some (vI (x5 + (6 : Int32))), none, none]) ?_ (And.intro rfl (And.intro rfl (And.intro rfl (And.intro rfl (And.intro rfl (And.intro rfl trivial))))))
      exact k28 _ _ _ _ _ _ _ hw
    · have hw := hw.2 c20
      refine tq_aload_n dLw_law_2055 rfl rfl ?_
      refine tq_iconst (v := (0 : Int32)) dLw_law_2056 tni_0 ?_
      obtain ⟨a21, e22, f23, hw⟩ := hw
      obtain ⟨f24, hw⟩ := hw
      refine te_lald dLw_law_2057 e22 f23 f24 ?_
      refine tq_iload dLw_law_2058 rfl ?_
      refine tq_i2l dLw_law_2060 ?_
      refine tq_lcmp dLw_law_2061 ?_
      refine tq_ifeq (tgt := 2067) dLw_law_2062 (by decide) (fun c25 => ?_) (fun c25 => ?_)
      · have hw := hw.1 c25
        refine tq_goto (tgt := 2520) dLw_law_2067 (by decide) ?_
        refine tq_inc (k := (6 : Int32)) (ls' := [some (vR x0), some (vR x1), some (vR x2), some (vR x3), some (vR x4), some (vI (x5 + (6 : Int32))), some (vI v7), some (vI v15)]) dLw_law_2520 rfl tni_6 (Nat.le_of_ble_eq_true rfl) rfl ?_
        refine tq_goto (tgt := 28) dLw_law_2523 (by decide) ?_
        refine tpR.fo (ls' := [some (vR x0), some (vR x1), some (vR x2), some (vR x3), some (vR x4), some (vI (x5 + (6 : Int32))), none, none]) ?_ (And.intro rfl (And.intro rfl (And.intro rfl (And.intro rfl (And.intro rfl (And.intro rfl trivial))))))
        exact k28 _ _ _ _ _ _ _ hw
      · have hw := hw.2 c25
        refine tq_iconst (v := (0 : Int32)) dLw_law_2065 tni_0 ?_
        exact tq_iret rfl (by decide) dLw_law_2066 hw
  · have hw := hw.2 c19
    refine tq_iconst (v := (0 : Int32)) dLw_law_2048 tni_0 ?_
    exact tq_iret rfl (by decide) dLw_law_2049 hw
theorem s_Lw_law_2130 {h0 : tpH} {av : List tpV} {R : Int32 → tpH → Prop} {K28 : (Option Nat) → (Option Nat) → (Option Nat) → (Option Nat) → (Option Nat) → Int32 → tpH → Prop} (k28 : ∀ (x0 : Option Nat) (x1 : Option Nat) (x2 : Option Nat) (x3 : Option Nat) (x4 : Option Nat) (x5 : Int32) (h : tpH), K28 x0 x1 x2 x3 x4 x5 h → tpR Lw_main 11 h0 av (tpOi R (fun _ _ => False)) 28 [some (vR x0), some (vR x1), some (vR x2), some (vR x3), some (vR x4), some (vI x5), none, none] [] h) : ∀ (x0 : Option Nat) (x1 : Option Nat) (x2 : Option Nat) (x3 : Option Nat) (x4 : Option Nat) (x5 : Int32) (x6 : Int32) (t0 : Int32) (t1 : Int32) (t2 : Int32) (t3 : Option Nat) (h : tpH), w_Lw_law_2130 R K28 x0 x1 x2 x3 x4 x5 x6 t0 t1 t2 t3 h → tpR Lw_main 11 h0 av (tpOi R (fun _ _ => False)) 2130 [some (vR x0), some (vR x1), some (vR x2), some (vR x3), some (vR x4), some (vI x5), some (vI x6), none] [vI t0, vI t1, vI t2, vR t3] h := by
  intro x0 x1 x2 x3 x4 x5 x6 t0 t1 t2 t3 h hw
  unfold w_Lw_law_2130 at hw
  obtain ⟨a1, e2, f3, hw⟩ := hw
  refine te_callV mv_Md_stepTo (ci := 13) (dc := 3) (as := [vI t2, vI t1, vI t0]) (rest := []) kLw_224 rfl (Nat.le_of_ble_eq_true rfl) (Nat.le_of_ble_eq_true rfl) rfl rfl e2 f3 (Nat.le_of_ble_eq_true rfl) dLw_law_2130 (s_Md_stepTo hw) (fun _ _ hx => False.elim hx) (tk_i fun v5 h4 hw => ?_)
  refine tq_istore (ls' := [some (vR x0), some (vR x1), some (vR x2), some (vR x3), some (vR x4), some (vI x5), some (vI x6), some (vI v5)]) dLw_law_2133 (Nat.le_of_ble_eq_true rfl) rfl ?_
  refine tq_aload_n dLw_law_2135 rfl rfl ?_
  obtain ⟨a6, e7, f8, hw⟩ := hw
  refine te_callV mv_Md_thrown (ci := 13) (dc := 0) (as := []) (rest := []) kLw_130 rfl (Nat.le_of_ble_eq_true rfl) (Nat.le_of_ble_eq_true rfl) rfl rfl e7 f8 (Nat.le_of_ble_eq_true rfl) dLw_law_2136 (s_Md_thrown hw) (fun _ _ hx => False.elim hx) (tk_i fun v10 h9 hw => ?_)
  refine tq_iload dLw_law_2139 rfl ?_
  refine tq_icmpeq (tgt := 2146) dLw_law_2141 (by decide) (fun c11 => ?_) (fun c11 => ?_)
  · have hw := hw.1 c11
    refine tq_iload dLw_law_2146 rfl ?_
    refine tq_ifne (tgt := 2163) dLw_law_2148 (by decide) (fun c12 => ?_) (fun c12 => ?_)
    · have hw := hw.1 c12
      refine tq_goto (tgt := 2520) dLw_law_2163 (by decide) ?_
      refine tq_inc (k := (6 : Int32)) (ls' := [some (vR x0), some (vR x1), some (vR x2), some (vR x3), some (vR x4), some (vI (x5 + (6 : Int32))), some (vI x6), some (vI v5)]) dLw_law_2520 rfl tni_6 (Nat.le_of_ble_eq_true rfl) rfl ?_
      refine tq_goto (tgt := 28) dLw_law_2523 (by decide) ?_
      refine tpR.fo (ls' := [some (vR x0), some (vR x1), some (vR x2), some (vR x3), some (vR x4), some (vI (x5 + (6 : Int32))), none, none]) ?_ (And.intro rfl (And.intro rfl (And.intro rfl (And.intro rfl (And.intro rfl (And.intro rfl trivial))))))
      exact k28 _ _ _ _ _ _ _ hw
    · have hw := hw.2 c12
      refine tq_aload_n dLw_law_2151 rfl rfl ?_
      refine tq_iconst (v := (0 : Int32)) dLw_law_2152 tni_0 ?_
      obtain ⟨a13, e14, f15, hw⟩ := hw
      obtain ⟨f16, hw⟩ := hw
      refine te_lald dLw_law_2153 e14 f15 f16 ?_
      refine tq_iload dLw_law_2154 rfl ?_
      refine tq_i2l dLw_law_2156 ?_
      refine tq_lcmp dLw_law_2157 ?_
      refine tq_ifeq (tgt := 2163) dLw_law_2158 (by decide) (fun c17 => ?_) (fun c17 => ?_)
      · have hw := hw.1 c17
        refine tq_goto (tgt := 2520) dLw_law_2163 (by decide) ?_
        refine tq_inc (k := (6 : Int32)) (ls' := [some (vR x0), some (vR x1), some (vR x2), some (vR x3), some (vR x4), some (vI (x5 + (6 : Int32))), some (vI x6), some (vI v5)]) dLw_law_2520 rfl tni_6 (Nat.le_of_ble_eq_true rfl) rfl ?_
        refine tq_goto (tgt := 28) dLw_law_2523 (by decide) ?_
        refine tpR.fo (ls' := [some (vR x0), some (vR x1), some (vR x2), some (vR x3), some (vR x4), some (vI (x5 + (6 : Int32))), none, none]) ?_ (And.intro rfl (And.intro rfl (And.intro rfl (And.intro rfl (And.intro rfl (And.intro rfl trivial))))))
        exact k28 _ _ _ _ _ _ _ hw
      · have hw := hw.2 c17
        refine tq_iconst (v := (0 : Int32)) dLw_law_2161 tni_0 ?_
        exact tq_iret rfl (by decide) dLw_law_2162 hw
  · have hw := hw.2 c11
    refine tq_iconst (v := (0 : Int32)) dLw_law_2144 tni_0 ?_
    exact tq_iret rfl (by decide) dLw_law_2145 hw
theorem s_Lw_law_2097 {h0 : tpH} {av : List tpV} {R : Int32 → tpH → Prop} {K28 : (Option Nat) → (Option Nat) → (Option Nat) → (Option Nat) → (Option Nat) → Int32 → tpH → Prop} (k28 : ∀ (x0 : Option Nat) (x1 : Option Nat) (x2 : Option Nat) (x3 : Option Nat) (x4 : Option Nat) (x5 : Int32) (h : tpH), K28 x0 x1 x2 x3 x4 x5 h → tpR Lw_main 11 h0 av (tpOi R (fun _ _ => False)) 28 [some (vR x0), some (vR x1), some (vR x2), some (vR x3), some (vR x4), some (vI x5), none, none] [] h) : ∀ (x0 : Option Nat) (x1 : Option Nat) (x2 : Option Nat) (x3 : Option Nat) (x4 : Option Nat) (x5 : Int32) (t0 : Int32) (t1 : Int32) (t2 : Int32) (t3 : Option Nat) (h : tpH), w_Lw_law_2097 R K28 x0 x1 x2 x3 x4 x5 t0 t1 t2 t3 h → tpR Lw_main 11 h0 av (tpOi R (fun _ _ => False)) 2097 [some (vR x0), some (vR x1), some (vR x2), some (vR x3), some (vR x4), some (vI x5), none, none] [vI t0, vI t1, vI t2, vR t3] h := by
  intro x0 x1 x2 x3 x4 x5 t0 t1 t2 t3 h hw
  unfold w_Lw_law_2097 at hw
  refine tq_aload_n dLw_law_2097 rfl rfl ?_
  refine tq_callSX ms_Lw_stepTo (by intro hz; cases hz) (dc := 9) (as := [vR t3, vI t2, vI t1, vI t0, vR x3]) (rest := []) kLw_221 (Nat.le_of_ble_eq_true rfl) (Nat.le_of_ble_eq_true rfl) rfl rfl (Nat.le_of_ble_eq_true rfl) dLw_law_2098 (s_Lw_stepTo hw) (fun _ _ hx => False.elim hx) (tk_i fun v2 h1 hw => ?_)
  refine tq_istore (ls' := [some (vR x0), some (vR x1), some (vR x2), some (vR x3), some (vR x4), some (vI x5), some (vI v2), none]) dLw_law_2101 (Nat.le_of_ble_eq_true rfl) rfl ?_
  refine tq_aload_n dLw_law_2103 rfl rfl ?_
  refine tq_aload_n dLw_law_2104 rfl rfl ?_
  refine tq_iload dLw_law_2105 rfl ?_
  refine tq_iconst (v := (1 : Int32)) dLw_law_2107 tni_1 ?_
  refine tq_iadd dLw_law_2108 ?_
  obtain ⟨a3, e4, f5, hw⟩ := hw
  obtain ⟨f6, hw⟩ := hw
  refine te_iald dLw_law_2109 e4 (Or.inr f5) f6 ?_
  refine tq_aload_n dLw_law_2110 rfl rfl ?_
  refine tq_iload dLw_law_2111 rfl ?_
  refine tq_iconst (v := (2 : Int32)) dLw_law_2113 tni_2 ?_
  refine tq_iadd dLw_law_2114 ?_
  obtain ⟨f7, hw⟩ := hw
  refine te_iald dLw_law_2115 e4 (Or.inr f5) f7 ?_
  refine tq_aload_n dLw_law_2116 rfl rfl ?_
  refine tq_iload dLw_law_2117 rfl ?_
  refine tq_iconst (v := (3 : Int32)) dLw_law_2119 tni_3 ?_
  refine tq_iadd dLw_law_2120 ?_
  obtain ⟨f8, hw⟩ := hw
  refine te_iald dLw_law_2121 e4 (Or.inr f5) f8 ?_
  refine tq_ifeq (tgt := 2129) dLw_law_2122 (by decide) (fun c9 => ?_) (fun c9 => ?_)
  · have hw := hw.1 c9
    refine tq_iconst (v := (0 : Int32)) dLw_law_2129 tni_0 ?_
    refine tpR.fo (ls' := [some (vR x0), some (vR x1), some (vR x2), some (vR x3), some (vR x4), some (vI x5), some (vI v2), none]) ?_ (And.intro rfl (And.intro rfl (And.intro rfl (And.intro rfl (And.intro rfl (And.intro rfl (And.intro rfl trivial)))))))
    exact s_Lw_law_2130 k28 _ _ _ _ _ _ _ _ _ _ _ _ hw
  · have hw := hw.2 c9
    refine tq_iconst (v := (1 : Int32)) dLw_law_2125 tni_1 ?_
    refine tq_goto (tgt := 2130) dLw_law_2126 (by decide) ?_
    refine tpR.fo (ls' := [some (vR x0), some (vR x1), some (vR x2), some (vR x3), some (vR x4), some (vI x5), some (vI v2), none]) ?_ (And.intro rfl (And.intro rfl (And.intro rfl (And.intro rfl (And.intro rfl (And.intro rfl (And.intro rfl trivial)))))))
    exact s_Lw_law_2130 k28 _ _ _ _ _ _ _ _ _ _ _ _ hw
theorem s_Lw_law_2070 {h0 : tpH} {av : List tpV} {R : Int32 → tpH → Prop} {K28 : (Option Nat) → (Option Nat) → (Option Nat) → (Option Nat) → (Option Nat) → Int32 → tpH → Prop} (k28 : ∀ (x0 : Option Nat) (x1 : Option Nat) (x2 : Option Nat) (x3 : Option Nat) (x4 : Option Nat) (x5 : Int32) (h : tpH), K28 x0 x1 x2 x3 x4 x5 h → tpR Lw_main 11 h0 av (tpOi R (fun _ _ => False)) 28 [some (vR x0), some (vR x1), some (vR x2), some (vR x3), some (vR x4), some (vI x5), none, none] [] h) : ∀ (x0 : Option Nat) (x1 : Option Nat) (x2 : Option Nat) (x3 : Option Nat) (x4 : Option Nat) (x5 : Int32) (h : tpH), w_Lw_law_2070 R K28 x0 x1 x2 x3 x4 x5 h → tpR Lw_main 11 h0 av (tpOi R (fun _ _ => False)) 2070 [some (vR x0), some (vR x1), some (vR x2), some (vR x3), some (vR x4), some (vI x5), none, none] [] h := by
  intro x0 x1 x2 x3 x4 x5 h hw
  unfold w_Lw_law_2070 at hw
  refine tq_aload_n dLw_law_2070 rfl rfl ?_
  refine tq_aload_n dLw_law_2071 rfl rfl ?_
  refine tq_iload dLw_law_2072 rfl ?_
  refine tq_iconst (v := (1 : Int32)) dLw_law_2074 tni_1 ?_
  refine tq_iadd dLw_law_2075 ?_
  obtain ⟨a1, e2, f3, hw⟩ := hw
  obtain ⟨f4, hw⟩ := hw
  refine te_iald dLw_law_2076 e2 (Or.inr f3) f4 ?_
  refine tq_aload_n dLw_law_2077 rfl rfl ?_
  refine tq_iload dLw_law_2078 rfl ?_
  refine tq_iconst (v := (2 : Int32)) dLw_law_2080 tni_2 ?_
  refine tq_iadd dLw_law_2081 ?_
  obtain ⟨f5, hw⟩ := hw
  refine te_iald dLw_law_2082 e2 (Or.inr f3) f5 ?_
  refine tq_aload_n dLw_law_2083 rfl rfl ?_
  refine tq_iload dLw_law_2084 rfl ?_
  refine tq_iconst (v := (3 : Int32)) dLw_law_2086 tni_3 ?_
  refine tq_iadd dLw_law_2087 ?_
  obtain ⟨f6, hw⟩ := hw
  refine te_iald dLw_law_2088 e2 (Or.inr f3) f6 ?_
  refine tq_ifeq (tgt := 2096) dLw_law_2089 (by decide) (fun c7 => ?_) (fun c7 => ?_)
  · have hw := hw.1 c7
    refine tq_iconst (v := (0 : Int32)) dLw_law_2096 tni_0 ?_
    refine tpR.fo (ls' := [some (vR x0), some (vR x1), some (vR x2), some (vR x3), some (vR x4), some (vI x5), none, none]) ?_ (And.intro rfl (And.intro rfl (And.intro rfl (And.intro rfl (And.intro rfl (And.intro rfl trivial))))))
    exact s_Lw_law_2097 k28 _ _ _ _ _ _ _ _ _ _ _ hw
  · have hw := hw.2 c7
    refine tq_iconst (v := (1 : Int32)) dLw_law_2092 tni_1 ?_
    refine tq_goto (tgt := 2097) dLw_law_2093 (by decide) ?_
    refine tpR.fo (ls' := [some (vR x0), some (vR x1), some (vR x2), some (vR x3), some (vR x4), some (vI x5), none, none]) ?_ (And.intro rfl (And.intro rfl (And.intro rfl (And.intro rfl (And.intro rfl (And.intro rfl trivial))))))
    exact s_Lw_law_2097 k28 _ _ _ _ _ _ _ _ _ _ _ hw
theorem s_Lw_law_2166 {h0 : tpH} {av : List tpV} {R : Int32 → tpH → Prop} {K28 : (Option Nat) → (Option Nat) → (Option Nat) → (Option Nat) → (Option Nat) → Int32 → tpH → Prop} (k28 : ∀ (x0 : Option Nat) (x1 : Option Nat) (x2 : Option Nat) (x3 : Option Nat) (x4 : Option Nat) (x5 : Int32) (h : tpH), K28 x0 x1 x2 x3 x4 x5 h → tpR Lw_main 11 h0 av (tpOi R (fun _ _ => False)) 28 [some (vR x0), some (vR x1), some (vR x2), some (vR x3), some (vR x4), some (vI x5), none, none] [] h) : ∀ (x0 : Option Nat) (x1 : Option Nat) (x2 : Option Nat) (x3 : Option Nat) (x4 : Option Nat) (x5 : Int32) (h : tpH), w_Lw_law_2166 R K28 x0 x1 x2 x3 x4 x5 h → tpR Lw_main 11 h0 av (tpOi R (fun _ _ => False)) 2166 [some (vR x0), some (vR x1), some (vR x2), some (vR x3), some (vR x4), some (vI x5), none, none] [] h := by
  intro x0 x1 x2 x3 x4 x5 h hw
  unfold w_Lw_law_2166 at hw
  refine tq_aload_n dLw_law_2166 rfl rfl ?_
  obtain ⟨a1, e2, f3, hw⟩ := hw
  refine te_callV mv_TP_conflicts (ci := 12) (dc := 0) (as := []) (rest := []) kLw_225 rfl (Nat.le_of_ble_eq_true rfl) (Nat.le_of_ble_eq_true rfl) rfl rfl e2 f3 (Nat.le_of_ble_eq_true rfl) dLw_law_2167 (s_TP_conflicts hw) (fun _ _ hx => False.elim hx) (tk_i fun v5 h4 hw => ?_)
  refine tq_aload_n dLw_law_2170 rfl rfl ?_
  obtain ⟨a6, e7, f8, hw⟩ := hw
  refine te_callV mv_Md_conflicts (ci := 13) (dc := 0) (as := []) (rest := [vI v5]) kLw_228 rfl (Nat.le_of_ble_eq_true rfl) (Nat.le_of_ble_eq_true rfl) rfl rfl e7 f8 (Nat.le_of_ble_eq_true rfl) dLw_law_2171 (s_Md_conflicts hw) (fun _ _ hx => False.elim hx) (tk_i fun v10 h9 hw => ?_)
  refine tq_icmpeq (tgt := 2520) dLw_law_2174 (by decide) (fun c11 => ?_) (fun c11 => ?_)
  · have hw := hw.1 c11
    refine tq_inc (k := (6 : Int32)) (ls' := [some (vR x0), some (vR x1), some (vR x2), some (vR x3), some (vR x4), some (vI (x5 + (6 : Int32))), none, none]) dLw_law_2520 rfl tni_6 (Nat.le_of_ble_eq_true rfl) rfl ?_
    refine tq_goto (tgt := 28) dLw_law_2523 (by decide) ?_
    refine tpR.fo (ls' := [some (vR x0), some (vR x1), some (vR x2), some (vR x3), some (vR x4), some (vI (x5 + (6 : Int32))), none, none]) ?_ (And.intro rfl (And.intro rfl (And.intro rfl (And.intro rfl (And.intro rfl (And.intro rfl trivial))))))
    exact k28 _ _ _ _ _ _ _ hw
  · have hw := hw.2 c11
    refine tq_iconst (v := (0 : Int32)) dLw_law_2177 tni_0 ?_
    exact tq_iret rfl (by decide) dLw_law_2178 hw
theorem s_Lw_law_2179 {h0 : tpH} {av : List tpV} {R : Int32 → tpH → Prop} {K28 : (Option Nat) → (Option Nat) → (Option Nat) → (Option Nat) → (Option Nat) → Int32 → tpH → Prop} (k28 : ∀ (x0 : Option Nat) (x1 : Option Nat) (x2 : Option Nat) (x3 : Option Nat) (x4 : Option Nat) (x5 : Int32) (h : tpH), K28 x0 x1 x2 x3 x4 x5 h → tpR Lw_main 11 h0 av (tpOi R (fun _ _ => False)) 28 [some (vR x0), some (vR x1), some (vR x2), some (vR x3), some (vR x4), some (vI x5), none, none] [] h) : ∀ (x0 : Option Nat) (x1 : Option Nat) (x2 : Option Nat) (x3 : Option Nat) (x4 : Option Nat) (x5 : Int32) (h : tpH), w_Lw_law_2179 R K28 x0 x1 x2 x3 x4 x5 h → tpR Lw_main 11 h0 av (tpOi R (fun _ _ => False)) 2179 [some (vR x0), some (vR x1), some (vR x2), some (vR x3), some (vR x4), some (vI x5), none, none] [] h := by
  intro x0 x1 x2 x3 x4 x5 h hw
  unfold w_Lw_law_2179 at hw
  refine tq_aload_n dLw_law_2179 rfl rfl ?_
  refine tq_aload_n dLw_law_2180 rfl rfl ?_
  refine tq_iload dLw_law_2181 rfl ?_
  refine tq_iconst (v := (1 : Int32)) dLw_law_2183 tni_1 ?_
  refine tq_iadd dLw_law_2184 ?_
  obtain ⟨a1, e2, f3, hw⟩ := hw
  obtain ⟨f4, hw⟩ := hw
  refine te_iald dLw_law_2185 e2 (Or.inr f3) f4 ?_
  refine tq_aload_n dLw_law_2186 rfl rfl ?_
  refine tq_callSX ms_Lw_conflictKind (by intro hz; cases hz) (dc := 8) (as := [vR x1, vI (hI h a1 (x5 + (1 : Int32)).toNatClampNeg), vR x3]) (rest := []) kLw_229 (Nat.le_of_ble_eq_true rfl) (Nat.le_of_ble_eq_true rfl) rfl rfl (Nat.le_of_ble_eq_true rfl) dLw_law_2187 (s_Lw_conflictKind hw) (fun _ _ hx => False.elim hx) (tk_i fun v6 h5 hw => ?_)
  refine tq_istore (ls' := [some (vR x0), some (vR x1), some (vR x2), some (vR x3), some (vR x4), some (vI x5), some (vI v6), none]) dLw_law_2190 (Nat.le_of_ble_eq_true rfl) rfl ?_
  refine tq_aload_n dLw_law_2192 rfl rfl ?_
  refine tq_aload_n dLw_law_2193 rfl rfl ?_
  refine tq_iload dLw_law_2194 rfl ?_
  refine tq_iconst (v := (1 : Int32)) dLw_law_2196 tni_1 ?_
  refine tq_iadd dLw_law_2197 ?_
  obtain ⟨f7, hw⟩ := hw
  obtain ⟨f8, hw⟩ := hw
  refine te_iald dLw_law_2198 e2 (Or.inr f7) f8 ?_
  obtain ⟨a9, e10, f11, hw⟩ := hw
  refine te_callV mv_Md_conflictKind (ci := 13) (dc := 1) (as := [vI (hI h5 a1 (x5 + (1 : Int32)).toNatClampNeg)]) (rest := []) kLw_231 rfl (Nat.le_of_ble_eq_true rfl) (Nat.le_of_ble_eq_true rfl) rfl rfl e10 f11 (Nat.le_of_ble_eq_true rfl) dLw_law_2199 (s_Md_conflictKind hw) (fun _ _ hx => False.elim hx) (tk_i fun v13 h12 hw => ?_)
  refine tq_istore (ls' := [some (vR x0), some (vR x1), some (vR x2), some (vR x3), some (vR x4), some (vI x5), some (vI v6), some (vI v13)]) dLw_law_2202 (Nat.le_of_ble_eq_true rfl) rfl ?_
  refine tq_aload_n dLw_law_2204 rfl rfl ?_
  obtain ⟨f14, hw⟩ := hw
  refine te_callV mv_Md_thrown (ci := 13) (dc := 0) (as := []) (rest := []) kLw_130 rfl (Nat.le_of_ble_eq_true rfl) (Nat.le_of_ble_eq_true rfl) rfl rfl e10 f14 (Nat.le_of_ble_eq_true rfl) dLw_law_2205 (s_Md_thrown hw) (fun _ _ hx => False.elim hx) (tk_i fun v16 h15 hw => ?_)
  refine tq_iload dLw_law_2208 rfl ?_
  refine tq_icmpeq (tgt := 2215) dLw_law_2210 (by decide) (fun c17 => ?_) (fun c17 => ?_)
  · have hw := hw.1 c17
    refine tq_iload dLw_law_2215 rfl ?_
    refine tq_ifne (tgt := 2232) dLw_law_2217 (by decide) (fun c18 => ?_) (fun c18 => ?_)
    · have hw := hw.1 c18
      refine tq_goto (tgt := 2520) dLw_law_2232 (by decide) ?_
      refine tq_inc (k := (6 : Int32)) (ls' := [some (vR x0), some (vR x1), some (vR x2), some (vR x3), some (vR x4), some (vI (x5 + (6 : Int32))), some (vI v6), some (vI v13)]) dLw_law_2520 rfl tni_6 (Nat.le_of_ble_eq_true rfl) rfl ?_
      refine tq_goto (tgt := 28) dLw_law_2523 (by decide) ?_
      refine tpR.fo (ls' := [some (vR x0), some (vR x1), some (vR x2), some (vR x3), some (vR x4), some (vI (x5 + (6 : Int32))), none, none]) ?_ (And.intro rfl (And.intro rfl (And.intro rfl (And.intro rfl (And.intro rfl (And.intro rfl trivial))))))
      exact k28 _ _ _ _ _ _ _ hw
    · have hw := hw.2 c18
      refine tq_aload_n dLw_law_2220 rfl rfl ?_
      refine tq_iconst (v := (0 : Int32)) dLw_law_2221 tni_0 ?_
      obtain ⟨a19, e20, f21, hw⟩ := hw
      obtain ⟨f22, hw⟩ := hw
      refine te_lald dLw_law_2222 e20 f21 f22 ?_
      refine tq_iload dLw_law_2223 rfl ?_
      refine tq_i2l dLw_law_2225 ?_
      refine tq_lcmp dLw_law_2226 ?_
      refine tq_ifeq (tgt := 2232) dLw_law_2227 (by decide) (fun c23 => ?_) (fun c23 => ?_)
      · have hw := hw.1 c23
        refine tq_goto (tgt := 2520) dLw_law_2232 (by decide) ?_
        refine tq_inc (k := (6 : Int32)) (ls' := [some (vR x0), some (vR x1), some (vR x2), some (vR x3), some (vR x4), some (vI (x5 + (6 : Int32))), some (vI v6), some (vI v13)]) dLw_law_2520 rfl tni_6 (Nat.le_of_ble_eq_true rfl) rfl ?_
        refine tq_goto (tgt := 28) dLw_law_2523 (by decide) ?_
        refine tpR.fo (ls' := [some (vR x0), some (vR x1), some (vR x2), some (vR x3), some (vR x4), some (vI (x5 + (6 : Int32))), none, none]) ?_ (And.intro rfl (And.intro rfl (And.intro rfl (And.intro rfl (And.intro rfl (And.intro rfl trivial))))))
        exact k28 _ _ _ _ _ _ _ hw
      · have hw := hw.2 c23
        refine tq_iconst (v := (0 : Int32)) dLw_law_2230 tni_0 ?_
        exact tq_iret rfl (by decide) dLw_law_2231 hw
  · have hw := hw.2 c17
    refine tq_iconst (v := (0 : Int32)) dLw_law_2213 tni_0 ?_
    exact tq_iret rfl (by decide) dLw_law_2214 hw
theorem s_Lw_law_2235 {h0 : tpH} {av : List tpV} {R : Int32 → tpH → Prop} {K28 : (Option Nat) → (Option Nat) → (Option Nat) → (Option Nat) → (Option Nat) → Int32 → tpH → Prop} (k28 : ∀ (x0 : Option Nat) (x1 : Option Nat) (x2 : Option Nat) (x3 : Option Nat) (x4 : Option Nat) (x5 : Int32) (h : tpH), K28 x0 x1 x2 x3 x4 x5 h → tpR Lw_main 11 h0 av (tpOi R (fun _ _ => False)) 28 [some (vR x0), some (vR x1), some (vR x2), some (vR x3), some (vR x4), some (vI x5), none, none] [] h) : ∀ (x0 : Option Nat) (x1 : Option Nat) (x2 : Option Nat) (x3 : Option Nat) (x4 : Option Nat) (x5 : Int32) (h : tpH), w_Lw_law_2235 R K28 x0 x1 x2 x3 x4 x5 h → tpR Lw_main 11 h0 av (tpOi R (fun _ _ => False)) 2235 [some (vR x0), some (vR x1), some (vR x2), some (vR x3), some (vR x4), some (vI x5), none, none] [] h := by
  intro x0 x1 x2 x3 x4 x5 h hw
  unfold w_Lw_law_2235 at hw
  refine tq_aload_n dLw_law_2235 rfl rfl ?_
  refine tq_aload_n dLw_law_2236 rfl rfl ?_
  refine tq_iload dLw_law_2237 rfl ?_
  refine tq_iconst (v := (1 : Int32)) dLw_law_2239 tni_1 ?_
  refine tq_iadd dLw_law_2240 ?_
  obtain ⟨a1, e2, f3, hw⟩ := hw
  obtain ⟨f4, hw⟩ := hw
  refine te_iald dLw_law_2241 e2 (Or.inr f3) f4 ?_
  refine tq_aload_n dLw_law_2242 rfl rfl ?_
  refine tq_callSX ms_Lw_conflictMark (by intro hz; cases hz) (dc := 8) (as := [vR x1, vI (hI h a1 (x5 + (1 : Int32)).toNatClampNeg), vR x3]) (rest := []) kLw_232 (Nat.le_of_ble_eq_true rfl) (Nat.le_of_ble_eq_true rfl) rfl rfl (Nat.le_of_ble_eq_true rfl) dLw_law_2243 (s_Lw_conflictMark hw) (fun _ _ hx => False.elim hx) (tk_i fun v6 h5 hw => ?_)
  refine tq_istore (ls' := [some (vR x0), some (vR x1), some (vR x2), some (vR x3), some (vR x4), some (vI x5), some (vI v6), none]) dLw_law_2246 (Nat.le_of_ble_eq_true rfl) rfl ?_
  refine tq_aload_n dLw_law_2248 rfl rfl ?_
  refine tq_aload_n dLw_law_2249 rfl rfl ?_
  refine tq_iload dLw_law_2250 rfl ?_
  refine tq_iconst (v := (1 : Int32)) dLw_law_2252 tni_1 ?_
  refine tq_iadd dLw_law_2253 ?_
  obtain ⟨f7, hw⟩ := hw
  obtain ⟨f8, hw⟩ := hw
  refine te_iald dLw_law_2254 e2 (Or.inr f7) f8 ?_
  obtain ⟨a9, e10, f11, hw⟩ := hw
  refine te_callV mv_Md_conflictMark (ci := 13) (dc := 1) (as := [vI (hI h5 a1 (x5 + (1 : Int32)).toNatClampNeg)]) (rest := []) kLw_234 rfl (Nat.le_of_ble_eq_true rfl) (Nat.le_of_ble_eq_true rfl) rfl rfl e10 f11 (Nat.le_of_ble_eq_true rfl) dLw_law_2255 (s_Md_conflictMark hw) (fun _ _ hx => False.elim hx) (tk_i fun v13 h12 hw => ?_)
  refine tq_istore (ls' := [some (vR x0), some (vR x1), some (vR x2), some (vR x3), some (vR x4), some (vI x5), some (vI v6), some (vI v13)]) dLw_law_2258 (Nat.le_of_ble_eq_true rfl) rfl ?_
  refine tq_aload_n dLw_law_2260 rfl rfl ?_
  obtain ⟨f14, hw⟩ := hw
  refine te_callV mv_Md_thrown (ci := 13) (dc := 0) (as := []) (rest := []) kLw_130 rfl (Nat.le_of_ble_eq_true rfl) (Nat.le_of_ble_eq_true rfl) rfl rfl e10 f14 (Nat.le_of_ble_eq_true rfl) dLw_law_2261 (s_Md_thrown hw) (fun _ _ hx => False.elim hx) (tk_i fun v16 h15 hw => ?_)
  refine tq_iload dLw_law_2264 rfl ?_
  refine tq_icmpeq (tgt := 2271) dLw_law_2266 (by decide) (fun c17 => ?_) (fun c17 => ?_)
  · have hw := hw.1 c17
    refine tq_iload dLw_law_2271 rfl ?_
    refine tq_ifne (tgt := 2288) dLw_law_2273 (by decide) (fun c18 => ?_) (fun c18 => ?_)
    · have hw := hw.1 c18
      refine tq_goto (tgt := 2520) dLw_law_2288 (by decide) ?_
      refine tq_inc (k := (6 : Int32)) (ls' := [some (vR x0), some (vR x1), some (vR x2), some (vR x3), some (vR x4), some (vI (x5 + (6 : Int32))), some (vI v6), some (vI v13)]) dLw_law_2520 rfl tni_6 (Nat.le_of_ble_eq_true rfl) rfl ?_
      refine tq_goto (tgt := 28) dLw_law_2523 (by decide) ?_
      refine tpR.fo (ls' := [some (vR x0), some (vR x1), some (vR x2), some (vR x3), some (vR x4), some (vI (x5 + (6 : Int32))), none, none]) ?_ (And.intro rfl (And.intro rfl (And.intro rfl (And.intro rfl (And.intro rfl (And.intro rfl trivial))))))
      exact k28 _ _ _ _ _ _ _ hw
    · have hw := hw.2 c18
      refine tq_aload_n dLw_law_2276 rfl rfl ?_
      refine tq_iconst (v := (0 : Int32)) dLw_law_2277 tni_0 ?_
      obtain ⟨a19, e20, f21, hw⟩ := hw
      obtain ⟨f22, hw⟩ := hw
      refine te_lald dLw_law_2278 e20 f21 f22 ?_
      refine tq_iload dLw_law_2279 rfl ?_
      refine tq_i2l dLw_law_2281 ?_
      refine tq_lcmp dLw_law_2282 ?_
      refine tq_ifeq (tgt := 2288) dLw_law_2283 (by decide) (fun c23 => ?_) (fun c23 => ?_)
      · have hw := hw.1 c23
        refine tq_goto (tgt := 2520) dLw_law_2288 (by decide) ?_
        refine tq_inc (k := (6 : Int32)) (ls' := [some (vR x0), some (vR x1), some (vR x2), some (vR x3), some (vR x4), some (vI (x5 + (6 : Int32))), some (vI v6), some (vI v13)]) dLw_law_2520 rfl tni_6 (Nat.le_of_ble_eq_true rfl) rfl ?_
        refine tq_goto (tgt := 28) dLw_law_2523 (by decide) ?_
        refine tpR.fo (ls' := [some (vR x0), some (vR x1), some (vR x2), some (vR x3), some (vR x4), some (vI (x5 + (6 : Int32))), none, none]) ?_ (And.intro rfl (And.intro rfl (And.intro rfl (And.intro rfl (And.intro rfl (And.intro rfl trivial))))))
        exact k28 _ _ _ _ _ _ _ hw
      · have hw := hw.2 c23
        refine tq_iconst (v := (0 : Int32)) dLw_law_2286 tni_0 ?_
        exact tq_iret rfl (by decide) dLw_law_2287 hw
  · have hw := hw.2 c17
    refine tq_iconst (v := (0 : Int32)) dLw_law_2269 tni_0 ?_
    exact tq_iret rfl (by decide) dLw_law_2270 hw
theorem s_Lw_law_2291 {h0 : tpH} {av : List tpV} {R : Int32 → tpH → Prop} {K28 : (Option Nat) → (Option Nat) → (Option Nat) → (Option Nat) → (Option Nat) → Int32 → tpH → Prop} (k28 : ∀ (x0 : Option Nat) (x1 : Option Nat) (x2 : Option Nat) (x3 : Option Nat) (x4 : Option Nat) (x5 : Int32) (h : tpH), K28 x0 x1 x2 x3 x4 x5 h → tpR Lw_main 11 h0 av (tpOi R (fun _ _ => False)) 28 [some (vR x0), some (vR x1), some (vR x2), some (vR x3), some (vR x4), some (vI x5), none, none] [] h) : ∀ (x0 : Option Nat) (x1 : Option Nat) (x2 : Option Nat) (x3 : Option Nat) (x4 : Option Nat) (x5 : Int32) (h : tpH), w_Lw_law_2291 R K28 x0 x1 x2 x3 x4 x5 h → tpR Lw_main 11 h0 av (tpOi R (fun _ _ => False)) 2291 [some (vR x0), some (vR x1), some (vR x2), some (vR x3), some (vR x4), some (vI x5), none, none] [] h := by
  intro x0 x1 x2 x3 x4 x5 h hw
  unfold w_Lw_law_2291 at hw
  refine tq_aload_n dLw_law_2291 rfl rfl ?_
  obtain ⟨a1, e2, f3, hw⟩ := hw
  refine te_callV mv_TP_versions (ci := 12) (dc := 0) (as := []) (rest := []) kLw_235 rfl (Nat.le_of_ble_eq_true rfl) (Nat.le_of_ble_eq_true rfl) rfl rfl e2 f3 (Nat.le_of_ble_eq_true rfl) dLw_law_2292 (s_TP_versions hw) (fun _ _ hx => False.elim hx) (tk_i fun v5 h4 hw => ?_)
  refine tq_aload_n dLw_law_2295 rfl rfl ?_
  obtain ⟨a6, e7, f8, hw⟩ := hw
  refine te_callV mv_Md_versions (ci := 13) (dc := 0) (as := []) (rest := [vI v5]) kLw_238 rfl (Nat.le_of_ble_eq_true rfl) (Nat.le_of_ble_eq_true rfl) rfl rfl e7 f8 (Nat.le_of_ble_eq_true rfl) dLw_law_2296 (s_Md_versions hw) (fun _ _ hx => False.elim hx) (tk_i fun v10 h9 hw => ?_)
  refine tq_icmpeq (tgt := 2520) dLw_law_2299 (by decide) (fun c11 => ?_) (fun c11 => ?_)
  · have hw := hw.1 c11
    refine tq_inc (k := (6 : Int32)) (ls' := [some (vR x0), some (vR x1), some (vR x2), some (vR x3), some (vR x4), some (vI (x5 + (6 : Int32))), none, none]) dLw_law_2520 rfl tni_6 (Nat.le_of_ble_eq_true rfl) rfl ?_
    refine tq_goto (tgt := 28) dLw_law_2523 (by decide) ?_
    refine tpR.fo (ls' := [some (vR x0), some (vR x1), some (vR x2), some (vR x3), some (vR x4), some (vI (x5 + (6 : Int32))), none, none]) ?_ (And.intro rfl (And.intro rfl (And.intro rfl (And.intro rfl (And.intro rfl (And.intro rfl trivial))))))
    exact k28 _ _ _ _ _ _ _ hw
  · have hw := hw.2 c11
    refine tq_iconst (v := (0 : Int32)) dLw_law_2302 tni_0 ?_
    exact tq_iret rfl (by decide) dLw_law_2303 hw
theorem s_Lw_law_2304 {h0 : tpH} {av : List tpV} {R : Int32 → tpH → Prop} {K28 : (Option Nat) → (Option Nat) → (Option Nat) → (Option Nat) → (Option Nat) → Int32 → tpH → Prop} (k28 : ∀ (x0 : Option Nat) (x1 : Option Nat) (x2 : Option Nat) (x3 : Option Nat) (x4 : Option Nat) (x5 : Int32) (h : tpH), K28 x0 x1 x2 x3 x4 x5 h → tpR Lw_main 11 h0 av (tpOi R (fun _ _ => False)) 28 [some (vR x0), some (vR x1), some (vR x2), some (vR x3), some (vR x4), some (vI x5), none, none] [] h) : ∀ (x0 : Option Nat) (x1 : Option Nat) (x2 : Option Nat) (x3 : Option Nat) (x4 : Option Nat) (x5 : Int32) (h : tpH), w_Lw_law_2304 R K28 x0 x1 x2 x3 x4 x5 h → tpR Lw_main 11 h0 av (tpOi R (fun _ _ => False)) 2304 [some (vR x0), some (vR x1), some (vR x2), some (vR x3), some (vR x4), some (vI x5), none, none] [] h := by
  intro x0 x1 x2 x3 x4 x5 h hw
  unfold w_Lw_law_2304 at hw
  refine tq_aload_n dLw_law_2304 rfl rfl ?_
  refine tq_aload_n dLw_law_2305 rfl rfl ?_
  refine tq_iload dLw_law_2306 rfl ?_
  refine tq_iconst (v := (1 : Int32)) dLw_law_2308 tni_1 ?_
  refine tq_iadd dLw_law_2309 ?_
  obtain ⟨a1, e2, f3, hw⟩ := hw
  obtain ⟨f4, hw⟩ := hw
  refine te_iald dLw_law_2310 e2 (Or.inr f3) f4 ?_
  refine tq_aload_n dLw_law_2311 rfl rfl ?_
  refine tq_callSX ms_Lw_treeOf (by intro hz; cases hz) (dc := 8) (as := [vR x1, vI (hI h a1 (x5 + (1 : Int32)).toNatClampNeg), vR x3]) (rest := []) kLw_239 (Nat.le_of_ble_eq_true rfl) (Nat.le_of_ble_eq_true rfl) rfl rfl (Nat.le_of_ble_eq_true rfl) dLw_law_2312 (s_Lw_treeOf hw) (fun _ _ hx => False.elim hx) (tk_i fun v6 h5 hw => ?_)
  refine tq_istore (ls' := [some (vR x0), some (vR x1), some (vR x2), some (vR x3), some (vR x4), some (vI x5), some (vI v6), none]) dLw_law_2315 (Nat.le_of_ble_eq_true rfl) rfl ?_
  refine tq_aload_n dLw_law_2317 rfl rfl ?_
  refine tq_aload_n dLw_law_2318 rfl rfl ?_
  refine tq_iload dLw_law_2319 rfl ?_
  refine tq_iconst (v := (1 : Int32)) dLw_law_2321 tni_1 ?_
  refine tq_iadd dLw_law_2322 ?_
  obtain ⟨f7, hw⟩ := hw
  obtain ⟨f8, hw⟩ := hw
  refine te_iald dLw_law_2323 e2 (Or.inr f7) f8 ?_
  obtain ⟨a9, e10, f11, hw⟩ := hw
  refine te_callV mv_Md_treeOf (ci := 13) (dc := 2) (as := [vI (hI h5 a1 (x5 + (1 : Int32)).toNatClampNeg)]) (rest := []) kLw_241 rfl (Nat.le_of_ble_eq_true rfl) (Nat.le_of_ble_eq_true rfl) rfl rfl e10 f11 (Nat.le_of_ble_eq_true rfl) dLw_law_2324 (s_Md_treeOf hw) (fun _ _ hx => False.elim hx) (tk_i fun v13 h12 hw => ?_)
  refine tq_istore (ls' := [some (vR x0), some (vR x1), some (vR x2), some (vR x3), some (vR x4), some (vI x5), some (vI v6), some (vI v13)]) dLw_law_2327 (Nat.le_of_ble_eq_true rfl) rfl ?_
  refine tq_aload_n dLw_law_2329 rfl rfl ?_
  obtain ⟨f14, hw⟩ := hw
  refine te_callV mv_Md_thrown (ci := 13) (dc := 0) (as := []) (rest := []) kLw_130 rfl (Nat.le_of_ble_eq_true rfl) (Nat.le_of_ble_eq_true rfl) rfl rfl e10 f14 (Nat.le_of_ble_eq_true rfl) dLw_law_2330 (s_Md_thrown hw) (fun _ _ hx => False.elim hx) (tk_i fun v16 h15 hw => ?_)
  refine tq_iload dLw_law_2333 rfl ?_
  refine tq_icmpeq (tgt := 2340) dLw_law_2335 (by decide) (fun c17 => ?_) (fun c17 => ?_)
  · have hw := hw.1 c17
    refine tq_iload dLw_law_2340 rfl ?_
    refine tq_ifne (tgt := 2357) dLw_law_2342 (by decide) (fun c18 => ?_) (fun c18 => ?_)
    · have hw := hw.1 c18
      refine tq_goto (tgt := 2520) dLw_law_2357 (by decide) ?_
      refine tq_inc (k := (6 : Int32)) (ls' := [some (vR x0), some (vR x1), some (vR x2), some (vR x3), some (vR x4), some (vI (x5 + (6 : Int32))), some (vI v6), some (vI v13)]) dLw_law_2520 rfl tni_6 (Nat.le_of_ble_eq_true rfl) rfl ?_
      refine tq_goto (tgt := 28) dLw_law_2523 (by decide) ?_
      refine tpR.fo (ls' := [some (vR x0), some (vR x1), some (vR x2), some (vR x3), some (vR x4), some (vI (x5 + (6 : Int32))), none, none]) ?_ (And.intro rfl (And.intro rfl (And.intro rfl (And.intro rfl (And.intro rfl (And.intro rfl trivial))))))
      exact k28 _ _ _ _ _ _ _ hw
    · have hw := hw.2 c18
      refine tq_aload_n dLw_law_2345 rfl rfl ?_
      refine tq_iconst (v := (0 : Int32)) dLw_law_2346 tni_0 ?_
      obtain ⟨a19, e20, f21, hw⟩ := hw
      obtain ⟨f22, hw⟩ := hw
      refine te_lald dLw_law_2347 e20 f21 f22 ?_
      refine tq_iload dLw_law_2348 rfl ?_
      refine tq_i2l dLw_law_2350 ?_
      refine tq_lcmp dLw_law_2351 ?_
      refine tq_ifeq (tgt := 2357) dLw_law_2352 (by decide) (fun c23 => ?_) (fun c23 => ?_)
      · have hw := hw.1 c23
        refine tq_goto (tgt := 2520) dLw_law_2357 (by decide) ?_
        refine tq_inc (k := (6 : Int32)) (ls' := [some (vR x0), some (vR x1), some (vR x2), some (vR x3), some (vR x4), some (vI (x5 + (6 : Int32))), some (vI v6), some (vI v13)]) dLw_law_2520 rfl tni_6 (Nat.le_of_ble_eq_true rfl) rfl ?_
        refine tq_goto (tgt := 28) dLw_law_2523 (by decide) ?_
        refine tpR.fo (ls' := [some (vR x0), some (vR x1), some (vR x2), some (vR x3), some (vR x4), some (vI (x5 + (6 : Int32))), none, none]) ?_ (And.intro rfl (And.intro rfl (And.intro rfl (And.intro rfl (And.intro rfl (And.intro rfl trivial))))))
        exact k28 _ _ _ _ _ _ _ hw
      · have hw := hw.2 c23
        refine tq_iconst (v := (0 : Int32)) dLw_law_2355 tni_0 ?_
        exact tq_iret rfl (by decide) dLw_law_2356 hw
  · have hw := hw.2 c17
    refine tq_iconst (v := (0 : Int32)) dLw_law_2338 tni_0 ?_
    exact tq_iret rfl (by decide) dLw_law_2339 hw
theorem s_Lw_law_2360 {h0 : tpH} {av : List tpV} {R : Int32 → tpH → Prop} {K28 : (Option Nat) → (Option Nat) → (Option Nat) → (Option Nat) → (Option Nat) → Int32 → tpH → Prop} (k28 : ∀ (x0 : Option Nat) (x1 : Option Nat) (x2 : Option Nat) (x3 : Option Nat) (x4 : Option Nat) (x5 : Int32) (h : tpH), K28 x0 x1 x2 x3 x4 x5 h → tpR Lw_main 11 h0 av (tpOi R (fun _ _ => False)) 28 [some (vR x0), some (vR x1), some (vR x2), some (vR x3), some (vR x4), some (vI x5), none, none] [] h) : ∀ (x0 : Option Nat) (x1 : Option Nat) (x2 : Option Nat) (x3 : Option Nat) (x4 : Option Nat) (x5 : Int32) (h : tpH), w_Lw_law_2360 R K28 x0 x1 x2 x3 x4 x5 h → tpR Lw_main 11 h0 av (tpOi R (fun _ _ => False)) 2360 [some (vR x0), some (vR x1), some (vR x2), some (vR x3), some (vR x4), some (vI x5), none, none] [] h := by
  intro x0 x1 x2 x3 x4 x5 h hw
  unfold w_Lw_law_2360 at hw
  refine tq_aload_n dLw_law_2360 rfl rfl ?_
  refine tq_aload_n dLw_law_2361 rfl rfl ?_
  refine tq_iload dLw_law_2362 rfl ?_
  refine tq_iconst (v := (1 : Int32)) dLw_law_2364 tni_1 ?_
  refine tq_iadd dLw_law_2365 ?_
  obtain ⟨a1, e2, f3, hw⟩ := hw
  obtain ⟨f4, hw⟩ := hw
  refine te_iald dLw_law_2366 e2 (Or.inr f3) f4 ?_
  refine tq_aload_n dLw_law_2367 rfl rfl ?_
  refine tq_iload dLw_law_2368 rfl ?_
  refine tq_iconst (v := (2 : Int32)) dLw_law_2370 tni_2 ?_
  refine tq_iadd dLw_law_2371 ?_
  obtain ⟨f5, hw⟩ := hw
  refine te_iald dLw_law_2372 e2 (Or.inr f3) f5 ?_
  refine tq_aload_n dLw_law_2373 rfl rfl ?_
  refine tq_callSX ms_Lw_touched (by intro hz; cases hz) (dc := 10) (as := [vR x1, vI (hI h a1 (x5 + (1 : Int32)).toNatClampNeg), vI (hI h a1 (x5 + (2 : Int32)).toNatClampNeg), vR x3]) (rest := []) kLw_242 (Nat.le_of_ble_eq_true rfl) (Nat.le_of_ble_eq_true rfl) rfl rfl (Nat.le_of_ble_eq_true rfl) dLw_law_2374 (s_Lw_touched hw) (fun _ _ hx => False.elim hx) (tk_i fun v7 h6 hw => ?_)
  refine tq_istore (ls' := [some (vR x0), some (vR x1), some (vR x2), some (vR x3), some (vR x4), some (vI x5), some (vI v7), none]) dLw_law_2377 (Nat.le_of_ble_eq_true rfl) rfl ?_
  refine tq_aload_n dLw_law_2379 rfl rfl ?_
  refine tq_aload_n dLw_law_2380 rfl rfl ?_
  refine tq_iload dLw_law_2381 rfl ?_
  refine tq_iconst (v := (1 : Int32)) dLw_law_2383 tni_1 ?_
  refine tq_iadd dLw_law_2384 ?_
  obtain ⟨f8, hw⟩ := hw
  obtain ⟨f9, hw⟩ := hw
  refine te_iald dLw_law_2385 e2 (Or.inr f8) f9 ?_
  refine tq_aload_n dLw_law_2386 rfl rfl ?_
  refine tq_iload dLw_law_2387 rfl ?_
  refine tq_iconst (v := (2 : Int32)) dLw_law_2389 tni_2 ?_
  refine tq_iadd dLw_law_2390 ?_
  obtain ⟨f10, hw⟩ := hw
  refine te_iald dLw_law_2391 e2 (Or.inr f8) f10 ?_
  obtain ⟨a11, e12, f13, hw⟩ := hw
  refine te_callV mv_Md_touched (ci := 13) (dc := 4) (as := [vI (hI h6 a1 (x5 + (1 : Int32)).toNatClampNeg), vI (hI h6 a1 (x5 + (2 : Int32)).toNatClampNeg)]) (rest := []) kLw_244 rfl (Nat.le_of_ble_eq_true rfl) (Nat.le_of_ble_eq_true rfl) rfl rfl e12 f13 (Nat.le_of_ble_eq_true rfl) dLw_law_2392 (s_Md_touched hw) (fun _ _ hx => False.elim hx) (tk_i fun v15 h14 hw => ?_)
  refine tq_istore (ls' := [some (vR x0), some (vR x1), some (vR x2), some (vR x3), some (vR x4), some (vI x5), some (vI v7), some (vI v15)]) dLw_law_2395 (Nat.le_of_ble_eq_true rfl) rfl ?_
  refine tq_aload_n dLw_law_2397 rfl rfl ?_
  obtain ⟨f16, hw⟩ := hw
  refine te_callV mv_Md_thrown (ci := 13) (dc := 0) (as := []) (rest := []) kLw_130 rfl (Nat.le_of_ble_eq_true rfl) (Nat.le_of_ble_eq_true rfl) rfl rfl e12 f16 (Nat.le_of_ble_eq_true rfl) dLw_law_2398 (s_Md_thrown hw) (fun _ _ hx => False.elim hx) (tk_i fun v18 h17 hw => ?_)
  refine tq_iload dLw_law_2401 rfl ?_
  refine tq_icmpeq (tgt := 2408) dLw_law_2403 (by decide) (fun c19 => ?_) (fun c19 => ?_)
  · have hw := hw.1 c19
    refine tq_iload dLw_law_2408 rfl ?_
    refine tq_ifne (tgt := 2425) dLw_law_2410 (by decide) (fun c20 => ?_) (fun c20 => ?_)
    · have hw := hw.1 c20
      refine tq_goto (tgt := 2520) dLw_law_2425 (by decide) ?_
      refine tq_inc (k := (6 : Int32)) (ls' := [some (vR x0), some (vR x1), some (vR x2), some (vR x3), some (vR x4), some (vI (x5 + (6 : Int32))), some (vI v7), some (vI v15)]) dLw_law_2520 rfl tni_6 (Nat.le_of_ble_eq_true rfl) rfl ?_
      refine tq_goto (tgt := 28) dLw_law_2523 (by decide) ?_
      refine tpR.fo (ls' := [some (vR x0), some (vR x1), some (vR x2), some (vR x3), some (vR x4), some (vI (x5 + (6 : Int32))), none, none]) ?_ (And.intro rfl (And.intro rfl (And.intro rfl (And.intro rfl (And.intro rfl (And.intro rfl trivial))))))
      exact k28 _ _ _ _ _ _ _ hw
    · have hw := hw.2 c20
      refine tq_aload_n dLw_law_2413 rfl rfl ?_
      refine tq_iconst (v := (0 : Int32)) dLw_law_2414 tni_0 ?_
      obtain ⟨a21, e22, f23, hw⟩ := hw
      obtain ⟨f24, hw⟩ := hw
      refine te_lald dLw_law_2415 e22 f23 f24 ?_
      refine tq_iload dLw_law_2416 rfl ?_
      refine tq_i2l dLw_law_2418 ?_
      refine tq_lcmp dLw_law_2419 ?_
      refine tq_ifeq (tgt := 2425) dLw_law_2420 (by decide) (fun c25 => ?_) (fun c25 => ?_)
      · have hw := hw.1 c25
        refine tq_goto (tgt := 2520) dLw_law_2425 (by decide) ?_
        refine tq_inc (k := (6 : Int32)) (ls' := [some (vR x0), some (vR x1), some (vR x2), some (vR x3), some (vR x4), some (vI (x5 + (6 : Int32))), some (vI v7), some (vI v15)]) dLw_law_2520 rfl tni_6 (Nat.le_of_ble_eq_true rfl) rfl ?_
        refine tq_goto (tgt := 28) dLw_law_2523 (by decide) ?_
        refine tpR.fo (ls' := [some (vR x0), some (vR x1), some (vR x2), some (vR x3), some (vR x4), some (vI (x5 + (6 : Int32))), none, none]) ?_ (And.intro rfl (And.intro rfl (And.intro rfl (And.intro rfl (And.intro rfl (And.intro rfl trivial))))))
        exact k28 _ _ _ _ _ _ _ hw
      · have hw := hw.2 c25
        refine tq_iconst (v := (0 : Int32)) dLw_law_2423 tni_0 ?_
        exact tq_iret rfl (by decide) dLw_law_2424 hw
  · have hw := hw.2 c19
    refine tq_iconst (v := (0 : Int32)) dLw_law_2406 tni_0 ?_
    exact tq_iret rfl (by decide) dLw_law_2407 hw
theorem s_Lw_law_2428 {h0 : tpH} {av : List tpV} {R : Int32 → tpH → Prop} {K28 : (Option Nat) → (Option Nat) → (Option Nat) → (Option Nat) → (Option Nat) → Int32 → tpH → Prop} (k28 : ∀ (x0 : Option Nat) (x1 : Option Nat) (x2 : Option Nat) (x3 : Option Nat) (x4 : Option Nat) (x5 : Int32) (h : tpH), K28 x0 x1 x2 x3 x4 x5 h → tpR Lw_main 11 h0 av (tpOi R (fun _ _ => False)) 28 [some (vR x0), some (vR x1), some (vR x2), some (vR x3), some (vR x4), some (vI x5), none, none] [] h) : ∀ (x0 : Option Nat) (x1 : Option Nat) (x2 : Option Nat) (x3 : Option Nat) (x4 : Option Nat) (x5 : Int32) (h : tpH), w_Lw_law_2428 R K28 x0 x1 x2 x3 x4 x5 h → tpR Lw_main 11 h0 av (tpOi R (fun _ _ => False)) 2428 [some (vR x0), some (vR x1), some (vR x2), some (vR x3), some (vR x4), some (vI x5), none, none] [] h := by
  intro x0 x1 x2 x3 x4 x5 h hw
  unfold w_Lw_law_2428 at hw
  refine tq_aload_n dLw_law_2428 rfl rfl ?_
  refine tq_aload_n dLw_law_2429 rfl rfl ?_
  refine tq_iload dLw_law_2430 rfl ?_
  refine tq_iconst (v := (1 : Int32)) dLw_law_2432 tni_1 ?_
  refine tq_iadd dLw_law_2433 ?_
  obtain ⟨a1, e2, f3, hw⟩ := hw
  obtain ⟨f4, hw⟩ := hw
  refine te_iald dLw_law_2434 e2 (Or.inr f3) f4 ?_
  refine tq_aload_n dLw_law_2435 rfl rfl ?_
  refine tq_iload dLw_law_2436 rfl ?_
  refine tq_iconst (v := (2 : Int32)) dLw_law_2438 tni_2 ?_
  refine tq_iadd dLw_law_2439 ?_
  obtain ⟨f5, hw⟩ := hw
  refine te_iald dLw_law_2440 e2 (Or.inr f3) f5 ?_
  refine tq_aload_n dLw_law_2441 rfl rfl ?_
  refine tq_iload dLw_law_2442 rfl ?_
  refine tq_iconst (v := (3 : Int32)) dLw_law_2444 tni_3 ?_
  refine tq_iadd dLw_law_2445 ?_
  obtain ⟨f6, hw⟩ := hw
  refine te_iald dLw_law_2446 e2 (Or.inr f3) f6 ?_
  refine tq_aload_n dLw_law_2447 rfl rfl ?_
  refine tq_iload dLw_law_2448 rfl ?_
  refine tq_iconst (v := (4 : Int32)) dLw_law_2450 tni_4 ?_
  refine tq_iadd dLw_law_2451 ?_
  obtain ⟨f7, hw⟩ := hw
  refine te_iald dLw_law_2452 e2 (Or.inr f3) f7 ?_
  refine tq_aload_n dLw_law_2453 rfl rfl ?_
  refine tq_callSX ms_Lw_look (by intro hz; cases hz) (dc := 9) (as := [vR x1, vI (hI h a1 (x5 + (1 : Int32)).toNatClampNeg), vI (hI h a1 (x5 + (2 : Int32)).toNatClampNeg), vI (hI h a1 (x5 + (3 : Int32)).toNatClampNeg), vI (hI h a1 (x5 + (4 : Int32)).toNatClampNeg), vR x3]) (rest := []) kLw_245 (Nat.le_of_ble_eq_true rfl) (Nat.le_of_ble_eq_true rfl) rfl rfl (Nat.le_of_ble_eq_true rfl) dLw_law_2454 (s_Lw_look hw) (fun _ _ hx => False.elim hx) (tk_i fun v9 h8 hw => ?_)
  refine tq_istore (ls' := [some (vR x0), some (vR x1), some (vR x2), some (vR x3), some (vR x4), some (vI x5), some (vI v9), none]) dLw_law_2457 (Nat.le_of_ble_eq_true rfl) rfl ?_
  refine tq_aload_n dLw_law_2459 rfl rfl ?_
  refine tq_aload_n dLw_law_2460 rfl rfl ?_
  refine tq_iload dLw_law_2461 rfl ?_
  refine tq_iconst (v := (1 : Int32)) dLw_law_2463 tni_1 ?_
  refine tq_iadd dLw_law_2464 ?_
  obtain ⟨f10, hw⟩ := hw
  obtain ⟨f11, hw⟩ := hw
  refine te_iald dLw_law_2465 e2 (Or.inr f10) f11 ?_
  refine tq_aload_n dLw_law_2466 rfl rfl ?_
  refine tq_iload dLw_law_2467 rfl ?_
  refine tq_iconst (v := (2 : Int32)) dLw_law_2469 tni_2 ?_
  refine tq_iadd dLw_law_2470 ?_
  obtain ⟨f12, hw⟩ := hw
  refine te_iald dLw_law_2471 e2 (Or.inr f10) f12 ?_
  refine tq_aload_n dLw_law_2472 rfl rfl ?_
  refine tq_iload dLw_law_2473 rfl ?_
  refine tq_iconst (v := (3 : Int32)) dLw_law_2475 tni_3 ?_
  refine tq_iadd dLw_law_2476 ?_
  obtain ⟨f13, hw⟩ := hw
  refine te_iald dLw_law_2477 e2 (Or.inr f10) f13 ?_
  refine tq_aload_n dLw_law_2478 rfl rfl ?_
  refine tq_iload dLw_law_2479 rfl ?_
  refine tq_iconst (v := (4 : Int32)) dLw_law_2481 tni_4 ?_
  refine tq_iadd dLw_law_2482 ?_
  obtain ⟨f14, hw⟩ := hw
  refine te_iald dLw_law_2483 e2 (Or.inr f10) f14 ?_
  obtain ⟨a15, e16, f17, hw⟩ := hw
  refine te_callV mv_Md_look (ci := 13) (dc := 4) (as := [vI (hI h8 a1 (x5 + (1 : Int32)).toNatClampNeg), vI (hI h8 a1 (x5 + (2 : Int32)).toNatClampNeg), vI (hI h8 a1 (x5 + (3 : Int32)).toNatClampNeg), vI (hI h8 a1 (x5 + (4 : Int32)).toNatClampNeg)]) (rest := []) kLw_248 rfl (Nat.le_of_ble_eq_true rfl) (Nat.le_of_ble_eq_true rfl) rfl rfl e16 f17 (Nat.le_of_ble_eq_true rfl) dLw_law_2484 (s_Md_look hw) (fun _ _ hx => False.elim hx) (tk_i fun v19 h18 hw => ?_)
  refine tq_istore (ls' := [some (vR x0), some (vR x1), some (vR x2), some (vR x3), some (vR x4), some (vI x5), some (vI v9), some (vI v19)]) dLw_law_2487 (Nat.le_of_ble_eq_true rfl) rfl ?_
  refine tq_aload_n dLw_law_2489 rfl rfl ?_
  obtain ⟨f20, hw⟩ := hw
  refine te_callV mv_Md_thrown (ci := 13) (dc := 0) (as := []) (rest := []) kLw_130 rfl (Nat.le_of_ble_eq_true rfl) (Nat.le_of_ble_eq_true rfl) rfl rfl e16 f20 (Nat.le_of_ble_eq_true rfl) dLw_law_2490 (s_Md_thrown hw) (fun _ _ hx => False.elim hx) (tk_i fun v22 h21 hw => ?_)
  refine tq_iload dLw_law_2493 rfl ?_
  refine tq_icmpeq (tgt := 2500) dLw_law_2495 (by decide) (fun c23 => ?_) (fun c23 => ?_)
  · have hw := hw.1 c23
    refine tq_iload dLw_law_2500 rfl ?_
    refine tq_ifne (tgt := 2517) dLw_law_2502 (by decide) (fun c24 => ?_) (fun c24 => ?_)
    · have hw := hw.1 c24
      refine tq_goto (tgt := 2520) dLw_law_2517 (by decide) ?_
      refine tq_inc (k := (6 : Int32)) (ls' := [some (vR x0), some (vR x1), some (vR x2), some (vR x3), some (vR x4), some (vI (x5 + (6 : Int32))), some (vI v9), some (vI v19)]) dLw_law_2520 rfl tni_6 (Nat.le_of_ble_eq_true rfl) rfl ?_
      refine tq_goto (tgt := 28) dLw_law_2523 (by decide) ?_
      refine tpR.fo (ls' := [some (vR x0), some (vR x1), some (vR x2), some (vR x3), some (vR x4), some (vI (x5 + (6 : Int32))), none, none]) ?_ (And.intro rfl (And.intro rfl (And.intro rfl (And.intro rfl (And.intro rfl (And.intro rfl trivial))))))
      exact k28 _ _ _ _ _ _ _ hw
    · have hw := hw.2 c24
      refine tq_aload_n dLw_law_2505 rfl rfl ?_
      refine tq_iconst (v := (0 : Int32)) dLw_law_2506 tni_0 ?_
      obtain ⟨a25, e26, f27, hw⟩ := hw
      obtain ⟨f28, hw⟩ := hw
      refine te_lald dLw_law_2507 e26 f27 f28 ?_
      refine tq_iload dLw_law_2508 rfl ?_
      refine tq_i2l dLw_law_2510 ?_
      refine tq_lcmp dLw_law_2511 ?_
      refine tq_ifeq (tgt := 2517) dLw_law_2512 (by decide) (fun c29 => ?_) (fun c29 => ?_)
      · have hw := hw.1 c29
        refine tq_goto (tgt := 2520) dLw_law_2517 (by decide) ?_
        refine tq_inc (k := (6 : Int32)) (ls' := [some (vR x0), some (vR x1), some (vR x2), some (vR x3), some (vR x4), some (vI (x5 + (6 : Int32))), some (vI v9), some (vI v19)]) dLw_law_2520 rfl tni_6 (Nat.le_of_ble_eq_true rfl) rfl ?_
        refine tq_goto (tgt := 28) dLw_law_2523 (by decide) ?_
        refine tpR.fo (ls' := [some (vR x0), some (vR x1), some (vR x2), some (vR x3), some (vR x4), some (vI (x5 + (6 : Int32))), none, none]) ?_ (And.intro rfl (And.intro rfl (And.intro rfl (And.intro rfl (And.intro rfl (And.intro rfl trivial))))))
        exact k28 _ _ _ _ _ _ _ hw
      · have hw := hw.2 c29
        refine tq_iconst (v := (0 : Int32)) dLw_law_2515 tni_0 ?_
        exact tq_iret rfl (by decide) dLw_law_2516 hw
  · have hw := hw.2 c23
    refine tq_iconst (v := (0 : Int32)) dLw_law_2498 tni_0 ?_
    exact tq_iret rfl (by decide) dLw_law_2499 hw
theorem s_Lw_law_28 {h0 : tpH} {av : List tpV} {R : Int32 → tpH → Prop} : ∀ (n : Nat) (x0 : Option Nat) (x1 : Option Nat) (x2 : Option Nat) (x3 : Option Nat) (x4 : Option Nat) (x5 : Int32) (h : tpH), w_Lw_law_28 R n x0 x1 x2 x3 x4 x5 h → tpR Lw_main 11 h0 av (tpOi R (fun _ _ => False)) 28 [some (vR x0), some (vR x1), some (vR x2), some (vR x3), some (vR x4), some (vI x5), none, none] [] h := by
  intro n
  induction n with
  | zero => intro x0 x1 x2 x3 x4 x5 h hw; exact False.elim hw
  | succ n ih =>
    intro x0 x1 x2 x3 x4 x5 h hw
    change b_Lw_law_28 R (w_Lw_law_28 R n) x0 x1 x2 x3 x4 x5 h at hw
    unfold b_Lw_law_28 at hw
    refine tq_iload dLw_law_28 rfl ?_
    refine tq_aload_n dLw_law_30 rfl rfl ?_
    obtain ⟨a1, e2, f3, hw⟩ := hw
    refine te_alen dLw_law_31 e2 (by rw [f3]; decide) ?_
    refine tq_bipush (v := (6 : Int32)) dLw_law_32 tnb_6 ?_
    refine tq_isub dLw_law_34 ?_
    refine tq_icmpgt (tgt := 2526) dLw_law_35 (by decide) (fun c4 => ?_) (fun c4 => ?_)
    · have hw := hw.1 c4
      refine tq_iconst (v := (1 : Int32)) dLw_law_2526 tni_1 ?_
      exact tq_iret rfl (by decide) dLw_law_2527 hw
    · have hw := hw.2 c4
      refine tq_aload_n dLw_law_38 rfl rfl ?_
      refine tq_iload dLw_law_39 rfl ?_
      obtain ⟨f5, hw⟩ := hw
      refine te_iald dLw_law_41 e2 (Or.inr f3) f5 ?_
      refine tq_bipush (v := (63 : Int32)) dLw_law_42 tnb_63 ?_
      refine tq_iand dLw_law_44 ?_
      by_cases c6 : ((hI h a1 x5.toNatClampNeg) &&& (63 : Int32)).toInt < 0 ∨ 35 < ((hI h a1 x5.toNatClampNeg) &&& (63 : Int32)).toInt
      · refine tq_swOut (tgt := 2520) dLw_law_45 c6 (by decide) ?_
        have hw := hw.1 c6
        refine tq_inc (k := (6 : Int32)) (ls' := [some (vR x0), some (vR x1), some (vR x2), some (vR x3), some (vR x4), some (vI (x5 + (6 : Int32))), none, none]) dLw_law_2520 rfl tni_6 (Nat.le_of_ble_eq_true rfl) rfl ?_
        refine tq_goto (tgt := 28) dLw_law_2523 (by decide) ?_
        refine tpR.fo (ls' := [some (vR x0), some (vR x1), some (vR x2), some (vR x3), some (vR x4), some (vI (x5 + (6 : Int32))), none, none]) ?_ (And.intro rfl (And.intro rfl (And.intro rfl (And.intro rfl (And.intro rfl (And.intro rfl trivial))))))
        exact ih _ _ _ _ _ _ _ hw
      · have hw := hw.2
        have hq : ((hI h a1 x5.toNatClampNeg) &&& (63 : Int32)).toInt = 0 ∨ ((hI h a1 x5.toNatClampNeg) &&& (63 : Int32)).toInt = 1 ∨ ((hI h a1 x5.toNatClampNeg) &&& (63 : Int32)).toInt = 2 ∨ ((hI h a1 x5.toNatClampNeg) &&& (63 : Int32)).toInt = 3 ∨ ((hI h a1 x5.toNatClampNeg) &&& (63 : Int32)).toInt = 4 ∨ ((hI h a1 x5.toNatClampNeg) &&& (63 : Int32)).toInt = 5 ∨ ((hI h a1 x5.toNatClampNeg) &&& (63 : Int32)).toInt = 6 ∨ ((hI h a1 x5.toNatClampNeg) &&& (63 : Int32)).toInt = 7 ∨ ((hI h a1 x5.toNatClampNeg) &&& (63 : Int32)).toInt = 8 ∨ ((hI h a1 x5.toNatClampNeg) &&& (63 : Int32)).toInt = 9 ∨ ((hI h a1 x5.toNatClampNeg) &&& (63 : Int32)).toInt = 10 ∨ ((hI h a1 x5.toNatClampNeg) &&& (63 : Int32)).toInt = 11 ∨ ((hI h a1 x5.toNatClampNeg) &&& (63 : Int32)).toInt = 12 ∨ ((hI h a1 x5.toNatClampNeg) &&& (63 : Int32)).toInt = 13 ∨ ((hI h a1 x5.toNatClampNeg) &&& (63 : Int32)).toInt = 14 ∨ ((hI h a1 x5.toNatClampNeg) &&& (63 : Int32)).toInt = 15 ∨ ((hI h a1 x5.toNatClampNeg) &&& (63 : Int32)).toInt = 16 ∨ ((hI h a1 x5.toNatClampNeg) &&& (63 : Int32)).toInt = 17 ∨ ((hI h a1 x5.toNatClampNeg) &&& (63 : Int32)).toInt = 18 ∨ ((hI h a1 x5.toNatClampNeg) &&& (63 : Int32)).toInt = 19 ∨ ((hI h a1 x5.toNatClampNeg) &&& (63 : Int32)).toInt = 20 ∨ ((hI h a1 x5.toNatClampNeg) &&& (63 : Int32)).toInt = 21 ∨ ((hI h a1 x5.toNatClampNeg) &&& (63 : Int32)).toInt = 22 ∨ ((hI h a1 x5.toNatClampNeg) &&& (63 : Int32)).toInt = 23 ∨ ((hI h a1 x5.toNatClampNeg) &&& (63 : Int32)).toInt = 24 ∨ ((hI h a1 x5.toNatClampNeg) &&& (63 : Int32)).toInt = 25 ∨ ((hI h a1 x5.toNatClampNeg) &&& (63 : Int32)).toInt = 26 ∨ ((hI h a1 x5.toNatClampNeg) &&& (63 : Int32)).toInt = 27 ∨ ((hI h a1 x5.toNatClampNeg) &&& (63 : Int32)).toInt = 28 ∨ ((hI h a1 x5.toNatClampNeg) &&& (63 : Int32)).toInt = 29 ∨ ((hI h a1 x5.toNatClampNeg) &&& (63 : Int32)).toInt = 30 ∨ ((hI h a1 x5.toNatClampNeg) &&& (63 : Int32)).toInt = 31 ∨ ((hI h a1 x5.toNatClampNeg) &&& (63 : Int32)).toInt = 32 ∨ ((hI h a1 x5.toNatClampNeg) &&& (63 : Int32)).toInt = 33 ∨ ((hI h a1 x5.toNatClampNeg) &&& (63 : Int32)).toInt = 34 ∨ ((hI h a1 x5.toNatClampNeg) &&& (63 : Int32)).toInt = 35 := by omega
        rcases hq with c6 | c6 | c6 | c6 | c6 | c6 | c6 | c6 | c6 | c6 | c6 | c6 | c6 | c6 | c6 | c6 | c6 | c6 | c6 | c6 | c6 | c6 | c6 | c6 | c6 | c6 | c6 | c6 | c6 | c6 | c6 | c6 | c6 | c6 | c6 | c6
        · refine tq_swIn (off := 159) (tgt := 204) 0 c6 dLw_law_45 (by decide) (by decide) (by decide) (by decide) ?_
          have hw := hw.1 c6
          refine tpR.fo (ls' := [some (vR x0), some (vR x1), some (vR x2), some (vR x3), some (vR x4), some (vI x5), none, none]) ?_ (And.intro rfl (And.intro rfl (And.intro rfl (And.intro rfl (And.intro rfl (And.intro rfl trivial))))))
          exact s_Lw_law_204 ih _ _ _ _ _ _ _ hw
        · refine tq_swIn (off := 239) (tgt := 284) 1 c6 dLw_law_45 (by decide) (by decide) (by decide) (by decide) ?_
          have hw := hw.2.1 c6
          refine tpR.fo (ls' := [some (vR x0), some (vR x1), some (vR x2), some (vR x3), some (vR x4), some (vI x5), none, none]) ?_ (And.intro rfl (And.intro rfl (And.intro rfl (And.intro rfl (And.intro rfl (And.intro rfl trivial))))))
          exact s_Lw_law_284 ih _ _ _ _ _ _ _ hw
        · refine tq_swIn (off := 295) (tgt := 340) 2 c6 dLw_law_45 (by decide) (by decide) (by decide) (by decide) ?_
          have hw := hw.2.2.1 c6
          refine tpR.fo (ls' := [some (vR x0), some (vR x1), some (vR x2), some (vR x3), some (vR x4), some (vI x5), none, none]) ?_ (And.intro rfl (And.intro rfl (And.intro rfl (And.intro rfl (And.intro rfl (And.intro rfl trivial))))))
          exact s_Lw_law_340 ih _ _ _ _ _ _ _ hw
        · refine tq_swIn (off := 399) (tgt := 444) 3 c6 dLw_law_45 (by decide) (by decide) (by decide) (by decide) ?_
          have hw := hw.2.2.2.1 c6
          refine tpR.fo (ls' := [some (vR x0), some (vR x1), some (vR x2), some (vR x3), some (vR x4), some (vI x5), none, none]) ?_ (And.intro rfl (And.intro rfl (And.intro rfl (And.intro rfl (And.intro rfl (And.intro rfl trivial))))))
          exact s_Lw_law_444 ih _ _ _ _ _ _ _ hw
        · refine tq_swIn (off := 467) (tgt := 512) 4 c6 dLw_law_45 (by decide) (by decide) (by decide) (by decide) ?_
          have hw := hw.2.2.2.2.1 c6
          refine tpR.fo (ls' := [some (vR x0), some (vR x1), some (vR x2), some (vR x3), some (vR x4), some (vI x5), none, none]) ?_ (And.intro rfl (And.intro rfl (And.intro rfl (And.intro rfl (And.intro rfl (And.intro rfl trivial))))))
          exact s_Lw_law_512 ih _ _ _ _ _ _ _ hw
        · refine tq_swIn (off := 547) (tgt := 592) 5 c6 dLw_law_45 (by decide) (by decide) (by decide) (by decide) ?_
          have hw := hw.2.2.2.2.2.1 c6
          refine tpR.fo (ls' := [some (vR x0), some (vR x1), some (vR x2), some (vR x3), some (vR x4), some (vI x5), none, none]) ?_ (And.intro rfl (And.intro rfl (And.intro rfl (And.intro rfl (And.intro rfl (And.intro rfl trivial))))))
          exact s_Lw_law_592 ih _ _ _ _ _ _ _ hw
        · refine tq_swIn (off := 603) (tgt := 648) 6 c6 dLw_law_45 (by decide) (by decide) (by decide) (by decide) ?_
          have hw := hw.2.2.2.2.2.2.1 c6
          refine tpR.fo (ls' := [some (vR x0), some (vR x1), some (vR x2), some (vR x3), some (vR x4), some (vI x5), none, none]) ?_ (And.intro rfl (And.intro rfl (And.intro rfl (And.intro rfl (And.intro rfl (And.intro rfl trivial))))))
          exact s_Lw_law_648 ih _ _ _ _ _ _ _ hw
        · refine tq_swIn (off := 647) (tgt := 692) 7 c6 dLw_law_45 (by decide) (by decide) (by decide) (by decide) ?_
          have hw := hw.2.2.2.2.2.2.2.1 c6
          refine tpR.fo (ls' := [some (vR x0), some (vR x1), some (vR x2), some (vR x3), some (vR x4), some (vI x5), none, none]) ?_ (And.intro rfl (And.intro rfl (And.intro rfl (And.intro rfl (And.intro rfl (And.intro rfl trivial))))))
          exact s_Lw_law_692 ih _ _ _ _ _ _ _ hw
        · refine tq_swIn (off := 715) (tgt := 760) 8 c6 dLw_law_45 (by decide) (by decide) (by decide) (by decide) ?_
          have hw := hw.2.2.2.2.2.2.2.2.1 c6
          refine tpR.fo (ls' := [some (vR x0), some (vR x1), some (vR x2), some (vR x3), some (vR x4), some (vI x5), none, none]) ?_ (And.intro rfl (And.intro rfl (And.intro rfl (And.intro rfl (And.intro rfl (And.intro rfl trivial))))))
          exact s_Lw_law_760 ih _ _ _ _ _ _ _ hw
        · refine tq_swIn (off := 771) (tgt := 816) 9 c6 dLw_law_45 (by decide) (by decide) (by decide) (by decide) ?_
          have hw := hw.2.2.2.2.2.2.2.2.2.1 c6
          refine tpR.fo (ls' := [some (vR x0), some (vR x1), some (vR x2), some (vR x3), some (vR x4), some (vI x5), none, none]) ?_ (And.intro rfl (And.intro rfl (And.intro rfl (And.intro rfl (And.intro rfl (And.intro rfl trivial))))))
          exact s_Lw_law_816 ih _ _ _ _ _ _ _ hw
        · refine tq_swIn (off := 839) (tgt := 884) 10 c6 dLw_law_45 (by decide) (by decide) (by decide) (by decide) ?_
          have hw := hw.2.2.2.2.2.2.2.2.2.2.1 c6
          refine tpR.fo (ls' := [some (vR x0), some (vR x1), some (vR x2), some (vR x3), some (vR x4), some (vI x5), none, none]) ?_ (And.intro rfl (And.intro rfl (And.intro rfl (And.intro rfl (And.intro rfl (And.intro rfl trivial))))))
          exact s_Lw_law_884 ih _ _ _ _ _ _ _ hw
        · refine tq_swIn (off := 852) (tgt := 897) 11 c6 dLw_law_45 (by decide) (by decide) (by decide) (by decide) ?_
          have hw := hw.2.2.2.2.2.2.2.2.2.2.2.1 c6
          refine tpR.fo (ls' := [some (vR x0), some (vR x1), some (vR x2), some (vR x3), some (vR x4), some (vI x5), none, none]) ?_ (And.intro rfl (And.intro rfl (And.intro rfl (And.intro rfl (And.intro rfl (And.intro rfl trivial))))))
          exact s_Lw_law_897 ih _ _ _ _ _ _ _ hw
        · refine tq_swIn (off := 920) (tgt := 965) 12 c6 dLw_law_45 (by decide) (by decide) (by decide) (by decide) ?_
          have hw := hw.2.2.2.2.2.2.2.2.2.2.2.2.1 c6
          refine tpR.fo (ls' := [some (vR x0), some (vR x1), some (vR x2), some (vR x3), some (vR x4), some (vI x5), none, none]) ?_ (And.intro rfl (And.intro rfl (And.intro rfl (And.intro rfl (And.intro rfl (And.intro rfl trivial))))))
          exact s_Lw_law_965 ih _ _ _ _ _ _ _ hw
        · refine tq_swIn (off := 1000) (tgt := 1045) 13 c6 dLw_law_45 (by decide) (by decide) (by decide) (by decide) ?_
          have hw := hw.2.2.2.2.2.2.2.2.2.2.2.2.2.1 c6
          refine tpR.fo (ls' := [some (vR x0), some (vR x1), some (vR x2), some (vR x3), some (vR x4), some (vI x5), none, none]) ?_ (And.intro rfl (And.intro rfl (And.intro rfl (And.intro rfl (And.intro rfl (And.intro rfl trivial))))))
          exact s_Lw_law_1045 ih _ _ _ _ _ _ _ hw
        · refine tq_swIn (off := 1080) (tgt := 1125) 14 c6 dLw_law_45 (by decide) (by decide) (by decide) (by decide) ?_
          have hw := hw.2.2.2.2.2.2.2.2.2.2.2.2.2.2.1 c6
          refine tpR.fo (ls' := [some (vR x0), some (vR x1), some (vR x2), some (vR x3), some (vR x4), some (vI x5), none, none]) ?_ (And.intro rfl (And.intro rfl (And.intro rfl (And.intro rfl (And.intro rfl (And.intro rfl trivial))))))
          exact s_Lw_law_1125 ih _ _ _ _ _ _ _ hw
        · refine tq_swIn (off := 1148) (tgt := 1193) 15 c6 dLw_law_45 (by decide) (by decide) (by decide) (by decide) ?_
          have hw := hw.2.2.2.2.2.2.2.2.2.2.2.2.2.2.2.1 c6
          refine tpR.fo (ls' := [some (vR x0), some (vR x1), some (vR x2), some (vR x3), some (vR x4), some (vI x5), none, none]) ?_ (And.intro rfl (And.intro rfl (And.intro rfl (And.intro rfl (And.intro rfl (And.intro rfl trivial))))))
          exact s_Lw_law_1193 ih _ _ _ _ _ _ _ hw
        · refine tq_swIn (off := 1216) (tgt := 1261) 16 c6 dLw_law_45 (by decide) (by decide) (by decide) (by decide) ?_
          have hw := hw.2.2.2.2.2.2.2.2.2.2.2.2.2.2.2.2.1 c6
          refine tpR.fo (ls' := [some (vR x0), some (vR x1), some (vR x2), some (vR x3), some (vR x4), some (vI x5), none, none]) ?_ (And.intro rfl (And.intro rfl (And.intro rfl (And.intro rfl (And.intro rfl (And.intro rfl trivial))))))
          exact s_Lw_law_1261 ih _ _ _ _ _ _ _ hw
        · refine tq_swIn (off := 1229) (tgt := 1274) 17 c6 dLw_law_45 (by decide) (by decide) (by decide) (by decide) ?_
          have hw := hw.2.2.2.2.2.2.2.2.2.2.2.2.2.2.2.2.2.1 c6
          refine tpR.fo (ls' := [some (vR x0), some (vR x1), some (vR x2), some (vR x3), some (vR x4), some (vI x5), none, none]) ?_ (And.intro rfl (And.intro rfl (And.intro rfl (And.intro rfl (And.intro rfl (And.intro rfl trivial))))))
          exact s_Lw_law_1274 ih _ _ _ _ _ _ _ hw
        · refine tq_swIn (off := 1285) (tgt := 1330) 18 c6 dLw_law_45 (by decide) (by decide) (by decide) (by decide) ?_
          have hw := hw.2.2.2.2.2.2.2.2.2.2.2.2.2.2.2.2.2.2.1 c6
          refine tpR.fo (ls' := [some (vR x0), some (vR x1), some (vR x2), some (vR x3), some (vR x4), some (vI x5), none, none]) ?_ (And.intro rfl (And.intro rfl (And.intro rfl (And.intro rfl (And.intro rfl (And.intro rfl trivial))))))
          exact s_Lw_law_1330 ih _ _ _ _ _ _ _ hw
        · refine tq_swIn (off := 1353) (tgt := 1398) 19 c6 dLw_law_45 (by decide) (by decide) (by decide) (by decide) ?_
          have hw := hw.2.2.2.2.2.2.2.2.2.2.2.2.2.2.2.2.2.2.2.1 c6
          refine tpR.fo (ls' := [some (vR x0), some (vR x1), some (vR x2), some (vR x3), some (vR x4), some (vI x5), none, none]) ?_ (And.intro rfl (And.intro rfl (And.intro rfl (And.intro rfl (And.intro rfl (And.intro rfl trivial))))))
          exact s_Lw_law_1398 ih _ _ _ _ _ _ _ hw
        · refine tq_swIn (off := 1421) (tgt := 1466) 20 c6 dLw_law_45 (by decide) (by decide) (by decide) (by decide) ?_
          have hw := hw.2.2.2.2.2.2.2.2.2.2.2.2.2.2.2.2.2.2.2.2.1 c6
          refine tpR.fo (ls' := [some (vR x0), some (vR x1), some (vR x2), some (vR x3), some (vR x4), some (vI x5), none, none]) ?_ (And.intro rfl (And.intro rfl (And.intro rfl (And.intro rfl (And.intro rfl (And.intro rfl trivial))))))
          exact s_Lw_law_1466 ih _ _ _ _ _ _ _ hw
        · refine tq_swIn (off := 1489) (tgt := 1534) 21 c6 dLw_law_45 (by decide) (by decide) (by decide) (by decide) ?_
          have hw := hw.2.2.2.2.2.2.2.2.2.2.2.2.2.2.2.2.2.2.2.2.2.1 c6
          refine tpR.fo (ls' := [some (vR x0), some (vR x1), some (vR x2), some (vR x3), some (vR x4), some (vI x5), none, none]) ?_ (And.intro rfl (And.intro rfl (And.intro rfl (And.intro rfl (And.intro rfl (And.intro rfl trivial))))))
          exact s_Lw_law_1534 ih _ _ _ _ _ _ _ hw
        · refine tq_swIn (off := 1564) (tgt := 1609) 22 c6 dLw_law_45 (by decide) (by decide) (by decide) (by decide) ?_
          have hw := hw.2.2.2.2.2.2.2.2.2.2.2.2.2.2.2.2.2.2.2.2.2.2.1 c6
          refine tpR.fo (ls' := [some (vR x0), some (vR x1), some (vR x2), some (vR x3), some (vR x4), some (vI x5), none, none]) ?_ (And.intro rfl (And.intro rfl (And.intro rfl (And.intro rfl (And.intro rfl (And.intro rfl trivial))))))
          exact s_Lw_law_1609 ih _ _ _ _ _ _ _ hw
        · refine tq_swIn (off := 1639) (tgt := 1684) 23 c6 dLw_law_45 (by decide) (by decide) (by decide) (by decide) ?_
          have hw := hw.2.2.2.2.2.2.2.2.2.2.2.2.2.2.2.2.2.2.2.2.2.2.2.1 c6
          refine tpR.fo (ls' := [some (vR x0), some (vR x1), some (vR x2), some (vR x3), some (vR x4), some (vI x5), none, none]) ?_ (And.intro rfl (And.intro rfl (And.intro rfl (And.intro rfl (And.intro rfl (And.intro rfl trivial))))))
          exact s_Lw_law_1684 ih _ _ _ _ _ _ _ hw
        · refine tq_swIn (off := 1719) (tgt := 1764) 24 c6 dLw_law_45 (by decide) (by decide) (by decide) (by decide) ?_
          have hw := hw.2.2.2.2.2.2.2.2.2.2.2.2.2.2.2.2.2.2.2.2.2.2.2.2.1 c6
          refine tpR.fo (ls' := [some (vR x0), some (vR x1), some (vR x2), some (vR x3), some (vR x4), some (vI x5), none, none]) ?_ (And.intro rfl (And.intro rfl (And.intro rfl (And.intro rfl (And.intro rfl (And.intro rfl trivial))))))
          exact s_Lw_law_1764 ih _ _ _ _ _ _ _ hw
        · refine tq_swIn (off := 1833) (tgt := 1878) 25 c6 dLw_law_45 (by decide) (by decide) (by decide) (by decide) ?_
          have hw := hw.2.2.2.2.2.2.2.2.2.2.2.2.2.2.2.2.2.2.2.2.2.2.2.2.2.1 c6
          refine tpR.fo (ls' := [some (vR x0), some (vR x1), some (vR x2), some (vR x3), some (vR x4), some (vI x5), none, none]) ?_ (And.intro rfl (And.intro rfl (And.intro rfl (And.intro rfl (And.intro rfl (And.intro rfl trivial))))))
          exact s_Lw_law_1878 ih _ _ _ _ _ _ _ hw
        · refine tq_swIn (off := 1889) (tgt := 1934) 26 c6 dLw_law_45 (by decide) (by decide) (by decide) (by decide) ?_
          have hw := hw.2.2.2.2.2.2.2.2.2.2.2.2.2.2.2.2.2.2.2.2.2.2.2.2.2.2.1 c6
          refine tpR.fo (ls' := [some (vR x0), some (vR x1), some (vR x2), some (vR x3), some (vR x4), some (vI x5), none, none]) ?_ (And.intro rfl (And.intro rfl (And.intro rfl (And.intro rfl (And.intro rfl (And.intro rfl trivial))))))
          exact s_Lw_law_1934 ih _ _ _ _ _ _ _ hw
        · refine tq_swIn (off := 1957) (tgt := 2002) 27 c6 dLw_law_45 (by decide) (by decide) (by decide) (by decide) ?_
          have hw := hw.2.2.2.2.2.2.2.2.2.2.2.2.2.2.2.2.2.2.2.2.2.2.2.2.2.2.2.1 c6
          refine tpR.fo (ls' := [some (vR x0), some (vR x1), some (vR x2), some (vR x3), some (vR x4), some (vI x5), none, none]) ?_ (And.intro rfl (And.intro rfl (And.intro rfl (And.intro rfl (And.intro rfl (And.intro rfl trivial))))))
          exact s_Lw_law_2002 ih _ _ _ _ _ _ _ hw
        · refine tq_swIn (off := 2025) (tgt := 2070) 28 c6 dLw_law_45 (by decide) (by decide) (by decide) (by decide) ?_
          have hw := hw.2.2.2.2.2.2.2.2.2.2.2.2.2.2.2.2.2.2.2.2.2.2.2.2.2.2.2.2.1 c6
          refine tpR.fo (ls' := [some (vR x0), some (vR x1), some (vR x2), some (vR x3), some (vR x4), some (vI x5), none, none]) ?_ (And.intro rfl (And.intro rfl (And.intro rfl (And.intro rfl (And.intro rfl (And.intro rfl trivial))))))
          exact s_Lw_law_2070 ih _ _ _ _ _ _ _ hw
        · refine tq_swIn (off := 2121) (tgt := 2166) 29 c6 dLw_law_45 (by decide) (by decide) (by decide) (by decide) ?_
          have hw := hw.2.2.2.2.2.2.2.2.2.2.2.2.2.2.2.2.2.2.2.2.2.2.2.2.2.2.2.2.2.1 c6
          refine tpR.fo (ls' := [some (vR x0), some (vR x1), some (vR x2), some (vR x3), some (vR x4), some (vI x5), none, none]) ?_ (And.intro rfl (And.intro rfl (And.intro rfl (And.intro rfl (And.intro rfl (And.intro rfl trivial))))))
          exact s_Lw_law_2166 ih _ _ _ _ _ _ _ hw
        · refine tq_swIn (off := 2134) (tgt := 2179) 30 c6 dLw_law_45 (by decide) (by decide) (by decide) (by decide) ?_
          have hw := hw.2.2.2.2.2.2.2.2.2.2.2.2.2.2.2.2.2.2.2.2.2.2.2.2.2.2.2.2.2.2.1 c6
          refine tpR.fo (ls' := [some (vR x0), some (vR x1), some (vR x2), some (vR x3), some (vR x4), some (vI x5), none, none]) ?_ (And.intro rfl (And.intro rfl (And.intro rfl (And.intro rfl (And.intro rfl (And.intro rfl trivial))))))
          exact s_Lw_law_2179 ih _ _ _ _ _ _ _ hw
        · refine tq_swIn (off := 2190) (tgt := 2235) 31 c6 dLw_law_45 (by decide) (by decide) (by decide) (by decide) ?_
          have hw := hw.2.2.2.2.2.2.2.2.2.2.2.2.2.2.2.2.2.2.2.2.2.2.2.2.2.2.2.2.2.2.2.1 c6
          refine tpR.fo (ls' := [some (vR x0), some (vR x1), some (vR x2), some (vR x3), some (vR x4), some (vI x5), none, none]) ?_ (And.intro rfl (And.intro rfl (And.intro rfl (And.intro rfl (And.intro rfl (And.intro rfl trivial))))))
          exact s_Lw_law_2235 ih _ _ _ _ _ _ _ hw
        · refine tq_swIn (off := 2246) (tgt := 2291) 32 c6 dLw_law_45 (by decide) (by decide) (by decide) (by decide) ?_
          have hw := hw.2.2.2.2.2.2.2.2.2.2.2.2.2.2.2.2.2.2.2.2.2.2.2.2.2.2.2.2.2.2.2.2.1 c6
          refine tpR.fo (ls' := [some (vR x0), some (vR x1), some (vR x2), some (vR x3), some (vR x4), some (vI x5), none, none]) ?_ (And.intro rfl (And.intro rfl (And.intro rfl (And.intro rfl (And.intro rfl (And.intro rfl trivial))))))
          exact s_Lw_law_2291 ih _ _ _ _ _ _ _ hw
        · refine tq_swIn (off := 2259) (tgt := 2304) 33 c6 dLw_law_45 (by decide) (by decide) (by decide) (by decide) ?_
          have hw := hw.2.2.2.2.2.2.2.2.2.2.2.2.2.2.2.2.2.2.2.2.2.2.2.2.2.2.2.2.2.2.2.2.2.1 c6
          refine tpR.fo (ls' := [some (vR x0), some (vR x1), some (vR x2), some (vR x3), some (vR x4), some (vI x5), none, none]) ?_ (And.intro rfl (And.intro rfl (And.intro rfl (And.intro rfl (And.intro rfl (And.intro rfl trivial))))))
          exact s_Lw_law_2304 ih _ _ _ _ _ _ _ hw
        · refine tq_swIn (off := 2315) (tgt := 2360) 34 c6 dLw_law_45 (by decide) (by decide) (by decide) (by decide) ?_
          have hw := hw.2.2.2.2.2.2.2.2.2.2.2.2.2.2.2.2.2.2.2.2.2.2.2.2.2.2.2.2.2.2.2.2.2.2.1 c6
          refine tpR.fo (ls' := [some (vR x0), some (vR x1), some (vR x2), some (vR x3), some (vR x4), some (vI x5), none, none]) ?_ (And.intro rfl (And.intro rfl (And.intro rfl (And.intro rfl (And.intro rfl (And.intro rfl trivial))))))
          exact s_Lw_law_2360 ih _ _ _ _ _ _ _ hw
        · refine tq_swIn (off := 2383) (tgt := 2428) 35 c6 dLw_law_45 (by decide) (by decide) (by decide) (by decide) ?_
          have hw := hw.2.2.2.2.2.2.2.2.2.2.2.2.2.2.2.2.2.2.2.2.2.2.2.2.2.2.2.2.2.2.2.2.2.2.2 c6
          refine tpR.fo (ls' := [some (vR x0), some (vR x1), some (vR x2), some (vR x3), some (vR x4), some (vI x5), none, none]) ?_ (And.intro rfl (And.intro rfl (And.intro rfl (And.intro rfl (And.intro rfl (And.intro rfl trivial))))))
          exact s_Lw_law_2428 ih _ _ _ _ _ _ _ hw
theorem s_Lw_law {x0 : Option Nat} {h : tpH} {R : Int32 → tpH → Prop} (hw : w_Lw_law x0 h R) : tpR Lw_main 11 h [vR x0] (tpOi R (fun _ _ => False)) 0 [some (vR x0), none, none, none, none, none, none, none] [] h := by
  unfold w_Lw_law at hw
  refine tq_new (ci := 12) cLw_8 ti_12 rfl dLw_law_0 (fun a1 h2 e3 e4 => ?_)
  have hw := hw a1 h2 e3 e4
  refine tq_dup dLw_law_3 rfl ?_
  refine te_init mi_TP_init (dc := 3) (as := []) (rest := [vR (some a1)]) (Or.inl kLw_120) (Nat.le_of_ble_eq_true rfl) (Nat.le_of_ble_eq_true rfl) rfl rfl rfl (Nat.le_of_ble_eq_true rfl) dLw_law_4 (s_TP_init hw) (fun _ _ hx => hx) (tk_v fun h5 hw => ?_)
  refine tq_astore_n (ls' := [some (vR x0), some (vR (some a1)), none, none, none, none, none, none]) dLw_law_7 rfl (Nat.le_of_ble_eq_true rfl) rfl ?_
  refine tq_new (ci := 13) cLw_121 ti_13 rfl dLw_law_8 (fun a6 h7 e8 e9 => ?_)
  have hw := hw a6 h7 e8 e9
  refine tq_dup dLw_law_11 rfl ?_
  refine te_init mi_Md_init (dc := 1) (as := []) (rest := [vR (some a6)]) (Or.inl kLw_123) (Nat.le_of_ble_eq_true rfl) (Nat.le_of_ble_eq_true rfl) rfl rfl rfl (Nat.le_of_ble_eq_true rfl) dLw_law_12 (s_Md_init hw) (fun _ _ hx => hx) (tk_v fun h10 hw => ?_)
  refine tq_astore_n (ls' := [some (vR x0), some (vR (some a1)), some (vR (some a6)), none, none, none, none, none]) dLw_law_15 rfl (Nat.le_of_ble_eq_true rfl) rfl ?_
  refine tq_iconst (v := (1 : Int32)) dLw_law_16 tni_1 ?_
  refine tq_newa tpN_long (N := 1) dLw_law_17 (by decide) (by decide) (Nat.le_of_ble_eq_true rfl) (fun a11 h12 e13 e14 => ?_)
  have hw := hw a11 h12 e13 e14
  refine tq_astore_n (ls' := [some (vR x0), some (vR (some a1)), some (vR (some a6)), some (vR (some a11)), none, none, none, none]) dLw_law_19 rfl (Nat.le_of_ble_eq_true rfl) rfl ?_
  refine tq_iconst (v := (1 : Int32)) dLw_law_20 tni_1 ?_
  refine tq_newa tpN_dbl (N := 1) dLw_law_21 (by decide) (by decide) (Nat.le_of_ble_eq_true rfl) (fun a15 h16 e17 e18 => ?_)
  have hw := hw a15 h16 e17 e18
  refine tq_astore (ls' := [some (vR x0), some (vR (some a1)), some (vR (some a6)), some (vR (some a11)), some (vR (some a15)), none, none, none]) dLw_law_23 (Nat.le_of_ble_eq_true rfl) rfl ?_
  refine tq_iconst (v := (0 : Int32)) dLw_law_25 tni_0 ?_
  refine tq_istore (ls' := [some (vR x0), some (vR (some a1)), some (vR (some a6)), some (vR (some a11)), some (vR (some a15)), some (vI (0 : Int32)), none, none]) dLw_law_26 (Nat.le_of_ble_eq_true rfl) rfl ?_
  refine tpR.fo (ls' := [some (vR x0), some (vR (some a1)), some (vR (some a6)), some (vR (some a11)), some (vR (some a15)), some (vI (0 : Int32)), none, none]) ?_ (And.intro rfl (And.intro rfl (And.intro rfl (And.intro rfl (And.intro rfl (And.intro rfl trivial))))))
  obtain ⟨n, hw⟩ := hw
  exact s_Lw_law_28 n _ _ _ _ _ _ _ hw
