/-! TLaw.isMerged -/
theorem dLw_isMerged_0 : decode (mB Lw_isMerged) 0 = .ok (.bipush 41, 2) := by decide +kernel
theorem dLw_isMerged_2 : decode (mB Lw_isMerged) 2 = .ok (.newarray .int, 2) := by decide +kernel
theorem dLw_isMerged_4 : decode (mB Lw_isMerged) 4 = .ok (.astore 8, 2) := by decide +kernel
theorem dLw_isMerged_6 : decode (mB Lw_isMerged) 6 = .ok (.bipush 64, 2) := by decide +kernel
theorem dLw_isMerged_8 : decode (mB Lw_isMerged) 8 = .ok (.newarray .int, 2) := by decide +kernel
theorem dLw_isMerged_10 : decode (mB Lw_isMerged) 10 = .ok (.astore 9, 2) := by decide +kernel
theorem dLw_isMerged_12 : decode (mB Lw_isMerged) 12 = .ok (.bipush 42, 2) := by decide +kernel
theorem dLw_isMerged_14 : decode (mB Lw_isMerged) 14 = .ok (.newarray .int, 2) := by decide +kernel
theorem dLw_isMerged_16 : decode (mB Lw_isMerged) 16 = .ok (.astore 10, 2) := by decide +kernel
theorem dLw_isMerged_18 : decode (mB Lw_isMerged) 18 = .ok (.bipush 41, 2) := by decide +kernel
theorem dLw_isMerged_20 : decode (mB Lw_isMerged) 20 = .ok (.newarray .int, 2) := by decide +kernel
theorem dLw_isMerged_22 : decode (mB Lw_isMerged) 22 = .ok (.astore 11, 2) := by decide +kernel
theorem dLw_isMerged_24 : decode (mB Lw_isMerged) 24 = .ok (.bipush 40, 2) := by decide +kernel
theorem dLw_isMerged_26 : decode (mB Lw_isMerged) 26 = .ok (.newarray .int, 2) := by decide +kernel
theorem dLw_isMerged_28 : decode (mB Lw_isMerged) 28 = .ok (.astore 12, 2) := by decide +kernel
theorem dLw_isMerged_30 : decode (mB Lw_isMerged) 30 = .ok (.iconst 0, 1) := by decide +kernel
theorem dLw_isMerged_31 : decode (mB Lw_isMerged) 31 = .ok (.istore 13, 2) := by decide +kernel
theorem dLw_isMerged_33 : decode (mB Lw_isMerged) 33 = .ok (.iload 13, 2) := by decide +kernel
theorem dLw_isMerged_35 : decode (mB Lw_isMerged) 35 = .ok (.iload 7, 2) := by decide +kernel
theorem dLw_isMerged_37 : decode (mB Lw_isMerged) 37 = .ok (.if_icmp .ge 40, 3) := by decide +kernel
theorem dLw_isMerged_40 : decode (mB Lw_isMerged) 40 = .ok (.aload_n 2, 1) := by decide +kernel
theorem dLw_isMerged_41 : decode (mB Lw_isMerged) 41 = .ok (.aload_n 3, 1) := by decide +kernel
theorem dLw_isMerged_42 : decode (mB Lw_isMerged) 42 = .ok (.aload 4, 2) := by decide +kernel
theorem dLw_isMerged_44 : decode (mB Lw_isMerged) 44 = .ok (.aload 9, 2) := by decide +kernel
theorem dLw_isMerged_46 : decode (mB Lw_isMerged) 46 = .ok (.aload 6, 2) := by decide +kernel
theorem dLw_isMerged_48 : decode (mB Lw_isMerged) 48 = .ok (.iload 13, 2) := by decide +kernel
theorem dLw_isMerged_50 : decode (mB Lw_isMerged) 50 = .ok (.invokestatic 120, 3) := by decide +kernel
theorem dLw_isMerged_53 : decode (mB Lw_isMerged) 53 = .ok (.istore 14, 2) := by decide +kernel
theorem dLw_isMerged_55 : decode (mB Lw_isMerged) 55 = .ok (.iload 14, 2) := by decide +kernel
theorem dLw_isMerged_57 : decode (mB Lw_isMerged) 57 = .ok (.ifCond .lt 14, 3) := by decide +kernel
theorem dLw_isMerged_60 : decode (mB Lw_isMerged) 60 = .ok (.aload 8, 2) := by decide +kernel
theorem dLw_isMerged_62 : decode (mB Lw_isMerged) 62 = .ok (.aload 8, 2) := by decide +kernel
theorem dLw_isMerged_64 : decode (mB Lw_isMerged) 64 = .ok (.iconst 0, 1) := by decide +kernel
theorem dLw_isMerged_65 : decode (mB Lw_isMerged) 65 = .ok (.iaload, 1) := by decide +kernel
theorem dLw_isMerged_66 : decode (mB Lw_isMerged) 66 = .ok (.iload 14, 2) := by decide +kernel
theorem dLw_isMerged_68 : decode (mB Lw_isMerged) 68 = .ok (.invokestatic 101, 3) := by decide +kernel
theorem dLw_isMerged_71 : decode (mB Lw_isMerged) 71 = .ok (.iinc 13 1, 3) := by decide +kernel
theorem dLw_isMerged_74 : decode (mB Lw_isMerged) 74 = .ok (.goto (-41), 3) := by decide +kernel
theorem dLw_isMerged_77 : decode (mB Lw_isMerged) 77 = .ok (.aload_n 2, 1) := by decide +kernel
theorem dLw_isMerged_78 : decode (mB Lw_isMerged) 78 = .ok (.aload 8, 2) := by decide +kernel
theorem dLw_isMerged_80 : decode (mB Lw_isMerged) 80 = .ok (.aload 9, 2) := by decide +kernel
theorem dLw_isMerged_82 : decode (mB Lw_isMerged) 82 = .ok (.invokestatic 124, 3) := by decide +kernel
theorem dLw_isMerged_85 : decode (mB Lw_isMerged) 85 = .ok (.aload_n 0, 1) := by decide +kernel
theorem dLw_isMerged_86 : decode (mB Lw_isMerged) 86 = .ok (.iload_n 1, 1) := by decide +kernel
theorem dLw_isMerged_87 : decode (mB Lw_isMerged) 87 = .ok (.invokevirtual 22, 3) := by decide +kernel
theorem dLw_isMerged_90 : decode (mB Lw_isMerged) 90 = .ok (.aload 8, 2) := by decide +kernel
theorem dLw_isMerged_92 : decode (mB Lw_isMerged) 92 = .ok (.iconst 0, 1) := by decide +kernel
theorem dLw_isMerged_93 : decode (mB Lw_isMerged) 93 = .ok (.iaload, 1) := by decide +kernel
theorem dLw_isMerged_94 : decode (mB Lw_isMerged) 94 = .ok (.if_icmp .ne 7, 3) := by decide +kernel
theorem dLw_isMerged_97 : decode (mB Lw_isMerged) 97 = .ok (.iconst 1, 1) := by decide +kernel
theorem dLw_isMerged_98 : decode (mB Lw_isMerged) 98 = .ok (.goto 4, 3) := by decide +kernel
theorem dLw_isMerged_101 : decode (mB Lw_isMerged) 101 = .ok (.iconst 0, 1) := by decide +kernel
theorem dLw_isMerged_102 : decode (mB Lw_isMerged) 102 = .ok (.istore 13, 2) := by decide +kernel
theorem dLw_isMerged_104 : decode (mB Lw_isMerged) 104 = .ok (.iload 13, 2) := by decide +kernel
theorem dLw_isMerged_106 : decode (mB Lw_isMerged) 106 = .ok (.ifCond .eq 10, 3) := by decide +kernel
theorem dLw_isMerged_109 : decode (mB Lw_isMerged) 109 = .ok (.aload_n 0, 1) := by decide +kernel
theorem dLw_isMerged_110 : decode (mB Lw_isMerged) 110 = .ok (.iload_n 1, 1) := by decide +kernel
theorem dLw_isMerged_111 : decode (mB Lw_isMerged) 111 = .ok (.aload 11, 2) := by decide +kernel
theorem dLw_isMerged_113 : decode (mB Lw_isMerged) 113 = .ok (.invokestatic 82, 3) := by decide +kernel
theorem dLw_isMerged_116 : decode (mB Lw_isMerged) 116 = .ok (.iconst 0, 1) := by decide +kernel
theorem dLw_isMerged_117 : decode (mB Lw_isMerged) 117 = .ok (.istore 14, 2) := by decide +kernel
theorem dLw_isMerged_119 : decode (mB Lw_isMerged) 119 = .ok (.iload 14, 2) := by decide +kernel
theorem dLw_isMerged_121 : decode (mB Lw_isMerged) 121 = .ok (.aload 8, 2) := by decide +kernel
theorem dLw_isMerged_123 : decode (mB Lw_isMerged) 123 = .ok (.iconst 0, 1) := by decide +kernel
theorem dLw_isMerged_124 : decode (mB Lw_isMerged) 124 = .ok (.iaload, 1) := by decide +kernel
theorem dLw_isMerged_125 : decode (mB Lw_isMerged) 125 = .ok (.if_icmp .ge 189, 3) := by decide +kernel
theorem dLw_isMerged_128 : decode (mB Lw_isMerged) 128 = .ok (.iload 13, 2) := by decide +kernel
theorem dLw_isMerged_130 : decode (mB Lw_isMerged) 130 = .ok (.ifCond .eq 184, 3) := by decide +kernel
theorem dLw_isMerged_133 : decode (mB Lw_isMerged) 133 = .ok (.aload 11, 2) := by decide +kernel
theorem dLw_isMerged_135 : decode (mB Lw_isMerged) 135 = .ok (.iload 14, 2) := by decide +kernel
theorem dLw_isMerged_137 : decode (mB Lw_isMerged) 137 = .ok (.invokestatic 7, 3) := by decide +kernel
theorem dLw_isMerged_140 : decode (mB Lw_isMerged) 140 = .ok (.istore 15, 2) := by decide +kernel
theorem dLw_isMerged_142 : decode (mB Lw_isMerged) 142 = .ok (.iconst 0, 1) := by decide +kernel
theorem dLw_isMerged_143 : decode (mB Lw_isMerged) 143 = .ok (.istore 16, 2) := by decide +kernel
theorem dLw_isMerged_145 : decode (mB Lw_isMerged) 145 = .ok (.aload 8, 2) := by decide +kernel
theorem dLw_isMerged_147 : decode (mB Lw_isMerged) 147 = .ok (.iload 15, 2) := by decide +kernel
theorem dLw_isMerged_149 : decode (mB Lw_isMerged) 149 = .ok (.invokestatic 40, 3) := by decide +kernel
theorem dLw_isMerged_152 : decode (mB Lw_isMerged) 152 = .ok (.aload 11, 2) := by decide +kernel
theorem dLw_isMerged_154 : decode (mB Lw_isMerged) 154 = .ok (.iload 14, 2) := by decide +kernel
theorem dLw_isMerged_156 : decode (mB Lw_isMerged) 156 = .ok (.invokestatic 16, 3) := by decide +kernel
theorem dLw_isMerged_159 : decode (mB Lw_isMerged) 159 = .ok (.if_icmp .ne 24, 3) := by decide +kernel
theorem dLw_isMerged_162 : decode (mB Lw_isMerged) 162 = .ok (.aload 8, 2) := by decide +kernel
theorem dLw_isMerged_164 : decode (mB Lw_isMerged) 164 = .ok (.iload 15, 2) := by decide +kernel
theorem dLw_isMerged_166 : decode (mB Lw_isMerged) 166 = .ok (.invokestatic 86, 3) := by decide +kernel
theorem dLw_isMerged_169 : decode (mB Lw_isMerged) 169 = .ok (.aload 11, 2) := by decide +kernel
theorem dLw_isMerged_171 : decode (mB Lw_isMerged) 171 = .ok (.iload 14, 2) := by decide +kernel
theorem dLw_isMerged_173 : decode (mB Lw_isMerged) 173 = .ok (.invokestatic 19, 3) := by decide +kernel
theorem dLw_isMerged_176 : decode (mB Lw_isMerged) 176 = .ok (.if_icmp .ne 7, 3) := by decide +kernel
theorem dLw_isMerged_179 : decode (mB Lw_isMerged) 179 = .ok (.iconst 1, 1) := by decide +kernel
theorem dLw_isMerged_180 : decode (mB Lw_isMerged) 180 = .ok (.goto 4, 3) := by decide +kernel
theorem dLw_isMerged_183 : decode (mB Lw_isMerged) 183 = .ok (.iconst 0, 1) := by decide +kernel
theorem dLw_isMerged_184 : decode (mB Lw_isMerged) 184 = .ok (.istore 13, 2) := by decide +kernel
theorem dLw_isMerged_186 : decode (mB Lw_isMerged) 186 = .ok (.aload 11, 2) := by decide +kernel
theorem dLw_isMerged_188 : decode (mB Lw_isMerged) 188 = .ok (.aload 5, 2) := by decide +kernel
theorem dLw_isMerged_190 : decode (mB Lw_isMerged) 190 = .ok (.iload 15, 2) := by decide +kernel
theorem dLw_isMerged_192 : decode (mB Lw_isMerged) 192 = .ok (.aload 12, 2) := by decide +kernel
theorem dLw_isMerged_194 : decode (mB Lw_isMerged) 194 = .ok (.invokestatic 36, 3) := by decide +kernel
theorem dLw_isMerged_197 : decode (mB Lw_isMerged) 197 = .ok (.istore 17, 2) := by decide +kernel
theorem dLw_isMerged_199 : decode (mB Lw_isMerged) 199 = .ok (.aload 5, 2) := by decide +kernel
theorem dLw_isMerged_201 : decode (mB Lw_isMerged) 201 = .ok (.iload 15, 2) := by decide +kernel
theorem dLw_isMerged_203 : decode (mB Lw_isMerged) 203 = .ok (.iaload, 1) := by decide +kernel
theorem dLw_isMerged_204 : decode (mB Lw_isMerged) 204 = .ok (.iconst 4, 1) := by decide +kernel
theorem dLw_isMerged_205 : decode (mB Lw_isMerged) 205 = .ok (.if_icmp .ge 86, 3) := by decide +kernel
theorem dLw_isMerged_208 : decode (mB Lw_isMerged) 208 = .ok (.iload 13, 2) := by decide +kernel
theorem dLw_isMerged_210 : decode (mB Lw_isMerged) 210 = .ok (.ifCond .eq 81, 3) := by decide +kernel
theorem dLw_isMerged_213 : decode (mB Lw_isMerged) 213 = .ok (.aload_n 2, 1) := by decide +kernel
theorem dLw_isMerged_214 : decode (mB Lw_isMerged) 214 = .ok (.aload_n 3, 1) := by decide +kernel
theorem dLw_isMerged_215 : decode (mB Lw_isMerged) 215 = .ok (.aload 4, 2) := by decide +kernel
theorem dLw_isMerged_217 : decode (mB Lw_isMerged) 217 = .ok (.aload 8, 2) := by decide +kernel
theorem dLw_isMerged_219 : decode (mB Lw_isMerged) 219 = .ok (.aload 5, 2) := by decide +kernel
theorem dLw_isMerged_221 : decode (mB Lw_isMerged) 221 = .ok (.aload 6, 2) := by decide +kernel
theorem dLw_isMerged_223 : decode (mB Lw_isMerged) 223 = .ok (.iload 15, 2) := by decide +kernel
theorem dLw_isMerged_225 : decode (mB Lw_isMerged) 225 = .ok (.aload 10, 2) := by decide +kernel
theorem dLw_isMerged_227 : decode (mB Lw_isMerged) 227 = .ok (.invokestatic 128, 3) := by decide +kernel
theorem dLw_isMerged_230 : decode (mB Lw_isMerged) 230 = .ok (.istore 16, 2) := by decide +kernel
theorem dLw_isMerged_232 : decode (mB Lw_isMerged) 232 = .ok (.aload 10, 2) := by decide +kernel
theorem dLw_isMerged_234 : decode (mB Lw_isMerged) 234 = .ok (.iconst 0, 1) := by decide +kernel
theorem dLw_isMerged_235 : decode (mB Lw_isMerged) 235 = .ok (.iaload, 1) := by decide +kernel
theorem dLw_isMerged_236 : decode (mB Lw_isMerged) 236 = .ok (.iload 17, 2) := by decide +kernel
theorem dLw_isMerged_238 : decode (mB Lw_isMerged) 238 = .ok (.if_icmp .ne 7, 3) := by decide +kernel
theorem dLw_isMerged_241 : decode (mB Lw_isMerged) 241 = .ok (.iconst 1, 1) := by decide +kernel
theorem dLw_isMerged_242 : decode (mB Lw_isMerged) 242 = .ok (.goto 4, 3) := by decide +kernel
theorem dLw_isMerged_245 : decode (mB Lw_isMerged) 245 = .ok (.iconst 0, 1) := by decide +kernel
theorem dLw_isMerged_246 : decode (mB Lw_isMerged) 246 = .ok (.istore 13, 2) := by decide +kernel
theorem dLw_isMerged_248 : decode (mB Lw_isMerged) 248 = .ok (.iconst 0, 1) := by decide +kernel
theorem dLw_isMerged_249 : decode (mB Lw_isMerged) 249 = .ok (.istore 18, 2) := by decide +kernel
theorem dLw_isMerged_251 : decode (mB Lw_isMerged) 251 = .ok (.iload 18, 2) := by decide +kernel
theorem dLw_isMerged_253 : decode (mB Lw_isMerged) 253 = .ok (.iload 17, 2) := by decide +kernel
theorem dLw_isMerged_255 : decode (mB Lw_isMerged) 255 = .ok (.if_icmp .ge 36, 3) := by decide +kernel
theorem dLw_isMerged_258 : decode (mB Lw_isMerged) 258 = .ok (.iload 13, 2) := by decide +kernel
theorem dLw_isMerged_260 : decode (mB Lw_isMerged) 260 = .ok (.ifCond .eq 31, 3) := by decide +kernel
theorem dLw_isMerged_263 : decode (mB Lw_isMerged) 263 = .ok (.aload 10, 2) := by decide +kernel
theorem dLw_isMerged_265 : decode (mB Lw_isMerged) 265 = .ok (.iload 18, 2) := by decide +kernel
theorem dLw_isMerged_267 : decode (mB Lw_isMerged) 267 = .ok (.iconst 1, 1) := by decide +kernel
theorem dLw_isMerged_268 : decode (mB Lw_isMerged) 268 = .ok (.iadd, 1) := by decide +kernel
theorem dLw_isMerged_269 : decode (mB Lw_isMerged) 269 = .ok (.iaload, 1) := by decide +kernel
theorem dLw_isMerged_270 : decode (mB Lw_isMerged) 270 = .ok (.aload 12, 2) := by decide +kernel
theorem dLw_isMerged_272 : decode (mB Lw_isMerged) 272 = .ok (.iload 18, 2) := by decide +kernel
theorem dLw_isMerged_274 : decode (mB Lw_isMerged) 274 = .ok (.iaload, 1) := by decide +kernel
theorem dLw_isMerged_275 : decode (mB Lw_isMerged) 275 = .ok (.if_icmp .ne 7, 3) := by decide +kernel
theorem dLw_isMerged_278 : decode (mB Lw_isMerged) 278 = .ok (.iconst 1, 1) := by decide +kernel
theorem dLw_isMerged_279 : decode (mB Lw_isMerged) 279 = .ok (.goto 4, 3) := by decide +kernel
theorem dLw_isMerged_282 : decode (mB Lw_isMerged) 282 = .ok (.iconst 0, 1) := by decide +kernel
theorem dLw_isMerged_283 : decode (mB Lw_isMerged) 283 = .ok (.istore 13, 2) := by decide +kernel
theorem dLw_isMerged_285 : decode (mB Lw_isMerged) 285 = .ok (.iinc 18 1, 3) := by decide +kernel
theorem dLw_isMerged_288 : decode (mB Lw_isMerged) 288 = .ok (.goto (-37), 3) := by decide +kernel
theorem dLw_isMerged_291 : decode (mB Lw_isMerged) 291 = .ok (.iload 16, 2) := by decide +kernel
theorem dLw_isMerged_293 : decode (mB Lw_isMerged) 293 = .ok (.ifCond .eq 15, 3) := by decide +kernel
theorem dLw_isMerged_296 : decode (mB Lw_isMerged) 296 = .ok (.aload 9, 2) := by decide +kernel
theorem dLw_isMerged_298 : decode (mB Lw_isMerged) 298 = .ok (.bipush 8, 2) := by decide +kernel
theorem dLw_isMerged_300 : decode (mB Lw_isMerged) 300 = .ok (.iload 15, 2) := by decide +kernel
theorem dLw_isMerged_302 : decode (mB Lw_isMerged) 302 = .ok (.imul, 1) := by decide +kernel
theorem dLw_isMerged_303 : decode (mB Lw_isMerged) 303 = .ok (.iconst 5, 1) := by decide +kernel
theorem dLw_isMerged_304 : decode (mB Lw_isMerged) 304 = .ok (.iadd, 1) := by decide +kernel
theorem dLw_isMerged_305 : decode (mB Lw_isMerged) 305 = .ok (.invokestatic 89, 3) := by decide +kernel
theorem dLw_isMerged_308 : decode (mB Lw_isMerged) 308 = .ok (.iinc 14 1, 3) := by decide +kernel
theorem dLw_isMerged_311 : decode (mB Lw_isMerged) 311 = .ok (.goto (-192), 3) := by decide +kernel
theorem dLw_isMerged_314 : decode (mB Lw_isMerged) 314 = .ok (.iload 13, 2) := by decide +kernel
theorem dLw_isMerged_316 : decode (mB Lw_isMerged) 316 = .ok (.ifCond .eq 18, 3) := by decide +kernel
theorem dLw_isMerged_319 : decode (mB Lw_isMerged) 319 = .ok (.aload_n 0, 1) := by decide +kernel
theorem dLw_isMerged_320 : decode (mB Lw_isMerged) 320 = .ok (.invokevirtual 132, 3) := by decide +kernel
theorem dLw_isMerged_323 : decode (mB Lw_isMerged) 323 = .ok (.aload 9, 2) := by decide +kernel
theorem dLw_isMerged_325 : decode (mB Lw_isMerged) 325 = .ok (.iconst 0, 1) := by decide +kernel
theorem dLw_isMerged_326 : decode (mB Lw_isMerged) 326 = .ok (.iaload, 1) := by decide +kernel
theorem dLw_isMerged_327 : decode (mB Lw_isMerged) 327 = .ok (.if_icmp .ne 7, 3) := by decide +kernel
theorem dLw_isMerged_330 : decode (mB Lw_isMerged) 330 = .ok (.iconst 1, 1) := by decide +kernel
theorem dLw_isMerged_331 : decode (mB Lw_isMerged) 331 = .ok (.goto 4, 3) := by decide +kernel
theorem dLw_isMerged_334 : decode (mB Lw_isMerged) 334 = .ok (.iconst 0, 1) := by decide +kernel
theorem dLw_isMerged_335 : decode (mB Lw_isMerged) 335 = .ok (.istore 13, 2) := by decide +kernel
theorem dLw_isMerged_337 : decode (mB Lw_isMerged) 337 = .ok (.iconst 0, 1) := by decide +kernel
theorem dLw_isMerged_338 : decode (mB Lw_isMerged) 338 = .ok (.istore 14, 2) := by decide +kernel
theorem dLw_isMerged_340 : decode (mB Lw_isMerged) 340 = .ok (.iload 14, 2) := by decide +kernel
theorem dLw_isMerged_342 : decode (mB Lw_isMerged) 342 = .ok (.aload 9, 2) := by decide +kernel
theorem dLw_isMerged_344 : decode (mB Lw_isMerged) 344 = .ok (.iconst 0, 1) := by decide +kernel
theorem dLw_isMerged_345 : decode (mB Lw_isMerged) 345 = .ok (.iaload, 1) := by decide +kernel
theorem dLw_isMerged_346 : decode (mB Lw_isMerged) 346 = .ok (.if_icmp .ge 66, 3) := by decide +kernel
theorem dLw_isMerged_349 : decode (mB Lw_isMerged) 349 = .ok (.iload 14, 2) := by decide +kernel
theorem dLw_isMerged_351 : decode (mB Lw_isMerged) 351 = .ok (.bipush 63, 2) := by decide +kernel
theorem dLw_isMerged_353 : decode (mB Lw_isMerged) 353 = .ok (.if_icmp .ge 59, 3) := by decide +kernel
theorem dLw_isMerged_356 : decode (mB Lw_isMerged) 356 = .ok (.iload 13, 2) := by decide +kernel
theorem dLw_isMerged_358 : decode (mB Lw_isMerged) 358 = .ok (.ifCond .eq 54, 3) := by decide +kernel
theorem dLw_isMerged_361 : decode (mB Lw_isMerged) 361 = .ok (.aload_n 0, 1) := by decide +kernel
theorem dLw_isMerged_362 : decode (mB Lw_isMerged) 362 = .ok (.iload 14, 2) := by decide +kernel
theorem dLw_isMerged_364 : decode (mB Lw_isMerged) 364 = .ok (.invokevirtual 70, 3) := by decide +kernel
theorem dLw_isMerged_367 : decode (mB Lw_isMerged) 367 = .ok (.aload 9, 2) := by decide +kernel
theorem dLw_isMerged_369 : decode (mB Lw_isMerged) 369 = .ok (.iload 14, 2) := by decide +kernel
theorem dLw_isMerged_371 : decode (mB Lw_isMerged) 371 = .ok (.iconst 1, 1) := by decide +kernel
theorem dLw_isMerged_372 : decode (mB Lw_isMerged) 372 = .ok (.iadd, 1) := by decide +kernel
theorem dLw_isMerged_373 : decode (mB Lw_isMerged) 373 = .ok (.iaload, 1) := by decide +kernel
theorem dLw_isMerged_374 : decode (mB Lw_isMerged) 374 = .ok (.bipush 8, 2) := by decide +kernel
theorem dLw_isMerged_376 : decode (mB Lw_isMerged) 376 = .ok (.irem, 1) := by decide +kernel
theorem dLw_isMerged_377 : decode (mB Lw_isMerged) 377 = .ok (.if_icmp .ne 26, 3) := by decide +kernel
theorem dLw_isMerged_380 : decode (mB Lw_isMerged) 380 = .ok (.aload_n 0, 1) := by decide +kernel
theorem dLw_isMerged_381 : decode (mB Lw_isMerged) 381 = .ok (.iload 14, 2) := by decide +kernel
theorem dLw_isMerged_383 : decode (mB Lw_isMerged) 383 = .ok (.invokevirtual 73, 3) := by decide +kernel
theorem dLw_isMerged_386 : decode (mB Lw_isMerged) 386 = .ok (.aload 9, 2) := by decide +kernel
theorem dLw_isMerged_388 : decode (mB Lw_isMerged) 388 = .ok (.iload 14, 2) := by decide +kernel
theorem dLw_isMerged_390 : decode (mB Lw_isMerged) 390 = .ok (.iconst 1, 1) := by decide +kernel
theorem dLw_isMerged_391 : decode (mB Lw_isMerged) 391 = .ok (.iadd, 1) := by decide +kernel
theorem dLw_isMerged_392 : decode (mB Lw_isMerged) 392 = .ok (.iaload, 1) := by decide +kernel
theorem dLw_isMerged_393 : decode (mB Lw_isMerged) 393 = .ok (.bipush 8, 2) := by decide +kernel
theorem dLw_isMerged_395 : decode (mB Lw_isMerged) 395 = .ok (.idiv, 1) := by decide +kernel
theorem dLw_isMerged_396 : decode (mB Lw_isMerged) 396 = .ok (.if_icmp .ne 7, 3) := by decide +kernel
theorem dLw_isMerged_399 : decode (mB Lw_isMerged) 399 = .ok (.iconst 1, 1) := by decide +kernel
theorem dLw_isMerged_400 : decode (mB Lw_isMerged) 400 = .ok (.goto 4, 3) := by decide +kernel
theorem dLw_isMerged_403 : decode (mB Lw_isMerged) 403 = .ok (.iconst 0, 1) := by decide +kernel
theorem dLw_isMerged_404 : decode (mB Lw_isMerged) 404 = .ok (.istore 13, 2) := by decide +kernel
theorem dLw_isMerged_406 : decode (mB Lw_isMerged) 406 = .ok (.iinc 14 1, 3) := by decide +kernel
theorem dLw_isMerged_409 : decode (mB Lw_isMerged) 409 = .ok (.goto (-69), 3) := by decide +kernel
theorem dLw_isMerged_412 : decode (mB Lw_isMerged) 412 = .ok (.iload 13, 2) := by decide +kernel
theorem dLw_isMerged_414 : decode (mB Lw_isMerged) 414 = .ok (.ifCond .eq 24, 3) := by decide +kernel
theorem dLw_isMerged_417 : decode (mB Lw_isMerged) 417 = .ok (.aload_n 0, 1) := by decide +kernel
theorem dLw_isMerged_418 : decode (mB Lw_isMerged) 418 = .ok (.bipush 8, 2) := by decide +kernel
theorem dLw_isMerged_420 : decode (mB Lw_isMerged) 420 = .ok (.aload 9, 2) := by decide +kernel
theorem dLw_isMerged_422 : decode (mB Lw_isMerged) 422 = .ok (.iconst 0, 1) := by decide +kernel
theorem dLw_isMerged_423 : decode (mB Lw_isMerged) 423 = .ok (.iaload, 1) := by decide +kernel
theorem dLw_isMerged_424 : decode (mB Lw_isMerged) 424 = .ok (.iconst 0, 1) := by decide +kernel
theorem dLw_isMerged_425 : decode (mB Lw_isMerged) 425 = .ok (.iconst 0, 1) := by decide +kernel
theorem dLw_isMerged_426 : decode (mB Lw_isMerged) 426 = .ok (.invokestatic 135, 3) := by decide +kernel
theorem dLw_isMerged_429 : decode (mB Lw_isMerged) 429 = .ok (.bipush (-11), 2) := by decide +kernel
theorem dLw_isMerged_431 : decode (mB Lw_isMerged) 431 = .ok (.if_icmp .ne 7, 3) := by decide +kernel
theorem dLw_isMerged_434 : decode (mB Lw_isMerged) 434 = .ok (.iconst 1, 1) := by decide +kernel
theorem dLw_isMerged_435 : decode (mB Lw_isMerged) 435 = .ok (.goto 4, 3) := by decide +kernel
theorem dLw_isMerged_438 : decode (mB Lw_isMerged) 438 = .ok (.iconst 0, 1) := by decide +kernel
theorem dLw_isMerged_439 : decode (mB Lw_isMerged) 439 = .ok (.ireturn, 1) := by decide +kernel
def b_Lw_isMerged_251 (R : Int32 → tpH → Prop) (X : String → tpH → Prop) (K291 : (Option Nat) → (Option Nat) → (Option Nat) → (Option Nat) → (Option Nat) → (Option Nat) → (Option Nat) → (Option Nat) → (Option Nat) → (Option Nat) → (Option Nat) → Int32 → Int32 → Int32 → Int32 → tpH → Prop) (Y : (Option Nat) → (Option Nat) → (Option Nat) → (Option Nat) → (Option Nat) → (Option Nat) → (Option Nat) → (Option Nat) → (Option Nat) → (Option Nat) → (Option Nat) → Int32 → Int32 → Int32 → Int32 → Int32 → Int32 → tpH → Prop) (x0 : Option Nat) (x2 : Option Nat) (x3 : Option Nat) (x4 : Option Nat) (x5 : Option Nat) (x6 : Option Nat) (x8 : Option Nat) (x9 : Option Nat) (x10 : Option Nat) (x11 : Option Nat) (x12 : Option Nat) (x13 : Int32) (x14 : Int32) (x15 : Int32) (x16 : Int32) (x17 : Int32) (x18 : Int32) (h : tpH) : Prop :=
  (x17 ≤ x18 → (K291 x0 x2 x3 x4 x5 x6 x8 x9 x10 x11 x12 x13 x14 x15 x16 h)) ∧ (¬ x17 ≤ x18 → ((x13 = 0 → (K291 x0 x2 x3 x4 x5 x6 x8 x9 x10 x11 x12 x13 x14 x15 x16 h)) ∧ (¬ x13 = 0 → (∃ a3, x10 = some a3 ∧ hT h a3 = 15 ∧ (vp_in (x18 + (1 : Int32)) (hL h a3) ∧ (∃ a7, x12 = some a7 ∧ hT h a7 = 15 ∧ (vp_in x18 (hL h a7) ∧ ((¬ (hI h a3 (x18 + (1 : Int32)).toNatClampNeg) = (hI h a7 x18.toNatClampNeg) → (Y x0 x2 x3 x4 x5 x6 x8 x9 x10 x11 x12 (0 : Int32) x14 x15 x16 x17 (x18 + (1 : Int32)) h)) ∧ ((hI h a3 (x18 + (1 : Int32)).toNatClampNeg) = (hI h a7 x18.toNatClampNeg) → (Y x0 x2 x3 x4 x5 x6 x8 x9 x10 x11 x12 (1 : Int32) x14 x15 x16 x17 (x18 + (1 : Int32)) h))))))))))
def w_Lw_isMerged_251 (R : Int32 → tpH → Prop) (X : String → tpH → Prop) (K291 : (Option Nat) → (Option Nat) → (Option Nat) → (Option Nat) → (Option Nat) → (Option Nat) → (Option Nat) → (Option Nat) → (Option Nat) → (Option Nat) → (Option Nat) → Int32 → Int32 → Int32 → Int32 → tpH → Prop) : Nat → (Option Nat) → (Option Nat) → (Option Nat) → (Option Nat) → (Option Nat) → (Option Nat) → (Option Nat) → (Option Nat) → (Option Nat) → (Option Nat) → (Option Nat) → Int32 → Int32 → Int32 → Int32 → Int32 → Int32 → tpH → Prop
  | 0 => fun _ _ _ _ _ _ _ _ _ _ _ _ _ _ _ _ _ _ => False
  | n + 1 => b_Lw_isMerged_251 R X K291 (w_Lw_isMerged_251 R X K291 n)
def w_Lw_isMerged_291 (R : Int32 → tpH → Prop) (X : String → tpH → Prop) (K119 : (Option Nat) → (Option Nat) → (Option Nat) → (Option Nat) → (Option Nat) → (Option Nat) → (Option Nat) → (Option Nat) → (Option Nat) → (Option Nat) → (Option Nat) → Int32 → Int32 → tpH → Prop) (x0 : Option Nat) (x2 : Option Nat) (x3 : Option Nat) (x4 : Option Nat) (x5 : Option Nat) (x6 : Option Nat) (x8 : Option Nat) (x9 : Option Nat) (x10 : Option Nat) (x11 : Option Nat) (x12 : Option Nat) (x13 : Int32) (x14 : Int32) (x15 : Int32) (x16 : Int32) (h : tpH) : Prop :=
  (x16 = 0 → (K119 x0 x2 x3 x4 x5 x6 x8 x9 x10 x11 x12 x13 (x14 + (1 : Int32)) h)) ∧ (¬ x16 = 0 → (w_Lw_adds x9 (((8 : Int32) * x15) + (5 : Int32)) h (fun h2 => K119 x0 x2 x3 x4 x5 x6 x8 x9 x10 x11 x12 x13 (x14 + (1 : Int32)) h2)))
def w_Lw_isMerged_184 (R : Int32 → tpH → Prop) (X : String → tpH → Prop) (K119 : (Option Nat) → (Option Nat) → (Option Nat) → (Option Nat) → (Option Nat) → (Option Nat) → (Option Nat) → (Option Nat) → (Option Nat) → (Option Nat) → (Option Nat) → Int32 → Int32 → tpH → Prop) (x0 : Option Nat) (x2 : Option Nat) (x3 : Option Nat) (x4 : Option Nat) (x5 : Option Nat) (x6 : Option Nat) (x8 : Option Nat) (x9 : Option Nat) (x10 : Option Nat) (x11 : Option Nat) (x12 : Option Nat) (x14 : Int32) (x15 : Int32) (x16 : Int32) (t0 : Int32) (h : tpH) : Prop :=
  w_Lw_children x11 x5 x15 x12 h (fun v2 h1 => ∃ a3, x5 = some a3 ∧ hT h1 a3 = 15 ∧ (vp_in x15 (hL h1 a3) ∧ (((4 : Int32) ≤ (hI h1 a3 x15.toNatClampNeg) → (w_Lw_isMerged_291 R X K119 x0 x2 x3 x4 x5 x6 x8 x9 x10 x11 x12 t0 x14 x15 x16 h1)) ∧ (¬ (4 : Int32) ≤ (hI h1 a3 x15.toNatClampNeg) → ((t0 = 0 → (w_Lw_isMerged_291 R X K119 x0 x2 x3 x4 x5 x6 x8 x9 x10 x11 x12 t0 x14 x15 x16 h1)) ∧ (¬ t0 = 0 → (w_Lw_orders x2 x3 x4 x8 x5 x6 x15 x10 h1 (fun v10 h9 => ∃ a11, x10 = some a11 ∧ hT h9 a11 = 15 ∧ (vp_in (0 : Int32) (hL h9 a11) ∧ ((¬ (hI h9 a11 (0 : Int32).toNatClampNeg) = v2 → (∃ n, w_Lw_isMerged_251 R X (w_Lw_isMerged_291 R X K119) n x0 x2 x3 x4 x5 x6 x8 x9 x10 x11 x12 (0 : Int32) x14 x15 v10 v2 (0 : Int32) h9)) ∧ ((hI h9 a11 (0 : Int32).toNatClampNeg) = v2 → (∃ n, w_Lw_isMerged_251 R X (w_Lw_isMerged_291 R X K119) n x0 x2 x3 x4 x5 x6 x8 x9 x10 x11 x12 (1 : Int32) x14 x15 v10 v2 (0 : Int32) h9))))))))))))
def w_Lw_isMerged_412 (R : Int32 → tpH → Prop) (X : String → tpH → Prop) (x0 : Option Nat) (x9 : Option Nat) (x13 : Int32) (h : tpH) : Prop :=
  (x13 = 0 → (R (0 : Int32) h)) ∧ (¬ x13 = 0 → (∃ a2, x9 = some a2 ∧ hT h a2 = 15 ∧ (vp_in (0 : Int32) (hL h a2) ∧ (w_Lw_does x0 (8 : Int32) (hI h a2 (0 : Int32).toNatClampNeg) (0 : Int32) (0 : Int32) h (fun v7 h6 => (¬ v7 = (-11 : Int32) → (R (0 : Int32) h6)) ∧ (v7 = (-11 : Int32) → (R (1 : Int32) h6)))))))
def b_Lw_isMerged_340 (R : Int32 → tpH → Prop) (X : String → tpH → Prop) (Y : (Option Nat) → (Option Nat) → Int32 → Int32 → tpH → Prop) (x0 : Option Nat) (x9 : Option Nat) (x13 : Int32) (x14 : Int32) (h : tpH) : Prop :=
  ∃ a1, x9 = some a1 ∧ hT h a1 = 15 ∧ (vp_in (0 : Int32) (hL h a1) ∧ (((hI h a1 (0 : Int32).toNatClampNeg) ≤ x14 → (w_Lw_isMerged_412 R X x0 x9 x13 h)) ∧ (¬ (hI h a1 (0 : Int32).toNatClampNeg) ≤ x14 → (((63 : Int32) ≤ x14 → (w_Lw_isMerged_412 R X x0 x9 x13 h)) ∧ (¬ (63 : Int32) ≤ x14 → ((x13 = 0 → (w_Lw_isMerged_412 R X x0 x9 x13 h)) ∧ (¬ x13 = 0 → (∃ a8, x0 = some a8 ∧ hT h a8 = 13 ∧ (w_TP_conflictKind a8 x14 h X (fun v12 h11 => hT h11 a1 = 15 ∧ (vp_in (x14 + (1 : Int32)) (hL h11 a1) ∧ ((¬ v12 = ((hI h11 a1 (x14 + (1 : Int32)).toNatClampNeg) - (hI h11 a1 (x14 + (1 : Int32)).toNatClampNeg) / (8 : Int32) * (8 : Int32)) → (Y x0 x9 (0 : Int32) (x14 + (1 : Int32)) h11)) ∧ (v12 = ((hI h11 a1 (x14 + (1 : Int32)).toNatClampNeg) - (hI h11 a1 (x14 + (1 : Int32)).toNatClampNeg) / (8 : Int32) * (8 : Int32)) → (hT h11 a8 = 13 ∧ (w_TP_conflictMark a8 x14 h11 X (fun v18 h17 => hT h17 a1 = 15 ∧ (vp_in (x14 + (1 : Int32)) (hL h17 a1) ∧ ((¬ v18 = ((hI h17 a1 (x14 + (1 : Int32)).toNatClampNeg) / (8 : Int32)) → (Y x0 x9 (0 : Int32) (x14 + (1 : Int32)) h17)) ∧ (v18 = ((hI h17 a1 (x14 + (1 : Int32)).toNatClampNeg) / (8 : Int32)) → (Y x0 x9 (1 : Int32) (x14 + (1 : Int32)) h17))))))))))))))))))))
def w_Lw_isMerged_340 (R : Int32 → tpH → Prop) (X : String → tpH → Prop) : Nat → (Option Nat) → (Option Nat) → Int32 → Int32 → tpH → Prop
  | 0 => fun _ _ _ _ _ => False
  | n + 1 => b_Lw_isMerged_340 R X (w_Lw_isMerged_340 R X n)
def w_Lw_isMerged_314 (R : Int32 → tpH → Prop) (X : String → tpH → Prop) (x0 : Option Nat) (x9 : Option Nat) (x13 : Int32) (h : tpH) : Prop :=
  (x13 = 0 → (∃ n, w_Lw_isMerged_340 R X n x0 x9 (0 : Int32) (0 : Int32) h)) ∧ (¬ x13 = 0 → (∃ a2, x0 = some a2 ∧ hT h a2 = 13 ∧ (w_TP_conflicts a2 h (fun v6 h5 => ∃ a7, x9 = some a7 ∧ hT h5 a7 = 15 ∧ (vp_in (0 : Int32) (hL h5 a7) ∧ ((¬ v6 = (hI h5 a7 (0 : Int32).toNatClampNeg) → (∃ n, w_Lw_isMerged_340 R X n x0 x9 (0 : Int32) (0 : Int32) h5)) ∧ (v6 = (hI h5 a7 (0 : Int32).toNatClampNeg) → (∃ n, w_Lw_isMerged_340 R X n x0 x9 (1 : Int32) (0 : Int32) h5))))))))
def b_Lw_isMerged_119 (R : Int32 → tpH → Prop) (X : String → tpH → Prop) (Y : (Option Nat) → (Option Nat) → (Option Nat) → (Option Nat) → (Option Nat) → (Option Nat) → (Option Nat) → (Option Nat) → (Option Nat) → (Option Nat) → (Option Nat) → Int32 → Int32 → tpH → Prop) (x0 : Option Nat) (x2 : Option Nat) (x3 : Option Nat) (x4 : Option Nat) (x5 : Option Nat) (x6 : Option Nat) (x8 : Option Nat) (x9 : Option Nat) (x10 : Option Nat) (x11 : Option Nat) (x12 : Option Nat) (x13 : Int32) (x14 : Int32) (h : tpH) : Prop :=
  ∃ a1, x8 = some a1 ∧ hT h a1 = 15 ∧ (vp_in (0 : Int32) (hL h a1) ∧ (((hI h a1 (0 : Int32).toNatClampNeg) ≤ x14 → (w_Lw_isMerged_314 R X x0 x9 x13 h)) ∧ (¬ (hI h a1 (0 : Int32).toNatClampNeg) ≤ x14 → ((x13 = 0 → (w_Lw_isMerged_314 R X x0 x9 x13 h)) ∧ (¬ x13 = 0 → (w_Lw_mark x11 x14 h (fun v8 h7 => w_Lw_parentOf x8 v8 h7 (fun v10 h9 => w_Lw_parent x11 x14 h9 (fun v12 h11 => (¬ v10 = v12 → (w_Lw_isMerged_184 R X Y x0 x2 x3 x4 x5 x6 x8 x9 x10 x11 x12 x14 v8 (0 : Int32) (0 : Int32) h11)) ∧ (v10 = v12 → (w_Lw_valueOf x8 v8 h11 (fun v15 h14 => w_Lw_value x11 x14 h14 (fun v17 h16 => (¬ v15 = v17 → (w_Lw_isMerged_184 R X Y x0 x2 x3 x4 x5 x6 x8 x9 x10 x11 x12 x14 v8 (0 : Int32) (0 : Int32) h16)) ∧ (v15 = v17 → (w_Lw_isMerged_184 R X Y x0 x2 x3 x4 x5 x6 x8 x9 x10 x11 x12 x14 v8 (0 : Int32) (1 : Int32) h16)))))))))))))))
def w_Lw_isMerged_119 (R : Int32 → tpH → Prop) (X : String → tpH → Prop) : Nat → (Option Nat) → (Option Nat) → (Option Nat) → (Option Nat) → (Option Nat) → (Option Nat) → (Option Nat) → (Option Nat) → (Option Nat) → (Option Nat) → (Option Nat) → Int32 → Int32 → tpH → Prop
  | 0 => fun _ _ _ _ _ _ _ _ _ _ _ _ _ _ => False
  | n + 1 => b_Lw_isMerged_119 R X (w_Lw_isMerged_119 R X n)
def w_Lw_isMerged_102 (R : Int32 → tpH → Prop) (X : String → tpH → Prop) (x0 : Option Nat) (x1 : Int32) (x2 : Option Nat) (x3 : Option Nat) (x4 : Option Nat) (x5 : Option Nat) (x6 : Option Nat) (x8 : Option Nat) (x9 : Option Nat) (x10 : Option Nat) (x11 : Option Nat) (x12 : Option Nat) (t0 : Int32) (h : tpH) : Prop :=
  (t0 = 0 → (∃ n, w_Lw_isMerged_119 R X n x0 x2 x3 x4 x5 x6 x8 x9 x10 x11 x12 t0 (0 : Int32) h)) ∧ (¬ t0 = 0 → (w_Lw_reads x0 x1 x11 h X (fun h2 => ∃ n, w_Lw_isMerged_119 R X n x0 x2 x3 x4 x5 x6 x8 x9 x10 x11 x12 t0 (0 : Int32) h2)))
def b_Lw_isMerged_33 (R : Int32 → tpH → Prop) (X : String → tpH → Prop) (Y : (Option Nat) → Int32 → (Option Nat) → (Option Nat) → (Option Nat) → (Option Nat) → (Option Nat) → Int32 → (Option Nat) → (Option Nat) → (Option Nat) → (Option Nat) → (Option Nat) → Int32 → tpH → Prop) (x0 : Option Nat) (x1 : Int32) (x2 : Option Nat) (x3 : Option Nat) (x4 : Option Nat) (x5 : Option Nat) (x6 : Option Nat) (x7 : Int32) (x8 : Option Nat) (x9 : Option Nat) (x10 : Option Nat) (x11 : Option Nat) (x12 : Option Nat) (x13 : Int32) (h : tpH) : Prop :=
  (x7 ≤ x13 → (w_Lw_mends x2 x8 x9 h (fun h2 => ∃ a3, x0 = some a3 ∧ hT h2 a3 = 13 ∧ (w_TP_size a3 x1 h2 X (fun v7 h6 => ∃ a8, x8 = some a8 ∧ hT h6 a8 = 15 ∧ (vp_in (0 : Int32) (hL h6 a8) ∧ ((¬ v7 = (hI h6 a8 (0 : Int32).toNatClampNeg) → (w_Lw_isMerged_102 R X x0 x1 x2 x3 x4 x5 x6 x8 x9 x10 x11 x12 (0 : Int32) h6)) ∧ (v7 = (hI h6 a8 (0 : Int32).toNatClampNeg) → (w_Lw_isMerged_102 R X x0 x1 x2 x3 x4 x5 x6 x8 x9 x10 x11 x12 (1 : Int32) h6))))))))) ∧ (¬ x7 ≤ x13 → (w_Lw_comes x2 x3 x4 x9 x6 x13 h (fun v14 h13 => (v14 < 0 → (Y x0 x1 x2 x3 x4 x5 x6 x7 x8 x9 x10 x11 x12 (x13 + (1 : Int32)) h13)) ∧ (¬ v14 < 0 → (∃ a16, x8 = some a16 ∧ hT h13 a16 = 15 ∧ (vp_in (0 : Int32) (hL h13 a16) ∧ (w_Lw_puts x8 (hI h13 a16 (0 : Int32).toNatClampNeg) v14 h13 (fun h20 => Y x0 x1 x2 x3 x4 x5 x6 x7 x8 x9 x10 x11 x12 (x13 + (1 : Int32)) h20))))))))
def w_Lw_isMerged_33 (R : Int32 → tpH → Prop) (X : String → tpH → Prop) : Nat → (Option Nat) → Int32 → (Option Nat) → (Option Nat) → (Option Nat) → (Option Nat) → (Option Nat) → Int32 → (Option Nat) → (Option Nat) → (Option Nat) → (Option Nat) → (Option Nat) → Int32 → tpH → Prop
  | 0 => fun _ _ _ _ _ _ _ _ _ _ _ _ _ _ _ => False
  | n + 1 => b_Lw_isMerged_33 R X (w_Lw_isMerged_33 R X n)
def w_Lw_isMerged (x0 : Option Nat) (x1 : Int32) (x2 : Option Nat) (x3 : Option Nat) (x4 : Option Nat) (x5 : Option Nat) (x6 : Option Nat) (x7 : Int32) (h : tpH) (X : String → tpH → Prop) (R : Int32 → tpH → Prop) : Prop :=
  ∀ a1 h2, a1 = hZ h → h2 = nC h 15 41 41 → (∀ a5 h6, a5 = hZ h2 → h6 = nC h2 15 64 64 → (∀ a9 h10, a9 = hZ h6 → h10 = nC h6 15 42 42 → (∀ a13 h14, a13 = hZ h10 → h14 = nC h10 15 41 41 → (∀ a17 h18, a17 = hZ h14 → h18 = nC h14 15 40 40 → (∃ n, w_Lw_isMerged_33 R X n x0 x1 x2 x3 x4 x5 x6 x7 (some a1) (some a5) (some a9) (some a13) (some a17) (0 : Int32) h18)))))
theorem s_Lw_isMerged_251 {h0 : tpH} {av : List tpV} {R : Int32 → tpH → Prop} {X : String → tpH → Prop} {K291 : (Option Nat) → (Option Nat) → (Option Nat) → (Option Nat) → (Option Nat) → (Option Nat) → (Option Nat) → (Option Nat) → (Option Nat) → (Option Nat) → (Option Nat) → Int32 → Int32 → Int32 → Int32 → tpH → Prop} (k291 : ∀ (x0 : Option Nat) (x2 : Option Nat) (x3 : Option Nat) (x4 : Option Nat) (x5 : Option Nat) (x6 : Option Nat) (x8 : Option Nat) (x9 : Option Nat) (x10 : Option Nat) (x11 : Option Nat) (x12 : Option Nat) (x13 : Int32) (x14 : Int32) (x15 : Int32) (x16 : Int32) (h : tpH), K291 x0 x2 x3 x4 x5 x6 x8 x9 x10 x11 x12 x13 x14 x15 x16 h → tpR Lw_isMerged 11 h0 av (tpOi R X) 291 [some (vR x0), none, some (vR x2), some (vR x3), some (vR x4), some (vR x5), some (vR x6), none, some (vR x8), some (vR x9), some (vR x10), some (vR x11), some (vR x12), some (vI x13), some (vI x14), some (vI x15), some (vI x16), none, none] [] h) : ∀ (n : Nat) (x0 : Option Nat) (x2 : Option Nat) (x3 : Option Nat) (x4 : Option Nat) (x5 : Option Nat) (x6 : Option Nat) (x8 : Option Nat) (x9 : Option Nat) (x10 : Option Nat) (x11 : Option Nat) (x12 : Option Nat) (x13 : Int32) (x14 : Int32) (x15 : Int32) (x16 : Int32) (x17 : Int32) (x18 : Int32) (h : tpH), w_Lw_isMerged_251 R X K291 n x0 x2 x3 x4 x5 x6 x8 x9 x10 x11 x12 x13 x14 x15 x16 x17 x18 h → tpR Lw_isMerged 11 h0 av (tpOi R X) 251 [some (vR x0), none, some (vR x2), some (vR x3), some (vR x4), some (vR x5), some (vR x6), none, some (vR x8), some (vR x9), some (vR x10), some (vR x11), some (vR x12), some (vI x13), some (vI x14), some (vI x15), some (vI x16), some (vI x17), some (vI x18)] [] h := by
  intro n
  induction n with
  | zero => intro x0 x2 x3 x4 x5 x6 x8 x9 x10 x11 x12 x13 x14 x15 x16 x17 x18 h hw; exact False.elim hw
  | succ n ih =>
    intro x0 x2 x3 x4 x5 x6 x8 x9 x10 x11 x12 x13 x14 x15 x16 x17 x18 h hw
    change b_Lw_isMerged_251 R X K291 (w_Lw_isMerged_251 R X K291 n) x0 x2 x3 x4 x5 x6 x8 x9 x10 x11 x12 x13 x14 x15 x16 x17 x18 h at hw
    unfold b_Lw_isMerged_251 at hw
    refine tq_iload dLw_isMerged_251 rfl ?_
    refine tq_iload dLw_isMerged_253 rfl ?_
    refine tq_icmpge (tgt := 291) dLw_isMerged_255 (by decide) (fun c1 => ?_) (fun c1 => ?_)
    · have hw := hw.1 c1
      refine tpR.fo (ls' := [some (vR x0), none, some (vR x2), some (vR x3), some (vR x4), some (vR x5), some (vR x6), none, some (vR x8), some (vR x9), some (vR x10), some (vR x11), some (vR x12), some (vI x13), some (vI x14), some (vI x15), some (vI x16), none, none]) ?_ (And.intro rfl (And.intro rfl (And.intro rfl (And.intro rfl (And.intro rfl (And.intro rfl (And.intro rfl (And.intro rfl (And.intro rfl (And.intro rfl (And.intro rfl (And.intro rfl (And.intro rfl (And.intro rfl (And.intro rfl trivial)))))))))))))))
      exact k291 _ _ _ _ _ _ _ _ _ _ _ _ _ _ _ _ hw
    · have hw := hw.2 c1
      refine tq_iload dLw_isMerged_258 rfl ?_
      refine tq_ifeq (tgt := 291) dLw_isMerged_260 (by decide) (fun c2 => ?_) (fun c2 => ?_)
      · have hw := hw.1 c2
        refine tpR.fo (ls' := [some (vR x0), none, some (vR x2), some (vR x3), some (vR x4), some (vR x5), some (vR x6), none, some (vR x8), some (vR x9), some (vR x10), some (vR x11), some (vR x12), some (vI x13), some (vI x14), some (vI x15), some (vI x16), none, none]) ?_ (And.intro rfl (And.intro rfl (And.intro rfl (And.intro rfl (And.intro rfl (And.intro rfl (And.intro rfl (And.intro rfl (And.intro rfl (And.intro rfl (And.intro rfl (And.intro rfl (And.intro rfl (And.intro rfl (And.intro rfl trivial)))))))))))))))
        exact k291 _ _ _ _ _ _ _ _ _ _ _ _ _ _ _ _ hw
      · have hw := hw.2 c2
        refine tq_aload dLw_isMerged_263 rfl ?_
        refine tq_iload dLw_isMerged_265 rfl ?_
        refine tq_iconst (v := (1 : Int32)) dLw_isMerged_267 tni_1 ?_
        refine tq_iadd dLw_isMerged_268 ?_
        obtain ⟨a3, e4, f5, hw⟩ := hw
        obtain ⟨f6, hw⟩ := hw
        refine te_iald dLw_isMerged_269 e4 (Or.inl f5) f6 ?_
        refine tq_aload dLw_isMerged_270 rfl ?_
        refine tq_iload dLw_isMerged_272 rfl ?_
        obtain ⟨a7, e8, f9, hw⟩ := hw
        obtain ⟨f10, hw⟩ := hw
        refine te_iald dLw_isMerged_274 e8 (Or.inl f9) f10 ?_
        refine tq_icmpne (tgt := 282) dLw_isMerged_275 (by decide) (fun c11 => ?_) (fun c11 => ?_)
        · have hw := hw.1 c11
          refine tq_iconst (v := (0 : Int32)) dLw_isMerged_282 tni_0 ?_
          refine tq_istore (ls' := [some (vR x0), none, some (vR x2), some (vR x3), some (vR x4), some (vR x5), some (vR x6), none, some (vR x8), some (vR x9), some (vR x10), some (vR x11), some (vR x12), some (vI (0 : Int32)), some (vI x14), some (vI x15), some (vI x16), some (vI x17), some (vI x18)]) dLw_isMerged_283 (Nat.le_of_ble_eq_true rfl) rfl ?_
          refine tq_inc (k := (1 : Int32)) (ls' := [some (vR x0), none, some (vR x2), some (vR x3), some (vR x4), some (vR x5), some (vR x6), none, some (vR x8), some (vR x9), some (vR x10), some (vR x11), some (vR x12), some (vI (0 : Int32)), some (vI x14), some (vI x15), some (vI x16), some (vI x17), some (vI (x18 + (1 : Int32)))]) dLw_isMerged_285 rfl tni_1 (Nat.le_of_ble_eq_true rfl) rfl ?_
          refine tq_goto (tgt := 251) dLw_isMerged_288 (by decide) ?_
          refine tpR.fo (ls' := [some (vR x0), none, some (vR x2), some (vR x3), some (vR x4), some (vR x5), some (vR x6), none, some (vR x8), some (vR x9), some (vR x10), some (vR x11), some (vR x12), some (vI (0 : Int32)), some (vI x14), some (vI x15), some (vI x16), some (vI x17), some (vI (x18 + (1 : Int32)))]) ?_ (And.intro rfl (And.intro rfl (And.intro rfl (And.intro rfl (And.intro rfl (And.intro rfl (And.intro rfl (And.intro rfl (And.intro rfl (And.intro rfl (And.intro rfl (And.intro rfl (And.intro rfl (And.intro rfl (And.intro rfl (And.intro rfl (And.intro rfl trivial)))))))))))))))))
          exact ih _ _ _ _ _ _ _ _ _ _ _ _ _ _ _ _ _ _ hw
        · have hw := hw.2 c11
          refine tq_iconst (v := (1 : Int32)) dLw_isMerged_278 tni_1 ?_
          refine tq_goto (tgt := 283) dLw_isMerged_279 (by decide) ?_
          refine tq_istore (ls' := [some (vR x0), none, some (vR x2), some (vR x3), some (vR x4), some (vR x5), some (vR x6), none, some (vR x8), some (vR x9), some (vR x10), some (vR x11), some (vR x12), some (vI (1 : Int32)), some (vI x14), some (vI x15), some (vI x16), some (vI x17), some (vI x18)]) dLw_isMerged_283 (Nat.le_of_ble_eq_true rfl) rfl ?_
          refine tq_inc (k := (1 : Int32)) (ls' := [some (vR x0), none, some (vR x2), some (vR x3), some (vR x4), some (vR x5), some (vR x6), none, some (vR x8), some (vR x9), some (vR x10), some (vR x11), some (vR x12), some (vI (1 : Int32)), some (vI x14), some (vI x15), some (vI x16), some (vI x17), some (vI (x18 + (1 : Int32)))]) dLw_isMerged_285 rfl tni_1 (Nat.le_of_ble_eq_true rfl) rfl ?_
          refine tq_goto (tgt := 251) dLw_isMerged_288 (by decide) ?_
          refine tpR.fo (ls' := [some (vR x0), none, some (vR x2), some (vR x3), some (vR x4), some (vR x5), some (vR x6), none, some (vR x8), some (vR x9), some (vR x10), some (vR x11), some (vR x12), some (vI (1 : Int32)), some (vI x14), some (vI x15), some (vI x16), some (vI x17), some (vI (x18 + (1 : Int32)))]) ?_ (And.intro rfl (And.intro rfl (And.intro rfl (And.intro rfl (And.intro rfl (And.intro rfl (And.intro rfl (And.intro rfl (And.intro rfl (And.intro rfl (And.intro rfl (And.intro rfl (And.intro rfl (And.intro rfl (And.intro rfl (And.intro rfl (And.intro rfl trivial)))))))))))))))))
          exact ih _ _ _ _ _ _ _ _ _ _ _ _ _ _ _ _ _ _ hw
theorem s_Lw_isMerged_291 {h0 : tpH} {av : List tpV} {R : Int32 → tpH → Prop} {X : String → tpH → Prop} {K119 : (Option Nat) → (Option Nat) → (Option Nat) → (Option Nat) → (Option Nat) → (Option Nat) → (Option Nat) → (Option Nat) → (Option Nat) → (Option Nat) → (Option Nat) → Int32 → Int32 → tpH → Prop} (k119 : ∀ (x0 : Option Nat) (x2 : Option Nat) (x3 : Option Nat) (x4 : Option Nat) (x5 : Option Nat) (x6 : Option Nat) (x8 : Option Nat) (x9 : Option Nat) (x10 : Option Nat) (x11 : Option Nat) (x12 : Option Nat) (x13 : Int32) (x14 : Int32) (h : tpH), K119 x0 x2 x3 x4 x5 x6 x8 x9 x10 x11 x12 x13 x14 h → tpR Lw_isMerged 11 h0 av (tpOi R X) 119 [some (vR x0), none, some (vR x2), some (vR x3), some (vR x4), some (vR x5), some (vR x6), none, some (vR x8), some (vR x9), some (vR x10), some (vR x11), some (vR x12), some (vI x13), some (vI x14), none, none, none, none] [] h) : ∀ (x0 : Option Nat) (x2 : Option Nat) (x3 : Option Nat) (x4 : Option Nat) (x5 : Option Nat) (x6 : Option Nat) (x8 : Option Nat) (x9 : Option Nat) (x10 : Option Nat) (x11 : Option Nat) (x12 : Option Nat) (x13 : Int32) (x14 : Int32) (x15 : Int32) (x16 : Int32) (h : tpH), w_Lw_isMerged_291 R X K119 x0 x2 x3 x4 x5 x6 x8 x9 x10 x11 x12 x13 x14 x15 x16 h → tpR Lw_isMerged 11 h0 av (tpOi R X) 291 [some (vR x0), none, some (vR x2), some (vR x3), some (vR x4), some (vR x5), some (vR x6), none, some (vR x8), some (vR x9), some (vR x10), some (vR x11), some (vR x12), some (vI x13), some (vI x14), some (vI x15), some (vI x16), none, none] [] h := by
  intro x0 x2 x3 x4 x5 x6 x8 x9 x10 x11 x12 x13 x14 x15 x16 h hw
  unfold w_Lw_isMerged_291 at hw
  refine tq_iload dLw_isMerged_291 rfl ?_
  refine tq_ifeq (tgt := 308) dLw_isMerged_293 (by decide) (fun c1 => ?_) (fun c1 => ?_)
  · have hw := hw.1 c1
    refine tq_inc (k := (1 : Int32)) (ls' := [some (vR x0), none, some (vR x2), some (vR x3), some (vR x4), some (vR x5), some (vR x6), none, some (vR x8), some (vR x9), some (vR x10), some (vR x11), some (vR x12), some (vI x13), some (vI (x14 + (1 : Int32))), some (vI x15), some (vI x16), none, none]) dLw_isMerged_308 rfl tni_1 (Nat.le_of_ble_eq_true rfl) rfl ?_
    refine tq_goto (tgt := 119) dLw_isMerged_311 (by decide) ?_
    refine tpR.fo (ls' := [some (vR x0), none, some (vR x2), some (vR x3), some (vR x4), some (vR x5), some (vR x6), none, some (vR x8), some (vR x9), some (vR x10), some (vR x11), some (vR x12), some (vI x13), some (vI (x14 + (1 : Int32))), none, none, none, none]) ?_ (And.intro rfl (And.intro rfl (And.intro rfl (And.intro rfl (And.intro rfl (And.intro rfl (And.intro rfl (And.intro rfl (And.intro rfl (And.intro rfl (And.intro rfl (And.intro rfl (And.intro rfl trivial)))))))))))))
    exact k119 _ _ _ _ _ _ _ _ _ _ _ _ _ _ hw
  · have hw := hw.2 c1
    refine tq_aload dLw_isMerged_296 rfl ?_
    refine tq_bipush (v := (8 : Int32)) dLw_isMerged_298 tnb_8 ?_
    refine tq_iload dLw_isMerged_300 rfl ?_
    refine tq_imul dLw_isMerged_302 ?_
    refine tq_iconst (v := (5 : Int32)) dLw_isMerged_303 tni_5 ?_
    refine tq_iadd dLw_isMerged_304 ?_
    refine tq_callS ms_Lw_adds (dc := 0) (as := [vR x9, vI (((8 : Int32) * x15) + (5 : Int32))]) (rest := []) kLw_89 (Nat.le_of_ble_eq_true rfl) (Nat.le_of_ble_eq_true rfl) rfl rfl (Nat.le_of_ble_eq_true rfl) dLw_isMerged_305 (s_Lw_adds hw) (fun _ _ hx => False.elim hx) (tk_v fun h2 hw => ?_)
    refine tq_inc (k := (1 : Int32)) (ls' := [some (vR x0), none, some (vR x2), some (vR x3), some (vR x4), some (vR x5), some (vR x6), none, some (vR x8), some (vR x9), some (vR x10), some (vR x11), some (vR x12), some (vI x13), some (vI (x14 + (1 : Int32))), some (vI x15), some (vI x16), none, none]) dLw_isMerged_308 rfl tni_1 (Nat.le_of_ble_eq_true rfl) rfl ?_
    refine tq_goto (tgt := 119) dLw_isMerged_311 (by decide) ?_
    refine tpR.fo (ls' := [some (vR x0), none, some (vR x2), some (vR x3), some (vR x4), some (vR x5), some (vR x6), none, some (vR x8), some (vR x9), some (vR x10), some (vR x11), some (vR x12), some (vI x13), some (vI (x14 + (1 : Int32))), none, none, none, none]) ?_ (And.intro rfl (And.intro rfl (And.intro rfl (And.intro rfl (And.intro rfl (And.intro rfl (And.intro rfl (And.intro rfl (And.intro rfl (And.intro rfl (And.intro rfl (And.intro rfl (And.intro rfl trivial)))))))))))))
    exact k119 _ _ _ _ _ _ _ _ _ _ _ _ _ _ hw
theorem s_Lw_isMerged_184 {h0 : tpH} {av : List tpV} {R : Int32 → tpH → Prop} {X : String → tpH → Prop} {K119 : (Option Nat) → (Option Nat) → (Option Nat) → (Option Nat) → (Option Nat) → (Option Nat) → (Option Nat) → (Option Nat) → (Option Nat) → (Option Nat) → (Option Nat) → Int32 → Int32 → tpH → Prop} (k119 : ∀ (x0 : Option Nat) (x2 : Option Nat) (x3 : Option Nat) (x4 : Option Nat) (x5 : Option Nat) (x6 : Option Nat) (x8 : Option Nat) (x9 : Option Nat) (x10 : Option Nat) (x11 : Option Nat) (x12 : Option Nat) (x13 : Int32) (x14 : Int32) (h : tpH), K119 x0 x2 x3 x4 x5 x6 x8 x9 x10 x11 x12 x13 x14 h → tpR Lw_isMerged 11 h0 av (tpOi R X) 119 [some (vR x0), none, some (vR x2), some (vR x3), some (vR x4), some (vR x5), some (vR x6), none, some (vR x8), some (vR x9), some (vR x10), some (vR x11), some (vR x12), some (vI x13), some (vI x14), none, none, none, none] [] h) : ∀ (x0 : Option Nat) (x2 : Option Nat) (x3 : Option Nat) (x4 : Option Nat) (x5 : Option Nat) (x6 : Option Nat) (x8 : Option Nat) (x9 : Option Nat) (x10 : Option Nat) (x11 : Option Nat) (x12 : Option Nat) (x14 : Int32) (x15 : Int32) (x16 : Int32) (t0 : Int32) (h : tpH), w_Lw_isMerged_184 R X K119 x0 x2 x3 x4 x5 x6 x8 x9 x10 x11 x12 x14 x15 x16 t0 h → tpR Lw_isMerged 11 h0 av (tpOi R X) 184 [some (vR x0), none, some (vR x2), some (vR x3), some (vR x4), some (vR x5), some (vR x6), none, some (vR x8), some (vR x9), some (vR x10), some (vR x11), some (vR x12), none, some (vI x14), some (vI x15), some (vI x16), none, none] [vI t0] h := by
  intro x0 x2 x3 x4 x5 x6 x8 x9 x10 x11 x12 x14 x15 x16 t0 h hw
  unfold w_Lw_isMerged_184 at hw
  refine tq_istore (ls' := [some (vR x0), none, some (vR x2), some (vR x3), some (vR x4), some (vR x5), some (vR x6), none, some (vR x8), some (vR x9), some (vR x10), some (vR x11), some (vR x12), some (vI t0), some (vI x14), some (vI x15), some (vI x16), none, none]) dLw_isMerged_184 (Nat.le_of_ble_eq_true rfl) rfl ?_
  refine tq_aload dLw_isMerged_186 rfl ?_
  refine tq_aload dLw_isMerged_188 rfl ?_
  refine tq_iload dLw_isMerged_190 rfl ?_
  refine tq_aload dLw_isMerged_192 rfl ?_
  refine tq_callS ms_Lw_children (dc := 1) (as := [vR x11, vR x5, vI x15, vR x12]) (rest := []) kLw_36 (Nat.le_of_ble_eq_true rfl) (Nat.le_of_ble_eq_true rfl) rfl rfl (Nat.le_of_ble_eq_true rfl) dLw_isMerged_194 (s_Lw_children hw) (fun _ _ hx => False.elim hx) (tk_i fun v2 h1 hw => ?_)
  refine tq_istore (ls' := [some (vR x0), none, some (vR x2), some (vR x3), some (vR x4), some (vR x5), some (vR x6), none, some (vR x8), some (vR x9), some (vR x10), some (vR x11), some (vR x12), some (vI t0), some (vI x14), some (vI x15), some (vI x16), some (vI v2), none]) dLw_isMerged_197 (Nat.le_of_ble_eq_true rfl) rfl ?_
  refine tq_aload dLw_isMerged_199 rfl ?_
  refine tq_iload dLw_isMerged_201 rfl ?_
  obtain ⟨a3, e4, f5, hw⟩ := hw
  obtain ⟨f6, hw⟩ := hw
  refine te_iald dLw_isMerged_203 e4 (Or.inl f5) f6 ?_
  refine tq_iconst (v := (4 : Int32)) dLw_isMerged_204 tni_4 ?_
  refine tq_icmpge (tgt := 291) dLw_isMerged_205 (by decide) (fun c7 => ?_) (fun c7 => ?_)
  · have hw := hw.1 c7
    refine tpR.fo (ls' := [some (vR x0), none, some (vR x2), some (vR x3), some (vR x4), some (vR x5), some (vR x6), none, some (vR x8), some (vR x9), some (vR x10), some (vR x11), some (vR x12), some (vI t0), some (vI x14), some (vI x15), some (vI x16), none, none]) ?_ (And.intro rfl (And.intro rfl (And.intro rfl (And.intro rfl (And.intro rfl (And.intro rfl (And.intro rfl (And.intro rfl (And.intro rfl (And.intro rfl (And.intro rfl (And.intro rfl (And.intro rfl (And.intro rfl (And.intro rfl trivial)))))))))))))))
    exact s_Lw_isMerged_291 k119 _ _ _ _ _ _ _ _ _ _ _ _ _ _ _ _ hw
  · have hw := hw.2 c7
    refine tq_iload dLw_isMerged_208 rfl ?_
    refine tq_ifeq (tgt := 291) dLw_isMerged_210 (by decide) (fun c8 => ?_) (fun c8 => ?_)
    · have hw := hw.1 c8
      refine tpR.fo (ls' := [some (vR x0), none, some (vR x2), some (vR x3), some (vR x4), some (vR x5), some (vR x6), none, some (vR x8), some (vR x9), some (vR x10), some (vR x11), some (vR x12), some (vI t0), some (vI x14), some (vI x15), some (vI x16), none, none]) ?_ (And.intro rfl (And.intro rfl (And.intro rfl (And.intro rfl (And.intro rfl (And.intro rfl (And.intro rfl (And.intro rfl (And.intro rfl (And.intro rfl (And.intro rfl (And.intro rfl (And.intro rfl (And.intro rfl (And.intro rfl trivial)))))))))))))))
      exact s_Lw_isMerged_291 k119 _ _ _ _ _ _ _ _ _ _ _ _ _ _ _ _ hw
    · have hw := hw.2 c8
      refine tq_aload_n dLw_isMerged_213 rfl rfl ?_
      refine tq_aload_n dLw_isMerged_214 rfl rfl ?_
      refine tq_aload dLw_isMerged_215 rfl ?_
      refine tq_aload dLw_isMerged_217 rfl ?_
      refine tq_aload dLw_isMerged_219 rfl ?_
      refine tq_aload dLw_isMerged_221 rfl ?_
      refine tq_iload dLw_isMerged_223 rfl ?_
      refine tq_aload dLw_isMerged_225 rfl ?_
      refine tq_callS ms_Lw_orders (dc := 3) (as := [vR x2, vR x3, vR x4, vR x8, vR x5, vR x6, vI x15, vR x10]) (rest := []) kLw_128 (Nat.le_of_ble_eq_true rfl) (Nat.le_of_ble_eq_true rfl) rfl rfl (Nat.le_of_ble_eq_true rfl) dLw_isMerged_227 (s_Lw_orders hw) (fun _ _ hx => False.elim hx) (tk_i fun v10 h9 hw => ?_)
      refine tq_istore (ls' := [some (vR x0), none, some (vR x2), some (vR x3), some (vR x4), some (vR x5), some (vR x6), none, some (vR x8), some (vR x9), some (vR x10), some (vR x11), some (vR x12), some (vI t0), some (vI x14), some (vI x15), some (vI v10), some (vI v2), none]) dLw_isMerged_230 (Nat.le_of_ble_eq_true rfl) rfl ?_
      refine tq_aload dLw_isMerged_232 rfl ?_
      refine tq_iconst (v := (0 : Int32)) dLw_isMerged_234 tni_0 ?_
      obtain ⟨a11, e12, f13, hw⟩ := hw
      obtain ⟨f14, hw⟩ := hw
      refine te_iald dLw_isMerged_235 e12 (Or.inl f13) f14 ?_
      refine tq_iload dLw_isMerged_236 rfl ?_
      refine tq_icmpne (tgt := 245) dLw_isMerged_238 (by decide) (fun c15 => ?_) (fun c15 => ?_)
      · have hw := hw.1 c15
        refine tq_iconst (v := (0 : Int32)) dLw_isMerged_245 tni_0 ?_
        refine tq_istore (ls' := [some (vR x0), none, some (vR x2), some (vR x3), some (vR x4), some (vR x5), some (vR x6), none, some (vR x8), some (vR x9), some (vR x10), some (vR x11), some (vR x12), some (vI (0 : Int32)), some (vI x14), some (vI x15), some (vI v10), some (vI v2), none]) dLw_isMerged_246 (Nat.le_of_ble_eq_true rfl) rfl ?_
        refine tq_iconst (v := (0 : Int32)) dLw_isMerged_248 tni_0 ?_
        refine tq_istore (ls' := [some (vR x0), none, some (vR x2), some (vR x3), some (vR x4), some (vR x5), some (vR x6), none, some (vR x8), some (vR x9), some (vR x10), some (vR x11), some (vR x12), some (vI (0 : Int32)), some (vI x14), some (vI x15), some (vI v10), some (vI v2), some (vI (0 : Int32))]) dLw_isMerged_249 (Nat.le_of_ble_eq_true rfl) rfl ?_
        refine tpR.fo (ls' := [some (vR x0), none, some (vR x2), some (vR x3), some (vR x4), some (vR x5), some (vR x6), none, some (vR x8), some (vR x9), some (vR x10), some (vR x11), some (vR x12), some (vI (0 : Int32)), some (vI x14), some (vI x15), some (vI v10), some (vI v2), some (vI (0 : Int32))]) ?_ (And.intro rfl (And.intro rfl (And.intro rfl (And.intro rfl (And.intro rfl (And.intro rfl (And.intro rfl (And.intro rfl (And.intro rfl (And.intro rfl (And.intro rfl (And.intro rfl (And.intro rfl (And.intro rfl (And.intro rfl (And.intro rfl (And.intro rfl trivial)))))))))))))))))
        obtain ⟨n, hw⟩ := hw
        exact s_Lw_isMerged_251 (s_Lw_isMerged_291 k119) n _ _ _ _ _ _ _ _ _ _ _ _ _ _ _ _ _ _ hw
      · have hw := hw.2 c15
        refine tq_iconst (v := (1 : Int32)) dLw_isMerged_241 tni_1 ?_
        refine tq_goto (tgt := 246) dLw_isMerged_242 (by decide) ?_
        refine tq_istore (ls' := [some (vR x0), none, some (vR x2), some (vR x3), some (vR x4), some (vR x5), some (vR x6), none, some (vR x8), some (vR x9), some (vR x10), some (vR x11), some (vR x12), some (vI (1 : Int32)), some (vI x14), some (vI x15), some (vI v10), some (vI v2), none]) dLw_isMerged_246 (Nat.le_of_ble_eq_true rfl) rfl ?_
        refine tq_iconst (v := (0 : Int32)) dLw_isMerged_248 tni_0 ?_
        refine tq_istore (ls' := [some (vR x0), none, some (vR x2), some (vR x3), some (vR x4), some (vR x5), some (vR x6), none, some (vR x8), some (vR x9), some (vR x10), some (vR x11), some (vR x12), some (vI (1 : Int32)), some (vI x14), some (vI x15), some (vI v10), some (vI v2), some (vI (0 : Int32))]) dLw_isMerged_249 (Nat.le_of_ble_eq_true rfl) rfl ?_
        refine tpR.fo (ls' := [some (vR x0), none, some (vR x2), some (vR x3), some (vR x4), some (vR x5), some (vR x6), none, some (vR x8), some (vR x9), some (vR x10), some (vR x11), some (vR x12), some (vI (1 : Int32)), some (vI x14), some (vI x15), some (vI v10), some (vI v2), some (vI (0 : Int32))]) ?_ (And.intro rfl (And.intro rfl (And.intro rfl (And.intro rfl (And.intro rfl (And.intro rfl (And.intro rfl (And.intro rfl (And.intro rfl (And.intro rfl (And.intro rfl (And.intro rfl (And.intro rfl (And.intro rfl (And.intro rfl (And.intro rfl (And.intro rfl trivial)))))))))))))))))
        obtain ⟨n, hw⟩ := hw
        exact s_Lw_isMerged_251 (s_Lw_isMerged_291 k119) n _ _ _ _ _ _ _ _ _ _ _ _ _ _ _ _ _ _ hw
theorem s_Lw_isMerged_412 {h0 : tpH} {av : List tpV} {R : Int32 → tpH → Prop} {X : String → tpH → Prop} : ∀ (x0 : Option Nat) (x9 : Option Nat) (x13 : Int32) (h : tpH), w_Lw_isMerged_412 R X x0 x9 x13 h → tpR Lw_isMerged 11 h0 av (tpOi R X) 412 [some (vR x0), none, none, none, none, none, none, none, none, some (vR x9), none, none, none, some (vI x13), none, none, none, none, none] [] h := by
  intro x0 x9 x13 h hw
  unfold w_Lw_isMerged_412 at hw
  refine tq_iload dLw_isMerged_412 rfl ?_
  refine tq_ifeq (tgt := 438) dLw_isMerged_414 (by decide) (fun c1 => ?_) (fun c1 => ?_)
  · have hw := hw.1 c1
    refine tq_iconst (v := (0 : Int32)) dLw_isMerged_438 tni_0 ?_
    exact tq_iret rfl (by decide) dLw_isMerged_439 hw
  · have hw := hw.2 c1
    refine tq_aload_n dLw_isMerged_417 rfl rfl ?_
    refine tq_bipush (v := (8 : Int32)) dLw_isMerged_418 tnb_8 ?_
    refine tq_aload dLw_isMerged_420 rfl ?_
    refine tq_iconst (v := (0 : Int32)) dLw_isMerged_422 tni_0 ?_
    obtain ⟨a2, e3, f4, hw⟩ := hw
    obtain ⟨f5, hw⟩ := hw
    refine te_iald dLw_isMerged_423 e3 (Or.inl f4) f5 ?_
    refine tq_iconst (v := (0 : Int32)) dLw_isMerged_424 tni_0 ?_
    refine tq_iconst (v := (0 : Int32)) dLw_isMerged_425 tni_0 ?_
    refine tq_callSX ms_Lw_does (by intro hz; cases hz) (dc := 10) (as := [vR x0, vI (8 : Int32), vI (hI h a2 (0 : Int32).toNatClampNeg), vI (0 : Int32), vI (0 : Int32)]) (rest := []) kLw_135 (Nat.le_of_ble_eq_true rfl) (Nat.le_of_ble_eq_true rfl) rfl rfl (Nat.le_of_ble_eq_true rfl) dLw_isMerged_426 (s_Lw_does hw) (fun _ _ hx => False.elim hx) (tk_i fun v7 h6 hw => ?_)
    refine tq_bipush (v := (-11 : Int32)) dLw_isMerged_429 tnb_m11 ?_
    refine tq_icmpne (tgt := 438) dLw_isMerged_431 (by decide) (fun c8 => ?_) (fun c8 => ?_)
    · have hw := hw.1 c8
      refine tq_iconst (v := (0 : Int32)) dLw_isMerged_438 tni_0 ?_
      exact tq_iret rfl (by decide) dLw_isMerged_439 hw
    · have hw := hw.2 c8
      refine tq_iconst (v := (1 : Int32)) dLw_isMerged_434 tni_1 ?_
      refine tq_goto (tgt := 439) dLw_isMerged_435 (by decide) ?_
      exact tq_iret rfl (by decide) dLw_isMerged_439 hw
theorem s_Lw_isMerged_340 {h0 : tpH} {av : List tpV} {R : Int32 → tpH → Prop} {X : String → tpH → Prop} : ∀ (n : Nat) (x0 : Option Nat) (x9 : Option Nat) (x13 : Int32) (x14 : Int32) (h : tpH), w_Lw_isMerged_340 R X n x0 x9 x13 x14 h → tpR Lw_isMerged 11 h0 av (tpOi R X) 340 [some (vR x0), none, none, none, none, none, none, none, none, some (vR x9), none, none, none, some (vI x13), some (vI x14), none, none, none, none] [] h := by
  intro n
  induction n with
  | zero => intro x0 x9 x13 x14 h hw; exact False.elim hw
  | succ n ih =>
    intro x0 x9 x13 x14 h hw
    change b_Lw_isMerged_340 R X (w_Lw_isMerged_340 R X n) x0 x9 x13 x14 h at hw
    unfold b_Lw_isMerged_340 at hw
    refine tq_iload dLw_isMerged_340 rfl ?_
    refine tq_aload dLw_isMerged_342 rfl ?_
    refine tq_iconst (v := (0 : Int32)) dLw_isMerged_344 tni_0 ?_
    obtain ⟨a1, e2, f3, hw⟩ := hw
    obtain ⟨f4, hw⟩ := hw
    refine te_iald dLw_isMerged_345 e2 (Or.inl f3) f4 ?_
    refine tq_icmpge (tgt := 412) dLw_isMerged_346 (by decide) (fun c5 => ?_) (fun c5 => ?_)
    · have hw := hw.1 c5
      refine tpR.fo (ls' := [some (vR x0), none, none, none, none, none, none, none, none, some (vR x9), none, none, none, some (vI x13), none, none, none, none, none]) ?_ (And.intro rfl (And.intro rfl (And.intro rfl trivial)))
      exact s_Lw_isMerged_412 _ _ _ _ hw
    · have hw := hw.2 c5
      refine tq_iload dLw_isMerged_349 rfl ?_
      refine tq_bipush (v := (63 : Int32)) dLw_isMerged_351 tnb_63 ?_
      refine tq_icmpge (tgt := 412) dLw_isMerged_353 (by decide) (fun c6 => ?_) (fun c6 => ?_)
      · have hw := hw.1 c6
        refine tpR.fo (ls' := [some (vR x0), none, none, none, none, none, none, none, none, some (vR x9), none, none, none, some (vI x13), none, none, none, none, none]) ?_ (And.intro rfl (And.intro rfl (And.intro rfl trivial)))
        exact s_Lw_isMerged_412 _ _ _ _ hw
      · have hw := hw.2 c6
        refine tq_iload dLw_isMerged_356 rfl ?_
        refine tq_ifeq (tgt := 412) dLw_isMerged_358 (by decide) (fun c7 => ?_) (fun c7 => ?_)
        · have hw := hw.1 c7
          refine tpR.fo (ls' := [some (vR x0), none, none, none, none, none, none, none, none, some (vR x9), none, none, none, some (vI x13), none, none, none, none, none]) ?_ (And.intro rfl (And.intro rfl (And.intro rfl trivial)))
          exact s_Lw_isMerged_412 _ _ _ _ hw
        · have hw := hw.2 c7
          refine tq_aload_n dLw_isMerged_361 rfl rfl ?_
          refine tq_iload dLw_isMerged_362 rfl ?_
          obtain ⟨a8, e9, f10, hw⟩ := hw
          refine te_callV mv_TP_conflictKind (ci := 12) (dc := 7) (as := [vI x14]) (rest := []) kLw_70 rfl (Nat.le_of_ble_eq_true rfl) (Nat.le_of_ble_eq_true rfl) rfl rfl e9 f10 (Nat.le_of_ble_eq_true rfl) dLw_isMerged_364 (s_TP_conflictKind hw) (fun _ _ hx => tpXx.out rfl hx) (tk_i fun v12 h11 hw => ?_)
          refine tq_aload dLw_isMerged_367 rfl ?_
          refine tq_iload dLw_isMerged_369 rfl ?_
          refine tq_iconst (v := (1 : Int32)) dLw_isMerged_371 tni_1 ?_
          refine tq_iadd dLw_isMerged_372 ?_
          obtain ⟨f13, hw⟩ := hw
          obtain ⟨f14, hw⟩ := hw
          refine te_iald dLw_isMerged_373 e2 (Or.inl f13) f14 ?_
          refine tq_bipush (v := (8 : Int32)) dLw_isMerged_374 tnb_8 ?_
          refine tq_irem dLw_isMerged_376 (by decide) ?_
          refine tq_icmpne (tgt := 403) dLw_isMerged_377 (by decide) (fun c15 => ?_) (fun c15 => ?_)
          · have hw := hw.1 c15
            refine tq_iconst (v := (0 : Int32)) dLw_isMerged_403 tni_0 ?_
            refine tq_istore (ls' := [some (vR x0), none, none, none, none, none, none, none, none, some (vR x9), none, none, none, some (vI (0 : Int32)), some (vI x14), none, none, none, none]) dLw_isMerged_404 (Nat.le_of_ble_eq_true rfl) rfl ?_
            refine tq_inc (k := (1 : Int32)) (ls' := [some (vR x0), none, none, none, none, none, none, none, none, some (vR x9), none, none, none, some (vI (0 : Int32)), some (vI (x14 + (1 : Int32))), none, none, none, none]) dLw_isMerged_406 rfl tni_1 (Nat.le_of_ble_eq_true rfl) rfl ?_
            refine tq_goto (tgt := 340) dLw_isMerged_409 (by decide) ?_
            refine tpR.fo (ls' := [some (vR x0), none, none, none, none, none, none, none, none, some (vR x9), none, none, none, some (vI (0 : Int32)), some (vI (x14 + (1 : Int32))), none, none, none, none]) ?_ (And.intro rfl (And.intro rfl (And.intro rfl (And.intro rfl trivial))))
            exact ih _ _ _ _ _ hw
          · have hw := hw.2 c15
            refine tq_aload_n dLw_isMerged_380 rfl rfl ?_
            refine tq_iload dLw_isMerged_381 rfl ?_
            obtain ⟨f16, hw⟩ := hw
            refine te_callV mv_TP_conflictMark (ci := 12) (dc := 7) (as := [vI x14]) (rest := []) kLw_73 rfl (Nat.le_of_ble_eq_true rfl) (Nat.le_of_ble_eq_true rfl) rfl rfl e9 f16 (Nat.le_of_ble_eq_true rfl) dLw_isMerged_383 (s_TP_conflictMark hw) (fun _ _ hx => tpXx.out rfl hx) (tk_i fun v18 h17 hw => ?_)
            refine tq_aload dLw_isMerged_386 rfl ?_
            refine tq_iload dLw_isMerged_388 rfl ?_
            refine tq_iconst (v := (1 : Int32)) dLw_isMerged_390 tni_1 ?_
            refine tq_iadd dLw_isMerged_391 ?_
            obtain ⟨f19, hw⟩ := hw
            obtain ⟨f20, hw⟩ := hw
            refine te_iald dLw_isMerged_392 e2 (Or.inl f19) f20 ?_
            refine tq_bipush (v := (8 : Int32)) dLw_isMerged_393 tnb_8 ?_
            refine tq_idiv dLw_isMerged_395 (by decide) ?_
            refine tq_icmpne (tgt := 403) dLw_isMerged_396 (by decide) (fun c21 => ?_) (fun c21 => ?_)
            · have hw := hw.1 c21
              refine tq_iconst (v := (0 : Int32)) dLw_isMerged_403 tni_0 ?_
              refine tq_istore (ls' := [some (vR x0), none, none, none, none, none, none, none, none, some (vR x9), none, none, none, some (vI (0 : Int32)), some (vI x14), none, none, none, none]) dLw_isMerged_404 (Nat.le_of_ble_eq_true rfl) rfl ?_
              refine tq_inc (k := (1 : Int32)) (ls' := [some (vR x0), none, none, none, none, none, none, none, none, some (vR x9), none, none, none, some (vI (0 : Int32)), some (vI (x14 + (1 : Int32))), none, none, none, none]) dLw_isMerged_406 rfl tni_1 (Nat.le_of_ble_eq_true rfl) rfl ?_
              refine tq_goto (tgt := 340) dLw_isMerged_409 (by decide) ?_
              refine tpR.fo (ls' := [some (vR x0), none, none, none, none, none, none, none, none, some (vR x9), none, none, none, some (vI (0 : Int32)), some (vI (x14 + (1 : Int32))), none, none, none, none]) ?_ (And.intro rfl (And.intro rfl (And.intro rfl (And.intro rfl trivial))))
              exact ih _ _ _ _ _ hw
            · have hw := hw.2 c21
              refine tq_iconst (v := (1 : Int32)) dLw_isMerged_399 tni_1 ?_
              refine tq_goto (tgt := 404) dLw_isMerged_400 (by decide) ?_
              refine tq_istore (ls' := [some (vR x0), none, none, none, none, none, none, none, none, some (vR x9), none, none, none, some (vI (1 : Int32)), some (vI x14), none, none, none, none]) dLw_isMerged_404 (Nat.le_of_ble_eq_true rfl) rfl ?_
              refine tq_inc (k := (1 : Int32)) (ls' := [some (vR x0), none, none, none, none, none, none, none, none, some (vR x9), none, none, none, some (vI (1 : Int32)), some (vI (x14 + (1 : Int32))), none, none, none, none]) dLw_isMerged_406 rfl tni_1 (Nat.le_of_ble_eq_true rfl) rfl ?_
              refine tq_goto (tgt := 340) dLw_isMerged_409 (by decide) ?_
              refine tpR.fo (ls' := [some (vR x0), none, none, none, none, none, none, none, none, some (vR x9), none, none, none, some (vI (1 : Int32)), some (vI (x14 + (1 : Int32))), none, none, none, none]) ?_ (And.intro rfl (And.intro rfl (And.intro rfl (And.intro rfl trivial))))
              exact ih _ _ _ _ _ hw
theorem s_Lw_isMerged_314 {h0 : tpH} {av : List tpV} {R : Int32 → tpH → Prop} {X : String → tpH → Prop} : ∀ (x0 : Option Nat) (x9 : Option Nat) (x13 : Int32) (h : tpH), w_Lw_isMerged_314 R X x0 x9 x13 h → tpR Lw_isMerged 11 h0 av (tpOi R X) 314 [some (vR x0), none, none, none, none, none, none, none, none, some (vR x9), none, none, none, some (vI x13), none, none, none, none, none] [] h := by
  intro x0 x9 x13 h hw
  unfold w_Lw_isMerged_314 at hw
  refine tq_iload dLw_isMerged_314 rfl ?_
  refine tq_ifeq (tgt := 334) dLw_isMerged_316 (by decide) (fun c1 => ?_) (fun c1 => ?_)
  · have hw := hw.1 c1
    refine tq_iconst (v := (0 : Int32)) dLw_isMerged_334 tni_0 ?_
    refine tq_istore (ls' := [some (vR x0), none, none, none, none, none, none, none, none, some (vR x9), none, none, none, some (vI (0 : Int32)), none, none, none, none, none]) dLw_isMerged_335 (Nat.le_of_ble_eq_true rfl) rfl ?_
    refine tq_iconst (v := (0 : Int32)) dLw_isMerged_337 tni_0 ?_
    refine tq_istore (ls' := [some (vR x0), none, none, none, none, none, none, none, none, some (vR x9), none, none, none, some (vI (0 : Int32)), some (vI (0 : Int32)), none, none, none, none]) dLw_isMerged_338 (Nat.le_of_ble_eq_true rfl) rfl ?_
    refine tpR.fo (ls' := [some (vR x0), none, none, none, none, none, none, none, none, some (vR x9), none, none, none, some (vI (0 : Int32)), some (vI (0 : Int32)), none, none, none, none]) ?_ (And.intro rfl (And.intro rfl (And.intro rfl (And.intro rfl trivial))))
    obtain ⟨n, hw⟩ := hw
    exact s_Lw_isMerged_340 n _ _ _ _ _ hw
  · have hw := hw.2 c1
    refine tq_aload_n dLw_isMerged_319 rfl rfl ?_
    obtain ⟨a2, e3, f4, hw⟩ := hw
    refine te_callV mv_TP_conflicts (ci := 12) (dc := 0) (as := []) (rest := []) kLw_132 rfl (Nat.le_of_ble_eq_true rfl) (Nat.le_of_ble_eq_true rfl) rfl rfl e3 f4 (Nat.le_of_ble_eq_true rfl) dLw_isMerged_320 (s_TP_conflicts hw) (fun _ _ hx => False.elim hx) (tk_i fun v6 h5 hw => ?_)
    refine tq_aload dLw_isMerged_323 rfl ?_
    refine tq_iconst (v := (0 : Int32)) dLw_isMerged_325 tni_0 ?_
    obtain ⟨a7, e8, f9, hw⟩ := hw
    obtain ⟨f10, hw⟩ := hw
    refine te_iald dLw_isMerged_326 e8 (Or.inl f9) f10 ?_
    refine tq_icmpne (tgt := 334) dLw_isMerged_327 (by decide) (fun c11 => ?_) (fun c11 => ?_)
    · have hw := hw.1 c11
      refine tq_iconst (v := (0 : Int32)) dLw_isMerged_334 tni_0 ?_
      refine tq_istore (ls' := [some (vR x0), none, none, none, none, none, none, none, none, some (vR x9), none, none, none, some (vI (0 : Int32)), none, none, none, none, none]) dLw_isMerged_335 (Nat.le_of_ble_eq_true rfl) rfl ?_
      refine tq_iconst (v := (0 : Int32)) dLw_isMerged_337 tni_0 ?_
      refine tq_istore (ls' := [some (vR x0), none, none, none, none, none, none, none, none, some (vR x9), none, none, none, some (vI (0 : Int32)), some (vI (0 : Int32)), none, none, none, none]) dLw_isMerged_338 (Nat.le_of_ble_eq_true rfl) rfl ?_
      refine tpR.fo (ls' := [some (vR x0), none, none, none, none, none, none, none, none, some (vR x9), none, none, none, some (vI (0 : Int32)), some (vI (0 : Int32)), none, none, none, none]) ?_ (And.intro rfl (And.intro rfl (And.intro rfl (And.intro rfl trivial))))
      obtain ⟨n, hw⟩ := hw
      exact s_Lw_isMerged_340 n _ _ _ _ _ hw
    · have hw := hw.2 c11
      refine tq_iconst (v := (1 : Int32)) dLw_isMerged_330 tni_1 ?_
      refine tq_goto (tgt := 335) dLw_isMerged_331 (by decide) ?_
      refine tq_istore (ls' := [some (vR x0), none, none, none, none, none, none, none, none, some (vR x9), none, none, none, some (vI (1 : Int32)), none, none, none, none, none]) dLw_isMerged_335 (Nat.le_of_ble_eq_true rfl) rfl ?_
      refine tq_iconst (v := (0 : Int32)) dLw_isMerged_337 tni_0 ?_
      refine tq_istore (ls' := [some (vR x0), none, none, none, none, none, none, none, none, some (vR x9), none, none, none, some (vI (1 : Int32)), some (vI (0 : Int32)), none, none, none, none]) dLw_isMerged_338 (Nat.le_of_ble_eq_true rfl) rfl ?_
      refine tpR.fo (ls' := [some (vR x0), none, none, none, none, none, none, none, none, some (vR x9), none, none, none, some (vI (1 : Int32)), some (vI (0 : Int32)), none, none, none, none]) ?_ (And.intro rfl (And.intro rfl (And.intro rfl (And.intro rfl trivial))))
      obtain ⟨n, hw⟩ := hw
      exact s_Lw_isMerged_340 n _ _ _ _ _ hw
theorem s_Lw_isMerged_119 {h0 : tpH} {av : List tpV} {R : Int32 → tpH → Prop} {X : String → tpH → Prop} : ∀ (n : Nat) (x0 : Option Nat) (x2 : Option Nat) (x3 : Option Nat) (x4 : Option Nat) (x5 : Option Nat) (x6 : Option Nat) (x8 : Option Nat) (x9 : Option Nat) (x10 : Option Nat) (x11 : Option Nat) (x12 : Option Nat) (x13 : Int32) (x14 : Int32) (h : tpH), w_Lw_isMerged_119 R X n x0 x2 x3 x4 x5 x6 x8 x9 x10 x11 x12 x13 x14 h → tpR Lw_isMerged 11 h0 av (tpOi R X) 119 [some (vR x0), none, some (vR x2), some (vR x3), some (vR x4), some (vR x5), some (vR x6), none, some (vR x8), some (vR x9), some (vR x10), some (vR x11), some (vR x12), some (vI x13), some (vI x14), none, none, none, none] [] h := by
  intro n
  induction n with
  | zero => intro x0 x2 x3 x4 x5 x6 x8 x9 x10 x11 x12 x13 x14 h hw; exact False.elim hw
  | succ n ih =>
    intro x0 x2 x3 x4 x5 x6 x8 x9 x10 x11 x12 x13 x14 h hw
    change b_Lw_isMerged_119 R X (w_Lw_isMerged_119 R X n) x0 x2 x3 x4 x5 x6 x8 x9 x10 x11 x12 x13 x14 h at hw
    unfold b_Lw_isMerged_119 at hw
    refine tq_iload dLw_isMerged_119 rfl ?_
    refine tq_aload dLw_isMerged_121 rfl ?_
    refine tq_iconst (v := (0 : Int32)) dLw_isMerged_123 tni_0 ?_
    obtain ⟨a1, e2, f3, hw⟩ := hw
    obtain ⟨f4, hw⟩ := hw
    refine te_iald dLw_isMerged_124 e2 (Or.inl f3) f4 ?_
    refine tq_icmpge (tgt := 314) dLw_isMerged_125 (by decide) (fun c5 => ?_) (fun c5 => ?_)
    · have hw := hw.1 c5
      refine tpR.fo (ls' := [some (vR x0), none, none, none, none, none, none, none, none, some (vR x9), none, none, none, some (vI x13), none, none, none, none, none]) ?_ (And.intro rfl (And.intro rfl (And.intro rfl trivial)))
      exact s_Lw_isMerged_314 _ _ _ _ hw
    · have hw := hw.2 c5
      refine tq_iload dLw_isMerged_128 rfl ?_
      refine tq_ifeq (tgt := 314) dLw_isMerged_130 (by decide) (fun c6 => ?_) (fun c6 => ?_)
      · have hw := hw.1 c6
        refine tpR.fo (ls' := [some (vR x0), none, none, none, none, none, none, none, none, some (vR x9), none, none, none, some (vI x13), none, none, none, none, none]) ?_ (And.intro rfl (And.intro rfl (And.intro rfl trivial)))
        exact s_Lw_isMerged_314 _ _ _ _ hw
      · have hw := hw.2 c6
        refine tq_aload dLw_isMerged_133 rfl ?_
        refine tq_iload dLw_isMerged_135 rfl ?_
        refine tq_callS ms_Lw_mark (dc := 0) (as := [vR x11, vI x14]) (rest := []) kLw_7 (Nat.le_of_ble_eq_true rfl) (Nat.le_of_ble_eq_true rfl) rfl rfl (Nat.le_of_ble_eq_true rfl) dLw_isMerged_137 (s_Lw_mark hw) (fun _ _ hx => False.elim hx) (tk_i fun v8 h7 hw => ?_)
        refine tq_istore (ls' := [some (vR x0), none, some (vR x2), some (vR x3), some (vR x4), some (vR x5), some (vR x6), none, some (vR x8), some (vR x9), some (vR x10), some (vR x11), some (vR x12), some (vI x13), some (vI x14), some (vI v8), none, none, none]) dLw_isMerged_140 (Nat.le_of_ble_eq_true rfl) rfl ?_
        refine tq_iconst (v := (0 : Int32)) dLw_isMerged_142 tni_0 ?_
        refine tq_istore (ls' := [some (vR x0), none, some (vR x2), some (vR x3), some (vR x4), some (vR x5), some (vR x6), none, some (vR x8), some (vR x9), some (vR x10), some (vR x11), some (vR x12), some (vI x13), some (vI x14), some (vI v8), some (vI (0 : Int32)), none, none]) dLw_isMerged_143 (Nat.le_of_ble_eq_true rfl) rfl ?_
        refine tq_aload dLw_isMerged_145 rfl ?_
        refine tq_iload dLw_isMerged_147 rfl ?_
        refine tq_callS ms_Lw_parentOf (dc := 2) (as := [vR x8, vI v8]) (rest := []) kLw_40 (Nat.le_of_ble_eq_true rfl) (Nat.le_of_ble_eq_true rfl) rfl rfl (Nat.le_of_ble_eq_true rfl) dLw_isMerged_149 (s_Lw_parentOf hw) (fun _ _ hx => False.elim hx) (tk_i fun v10 h9 hw => ?_)
        refine tq_aload dLw_isMerged_152 rfl ?_
        refine tq_iload dLw_isMerged_154 rfl ?_
        refine tq_callS ms_Lw_parent (dc := 0) (as := [vR x11, vI x14]) (rest := [vI v10]) kLw_16 (Nat.le_of_ble_eq_true rfl) (Nat.le_of_ble_eq_true rfl) rfl rfl (Nat.le_of_ble_eq_true rfl) dLw_isMerged_156 (s_Lw_parent hw) (fun _ _ hx => False.elim hx) (tk_i fun v12 h11 hw => ?_)
        refine tq_icmpne (tgt := 183) dLw_isMerged_159 (by decide) (fun c13 => ?_) (fun c13 => ?_)
        · have hw := hw.1 c13
          refine tq_iconst (v := (0 : Int32)) dLw_isMerged_183 tni_0 ?_
          refine tpR.fo (ls' := [some (vR x0), none, some (vR x2), some (vR x3), some (vR x4), some (vR x5), some (vR x6), none, some (vR x8), some (vR x9), some (vR x10), some (vR x11), some (vR x12), none, some (vI x14), some (vI v8), some (vI (0 : Int32)), none, none]) ?_ (And.intro rfl (And.intro rfl (And.intro rfl (And.intro rfl (And.intro rfl (And.intro rfl (And.intro rfl (And.intro rfl (And.intro rfl (And.intro rfl (And.intro rfl (And.intro rfl (And.intro rfl (And.intro rfl trivial))))))))))))))
          exact s_Lw_isMerged_184 ih _ _ _ _ _ _ _ _ _ _ _ _ _ _ _ _ hw
        · have hw := hw.2 c13
          refine tq_aload dLw_isMerged_162 rfl ?_
          refine tq_iload dLw_isMerged_164 rfl ?_
          refine tq_callS ms_Lw_valueOf (dc := 2) (as := [vR x8, vI v8]) (rest := []) kLw_86 (Nat.le_of_ble_eq_true rfl) (Nat.le_of_ble_eq_true rfl) rfl rfl (Nat.le_of_ble_eq_true rfl) dLw_isMerged_166 (s_Lw_valueOf hw) (fun _ _ hx => False.elim hx) (tk_i fun v15 h14 hw => ?_)
          refine tq_aload dLw_isMerged_169 rfl ?_
          refine tq_iload dLw_isMerged_171 rfl ?_
          refine tq_callS ms_Lw_value (dc := 0) (as := [vR x11, vI x14]) (rest := [vI v15]) kLw_19 (Nat.le_of_ble_eq_true rfl) (Nat.le_of_ble_eq_true rfl) rfl rfl (Nat.le_of_ble_eq_true rfl) dLw_isMerged_173 (s_Lw_value hw) (fun _ _ hx => False.elim hx) (tk_i fun v17 h16 hw => ?_)
          refine tq_icmpne (tgt := 183) dLw_isMerged_176 (by decide) (fun c18 => ?_) (fun c18 => ?_)
          · have hw := hw.1 c18
            refine tq_iconst (v := (0 : Int32)) dLw_isMerged_183 tni_0 ?_
            refine tpR.fo (ls' := [some (vR x0), none, some (vR x2), some (vR x3), some (vR x4), some (vR x5), some (vR x6), none, some (vR x8), some (vR x9), some (vR x10), some (vR x11), some (vR x12), none, some (vI x14), some (vI v8), some (vI (0 : Int32)), none, none]) ?_ (And.intro rfl (And.intro rfl (And.intro rfl (And.intro rfl (And.intro rfl (And.intro rfl (And.intro rfl (And.intro rfl (And.intro rfl (And.intro rfl (And.intro rfl (And.intro rfl (And.intro rfl (And.intro rfl trivial))))))))))))))
            exact s_Lw_isMerged_184 ih _ _ _ _ _ _ _ _ _ _ _ _ _ _ _ _ hw
          · have hw := hw.2 c18
            refine tq_iconst (v := (1 : Int32)) dLw_isMerged_179 tni_1 ?_
            refine tq_goto (tgt := 184) dLw_isMerged_180 (by decide) ?_
            refine tpR.fo (ls' := [some (vR x0), none, some (vR x2), some (vR x3), some (vR x4), some (vR x5), some (vR x6), none, some (vR x8), some (vR x9), some (vR x10), some (vR x11), some (vR x12), none, some (vI x14), some (vI v8), some (vI (0 : Int32)), none, none]) ?_ (And.intro rfl (And.intro rfl (And.intro rfl (And.intro rfl (And.intro rfl (And.intro rfl (And.intro rfl (And.intro rfl (And.intro rfl (And.intro rfl (And.intro rfl (And.intro rfl (And.intro rfl (And.intro rfl trivial))))))))))))))
            exact s_Lw_isMerged_184 ih _ _ _ _ _ _ _ _ _ _ _ _ _ _ _ _ hw
theorem s_Lw_isMerged_102 {h0 : tpH} {av : List tpV} {R : Int32 → tpH → Prop} {X : String → tpH → Prop} : ∀ (x0 : Option Nat) (x1 : Int32) (x2 : Option Nat) (x3 : Option Nat) (x4 : Option Nat) (x5 : Option Nat) (x6 : Option Nat) (x8 : Option Nat) (x9 : Option Nat) (x10 : Option Nat) (x11 : Option Nat) (x12 : Option Nat) (t0 : Int32) (h : tpH), w_Lw_isMerged_102 R X x0 x1 x2 x3 x4 x5 x6 x8 x9 x10 x11 x12 t0 h → tpR Lw_isMerged 11 h0 av (tpOi R X) 102 [some (vR x0), some (vI x1), some (vR x2), some (vR x3), some (vR x4), some (vR x5), some (vR x6), none, some (vR x8), some (vR x9), some (vR x10), some (vR x11), some (vR x12), none, none, none, none, none, none] [vI t0] h := by
  intro x0 x1 x2 x3 x4 x5 x6 x8 x9 x10 x11 x12 t0 h hw
  unfold w_Lw_isMerged_102 at hw
  refine tq_istore (ls' := [some (vR x0), some (vI x1), some (vR x2), some (vR x3), some (vR x4), some (vR x5), some (vR x6), none, some (vR x8), some (vR x9), some (vR x10), some (vR x11), some (vR x12), some (vI t0), none, none, none, none, none]) dLw_isMerged_102 (Nat.le_of_ble_eq_true rfl) rfl ?_
  refine tq_iload dLw_isMerged_104 rfl ?_
  refine tq_ifeq (tgt := 116) dLw_isMerged_106 (by decide) (fun c1 => ?_) (fun c1 => ?_)
  · have hw := hw.1 c1
    refine tq_iconst (v := (0 : Int32)) dLw_isMerged_116 tni_0 ?_
    refine tq_istore (ls' := [some (vR x0), some (vI x1), some (vR x2), some (vR x3), some (vR x4), some (vR x5), some (vR x6), none, some (vR x8), some (vR x9), some (vR x10), some (vR x11), some (vR x12), some (vI t0), some (vI (0 : Int32)), none, none, none, none]) dLw_isMerged_117 (Nat.le_of_ble_eq_true rfl) rfl ?_
    refine tpR.fo (ls' := [some (vR x0), none, some (vR x2), some (vR x3), some (vR x4), some (vR x5), some (vR x6), none, some (vR x8), some (vR x9), some (vR x10), some (vR x11), some (vR x12), some (vI t0), some (vI (0 : Int32)), none, none, none, none]) ?_ (And.intro rfl (And.intro rfl (And.intro rfl (And.intro rfl (And.intro rfl (And.intro rfl (And.intro rfl (And.intro rfl (And.intro rfl (And.intro rfl (And.intro rfl (And.intro rfl (And.intro rfl trivial)))))))))))))
    obtain ⟨n, hw⟩ := hw
    exact s_Lw_isMerged_119 n _ _ _ _ _ _ _ _ _ _ _ _ _ _ hw
  · have hw := hw.2 c1
    refine tq_aload_n dLw_isMerged_109 rfl rfl ?_
    refine tq_iload_n dLw_isMerged_110 rfl rfl ?_
    refine tq_aload dLw_isMerged_111 rfl ?_
    refine tq_callS ms_Lw_reads (dc := 8) (as := [vR x0, vI x1, vR x11]) (rest := []) kLw_82 (Nat.le_of_ble_eq_true rfl) (Nat.le_of_ble_eq_true rfl) rfl rfl (Nat.le_of_ble_eq_true rfl) dLw_isMerged_113 (s_Lw_reads hw) (fun _ _ hx => tpXx.out rfl hx) (tk_v fun h2 hw => ?_)
    refine tq_iconst (v := (0 : Int32)) dLw_isMerged_116 tni_0 ?_
    refine tq_istore (ls' := [some (vR x0), some (vI x1), some (vR x2), some (vR x3), some (vR x4), some (vR x5), some (vR x6), none, some (vR x8), some (vR x9), some (vR x10), some (vR x11), some (vR x12), some (vI t0), some (vI (0 : Int32)), none, none, none, none]) dLw_isMerged_117 (Nat.le_of_ble_eq_true rfl) rfl ?_
    refine tpR.fo (ls' := [some (vR x0), none, some (vR x2), some (vR x3), some (vR x4), some (vR x5), some (vR x6), none, some (vR x8), some (vR x9), some (vR x10), some (vR x11), some (vR x12), some (vI t0), some (vI (0 : Int32)), none, none, none, none]) ?_ (And.intro rfl (And.intro rfl (And.intro rfl (And.intro rfl (And.intro rfl (And.intro rfl (And.intro rfl (And.intro rfl (And.intro rfl (And.intro rfl (And.intro rfl (And.intro rfl (And.intro rfl trivial)))))))))))))
    obtain ⟨n, hw⟩ := hw
    exact s_Lw_isMerged_119 n _ _ _ _ _ _ _ _ _ _ _ _ _ _ hw
theorem s_Lw_isMerged_33 {h0 : tpH} {av : List tpV} {R : Int32 → tpH → Prop} {X : String → tpH → Prop} : ∀ (n : Nat) (x0 : Option Nat) (x1 : Int32) (x2 : Option Nat) (x3 : Option Nat) (x4 : Option Nat) (x5 : Option Nat) (x6 : Option Nat) (x7 : Int32) (x8 : Option Nat) (x9 : Option Nat) (x10 : Option Nat) (x11 : Option Nat) (x12 : Option Nat) (x13 : Int32) (h : tpH), w_Lw_isMerged_33 R X n x0 x1 x2 x3 x4 x5 x6 x7 x8 x9 x10 x11 x12 x13 h → tpR Lw_isMerged 11 h0 av (tpOi R X) 33 [some (vR x0), some (vI x1), some (vR x2), some (vR x3), some (vR x4), some (vR x5), some (vR x6), some (vI x7), some (vR x8), some (vR x9), some (vR x10), some (vR x11), some (vR x12), some (vI x13), none, none, none, none, none] [] h := by
  intro n
  induction n with
  | zero => intro x0 x1 x2 x3 x4 x5 x6 x7 x8 x9 x10 x11 x12 x13 h hw; exact False.elim hw
  | succ n ih =>
    intro x0 x1 x2 x3 x4 x5 x6 x7 x8 x9 x10 x11 x12 x13 h hw
    change b_Lw_isMerged_33 R X (w_Lw_isMerged_33 R X n) x0 x1 x2 x3 x4 x5 x6 x7 x8 x9 x10 x11 x12 x13 h at hw
    unfold b_Lw_isMerged_33 at hw
    refine tq_iload dLw_isMerged_33 rfl ?_
    refine tq_iload dLw_isMerged_35 rfl ?_
    refine tq_icmpge (tgt := 77) dLw_isMerged_37 (by decide) (fun c1 => ?_) (fun c1 => ?_)
    · have hw := hw.1 c1
      refine tq_aload_n dLw_isMerged_77 rfl rfl ?_
      refine tq_aload dLw_isMerged_78 rfl ?_
      refine tq_aload dLw_isMerged_80 rfl ?_
      refine tq_callS ms_Lw_mends (dc := 3) (as := [vR x2, vR x8, vR x9]) (rest := []) kLw_124 (Nat.le_of_ble_eq_true rfl) (Nat.le_of_ble_eq_true rfl) rfl rfl (Nat.le_of_ble_eq_true rfl) dLw_isMerged_82 (s_Lw_mends hw) (fun _ _ hx => False.elim hx) (tk_v fun h2 hw => ?_)
      refine tq_aload_n dLw_isMerged_85 rfl rfl ?_
      refine tq_iload_n dLw_isMerged_86 rfl rfl ?_
      obtain ⟨a3, e4, f5, hw⟩ := hw
      refine te_callV mv_TP_size (ci := 12) (dc := 7) (as := [vI x1]) (rest := []) kLw_22 rfl (Nat.le_of_ble_eq_true rfl) (Nat.le_of_ble_eq_true rfl) rfl rfl e4 f5 (Nat.le_of_ble_eq_true rfl) dLw_isMerged_87 (s_TP_size hw) (fun _ _ hx => tpXx.out rfl hx) (tk_i fun v7 h6 hw => ?_)
      refine tq_aload dLw_isMerged_90 rfl ?_
      refine tq_iconst (v := (0 : Int32)) dLw_isMerged_92 tni_0 ?_
      obtain ⟨a8, e9, f10, hw⟩ := hw
      obtain ⟨f11, hw⟩ := hw
      refine te_iald dLw_isMerged_93 e9 (Or.inl f10) f11 ?_
      refine tq_icmpne (tgt := 101) dLw_isMerged_94 (by decide) (fun c12 => ?_) (fun c12 => ?_)
      · have hw := hw.1 c12
        refine tq_iconst (v := (0 : Int32)) dLw_isMerged_101 tni_0 ?_
        refine tpR.fo (ls' := [some (vR x0), some (vI x1), some (vR x2), some (vR x3), some (vR x4), some (vR x5), some (vR x6), none, some (vR x8), some (vR x9), some (vR x10), some (vR x11), some (vR x12), none, none, none, none, none, none]) ?_ (And.intro rfl (And.intro rfl (And.intro rfl (And.intro rfl (And.intro rfl (And.intro rfl (And.intro rfl (And.intro rfl (And.intro rfl (And.intro rfl (And.intro rfl (And.intro rfl trivial))))))))))))
        exact s_Lw_isMerged_102 _ _ _ _ _ _ _ _ _ _ _ _ _ _ hw
      · have hw := hw.2 c12
        refine tq_iconst (v := (1 : Int32)) dLw_isMerged_97 tni_1 ?_
        refine tq_goto (tgt := 102) dLw_isMerged_98 (by decide) ?_
        refine tpR.fo (ls' := [some (vR x0), some (vI x1), some (vR x2), some (vR x3), some (vR x4), some (vR x5), some (vR x6), none, some (vR x8), some (vR x9), some (vR x10), some (vR x11), some (vR x12), none, none, none, none, none, none]) ?_ (And.intro rfl (And.intro rfl (And.intro rfl (And.intro rfl (And.intro rfl (And.intro rfl (And.intro rfl (And.intro rfl (And.intro rfl (And.intro rfl (And.intro rfl (And.intro rfl trivial))))))))))))
        exact s_Lw_isMerged_102 _ _ _ _ _ _ _ _ _ _ _ _ _ _ hw
    · have hw := hw.2 c1
      refine tq_aload_n dLw_isMerged_40 rfl rfl ?_
      refine tq_aload_n dLw_isMerged_41 rfl rfl ?_
      refine tq_aload dLw_isMerged_42 rfl ?_
      refine tq_aload dLw_isMerged_44 rfl ?_
      refine tq_aload dLw_isMerged_46 rfl ?_
      refine tq_iload dLw_isMerged_48 rfl ?_
      refine tq_callS ms_Lw_comes (dc := 4) (as := [vR x2, vR x3, vR x4, vR x9, vR x6, vI x13]) (rest := []) kLw_120 (Nat.le_of_ble_eq_true rfl) (Nat.le_of_ble_eq_true rfl) rfl rfl (Nat.le_of_ble_eq_true rfl) dLw_isMerged_50 (s_Lw_comes hw) (fun _ _ hx => False.elim hx) (tk_i fun v14 h13 hw => ?_)
      refine tq_istore (ls' := [some (vR x0), some (vI x1), some (vR x2), some (vR x3), some (vR x4), some (vR x5), some (vR x6), some (vI x7), some (vR x8), some (vR x9), some (vR x10), some (vR x11), some (vR x12), some (vI x13), some (vI v14), none, none, none, none]) dLw_isMerged_53 (Nat.le_of_ble_eq_true rfl) rfl ?_
      refine tq_iload dLw_isMerged_55 rfl ?_
      refine tq_iflt (tgt := 71) dLw_isMerged_57 (by decide) (fun c15 => ?_) (fun c15 => ?_)
      · have hw := hw.1 c15
        refine tq_inc (k := (1 : Int32)) (ls' := [some (vR x0), some (vI x1), some (vR x2), some (vR x3), some (vR x4), some (vR x5), some (vR x6), some (vI x7), some (vR x8), some (vR x9), some (vR x10), some (vR x11), some (vR x12), some (vI (x13 + (1 : Int32))), some (vI v14), none, none, none, none]) dLw_isMerged_71 rfl tni_1 (Nat.le_of_ble_eq_true rfl) rfl ?_
        refine tq_goto (tgt := 33) dLw_isMerged_74 (by decide) ?_
        refine tpR.fo (ls' := [some (vR x0), some (vI x1), some (vR x2), some (vR x3), some (vR x4), some (vR x5), some (vR x6), some (vI x7), some (vR x8), some (vR x9), some (vR x10), some (vR x11), some (vR x12), some (vI (x13 + (1 : Int32))), none, none, none, none, none]) ?_ (And.intro rfl (And.intro rfl (And.intro rfl (And.intro rfl (And.intro rfl (And.intro rfl (And.intro rfl (And.intro rfl (And.intro rfl (And.intro rfl (And.intro rfl (And.intro rfl (And.intro rfl (And.intro rfl trivial))))))))))))))
        exact ih _ _ _ _ _ _ _ _ _ _ _ _ _ _ _ hw
      · have hw := hw.2 c15
        refine tq_aload dLw_isMerged_60 rfl ?_
        refine tq_aload dLw_isMerged_62 rfl ?_
        refine tq_iconst (v := (0 : Int32)) dLw_isMerged_64 tni_0 ?_
        obtain ⟨a16, e17, f18, hw⟩ := hw
        obtain ⟨f19, hw⟩ := hw
        refine te_iald dLw_isMerged_65 e17 (Or.inl f18) f19 ?_
        refine tq_iload dLw_isMerged_66 rfl ?_
        refine tq_callS ms_Lw_puts (dc := 0) (as := [vR x8, vI (hI h13 a16 (0 : Int32).toNatClampNeg), vI v14]) (rest := []) kLw_101 (Nat.le_of_ble_eq_true rfl) (Nat.le_of_ble_eq_true rfl) rfl rfl (Nat.le_of_ble_eq_true rfl) dLw_isMerged_68 (s_Lw_puts hw) (fun _ _ hx => False.elim hx) (tk_v fun h20 hw => ?_)
        refine tq_inc (k := (1 : Int32)) (ls' := [some (vR x0), some (vI x1), some (vR x2), some (vR x3), some (vR x4), some (vR x5), some (vR x6), some (vI x7), some (vR x8), some (vR x9), some (vR x10), some (vR x11), some (vR x12), some (vI (x13 + (1 : Int32))), some (vI v14), none, none, none, none]) dLw_isMerged_71 rfl tni_1 (Nat.le_of_ble_eq_true rfl) rfl ?_
        refine tq_goto (tgt := 33) dLw_isMerged_74 (by decide) ?_
        refine tpR.fo (ls' := [some (vR x0), some (vI x1), some (vR x2), some (vR x3), some (vR x4), some (vR x5), some (vR x6), some (vI x7), some (vR x8), some (vR x9), some (vR x10), some (vR x11), some (vR x12), some (vI (x13 + (1 : Int32))), none, none, none, none, none]) ?_ (And.intro rfl (And.intro rfl (And.intro rfl (And.intro rfl (And.intro rfl (And.intro rfl (And.intro rfl (And.intro rfl (And.intro rfl (And.intro rfl (And.intro rfl (And.intro rfl (And.intro rfl (And.intro rfl trivial))))))))))))))
        exact ih _ _ _ _ _ _ _ _ _ _ _ _ _ _ _ hw
theorem s_Lw_isMerged {x0 : Option Nat} {x1 : Int32} {x2 : Option Nat} {x3 : Option Nat} {x4 : Option Nat} {x5 : Option Nat} {x6 : Option Nat} {x7 : Int32} {h : tpH} {R : Int32 → tpH → Prop} {X : String → tpH → Prop} (hw : w_Lw_isMerged x0 x1 x2 x3 x4 x5 x6 x7 h X R) : tpC Lw_isMerged 11 [vR x0, vI x1, vR x2, vR x3, vR x4, vR x5, vR x6, vI x7] h (tpOi R X) := by
  refine tpC_of ms_Lw_isMerged.2.2.2.1 rfl rfl (Nat.le_of_ble_eq_true rfl) ?_
  show tpR Lw_isMerged 11 h _ _ 0 [some (vR x0), some (vI x1), some (vR x2), some (vR x3), some (vR x4), some (vR x5), some (vR x6), some (vI x7), none, none, none, none, none, none, none, none, none, none, none] [] h
  unfold w_Lw_isMerged at hw
  refine tq_bipush (v := (41 : Int32)) dLw_isMerged_0 tnb_41 ?_
  refine tq_newa tpN_int (N := 41) dLw_isMerged_2 (by decide) (by decide) (Nat.le_of_ble_eq_true rfl) (fun a1 h2 e3 e4 => ?_)
  have hw := hw a1 h2 e3 e4
  refine tq_astore (ls' := [some (vR x0), some (vI x1), some (vR x2), some (vR x3), some (vR x4), some (vR x5), some (vR x6), some (vI x7), some (vR (some a1)), none, none, none, none, none, none, none, none, none, none]) dLw_isMerged_4 (Nat.le_of_ble_eq_true rfl) rfl ?_
  refine tq_bipush (v := (64 : Int32)) dLw_isMerged_6 tnb_64 ?_
  refine tq_newa tpN_int (N := 64) dLw_isMerged_8 (by decide) (by decide) (Nat.le_of_ble_eq_true rfl) (fun a5 h6 e7 e8 => ?_)
  have hw := hw a5 h6 e7 e8
  refine tq_astore (ls' := [some (vR x0), some (vI x1), some (vR x2), some (vR x3), some (vR x4), some (vR x5), some (vR x6), some (vI x7), some (vR (some a1)), some (vR (some a5)), none, none, none, none, none, none, none, none, none]) dLw_isMerged_10 (Nat.le_of_ble_eq_true rfl) rfl ?_
  refine tq_bipush (v := (42 : Int32)) dLw_isMerged_12 tnb_42 ?_
  refine tq_newa tpN_int (N := 42) dLw_isMerged_14 (by decide) (by decide) (Nat.le_of_ble_eq_true rfl) (fun a9 h10 e11 e12 => ?_)
  have hw := hw a9 h10 e11 e12
  refine tq_astore (ls' := [some (vR x0), some (vI x1), some (vR x2), some (vR x3), some (vR x4), some (vR x5), some (vR x6), some (vI x7), some (vR (some a1)), some (vR (some a5)), some (vR (some a9)), none, none, none, none, none, none, none, none]) dLw_isMerged_16 (Nat.le_of_ble_eq_true rfl) rfl ?_
  refine tq_bipush (v := (41 : Int32)) dLw_isMerged_18 tnb_41 ?_
  refine tq_newa tpN_int (N := 41) dLw_isMerged_20 (by decide) (by decide) (Nat.le_of_ble_eq_true rfl) (fun a13 h14 e15 e16 => ?_)
  have hw := hw a13 h14 e15 e16
  refine tq_astore (ls' := [some (vR x0), some (vI x1), some (vR x2), some (vR x3), some (vR x4), some (vR x5), some (vR x6), some (vI x7), some (vR (some a1)), some (vR (some a5)), some (vR (some a9)), some (vR (some a13)), none, none, none, none, none, none, none]) dLw_isMerged_22 (Nat.le_of_ble_eq_true rfl) rfl ?_
  refine tq_bipush (v := (40 : Int32)) dLw_isMerged_24 tnb_40 ?_
  refine tq_newa tpN_int (N := 40) dLw_isMerged_26 (by decide) (by decide) (Nat.le_of_ble_eq_true rfl) (fun a17 h18 e19 e20 => ?_)
  have hw := hw a17 h18 e19 e20
  refine tq_astore (ls' := [some (vR x0), some (vI x1), some (vR x2), some (vR x3), some (vR x4), some (vR x5), some (vR x6), some (vI x7), some (vR (some a1)), some (vR (some a5)), some (vR (some a9)), some (vR (some a13)), some (vR (some a17)), none, none, none, none, none, none]) dLw_isMerged_28 (Nat.le_of_ble_eq_true rfl) rfl ?_
  refine tq_iconst (v := (0 : Int32)) dLw_isMerged_30 tni_0 ?_
  refine tq_istore (ls' := [some (vR x0), some (vI x1), some (vR x2), some (vR x3), some (vR x4), some (vR x5), some (vR x6), some (vI x7), some (vR (some a1)), some (vR (some a5)), some (vR (some a9)), some (vR (some a13)), some (vR (some a17)), some (vI (0 : Int32)), none, none, none, none, none]) dLw_isMerged_31 (Nat.le_of_ble_eq_true rfl) rfl ?_
  refine tpR.fo (ls' := [some (vR x0), some (vI x1), some (vR x2), some (vR x3), some (vR x4), some (vR x5), some (vR x6), some (vI x7), some (vR (some a1)), some (vR (some a5)), some (vR (some a9)), some (vR (some a13)), some (vR (some a17)), some (vI (0 : Int32)), none, none, none, none, none]) ?_ (And.intro rfl (And.intro rfl (And.intro rfl (And.intro rfl (And.intro rfl (And.intro rfl (And.intro rfl (And.intro rfl (And.intro rfl (And.intro rfl (And.intro rfl (And.intro rfl (And.intro rfl (And.intro rfl trivial))))))))))))))
  obtain ⟨n, hw⟩ := hw
  exact s_Lw_isMerged_33 n _ _ _ _ _ _ _ _ _ _ _ _ _ _ _ hw
