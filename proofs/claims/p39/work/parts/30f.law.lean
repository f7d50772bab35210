/-! TLaw.isChanged -/
theorem dLw_isChanged_0 : decode (mB Lw_isChanged) 0 = .ok (.aload_n 1, 1) := by decide +kernel
theorem dLw_isChanged_1 : decode (mB Lw_isChanged) 1 = .ok (.iload 4, 2) := by decide +kernel
theorem dLw_isChanged_3 : decode (mB Lw_isChanged) 3 = .ok (.aload_n 1, 1) := by decide +kernel
theorem dLw_isChanged_4 : decode (mB Lw_isChanged) 4 = .ok (.iconst 0, 1) := by decide +kernel
theorem dLw_isChanged_5 : decode (mB Lw_isChanged) 5 = .ok (.iaload, 1) := by decide +kernel
theorem dLw_isChanged_6 : decode (mB Lw_isChanged) 6 = .ok (.irem, 1) := by decide +kernel
theorem dLw_isChanged_7 : decode (mB Lw_isChanged) 7 = .ok (.invokestatic 7, 3) := by decide +kernel
theorem dLw_isChanged_10 : decode (mB Lw_isChanged) 10 = .ok (.istore 5, 2) := by decide +kernel
theorem dLw_isChanged_12 : decode (mB Lw_isChanged) 12 = .ok (.aload_n 1, 1) := by decide +kernel
theorem dLw_isChanged_13 : decode (mB Lw_isChanged) 13 = .ok (.iload 4, 2) := by decide +kernel
theorem dLw_isChanged_15 : decode (mB Lw_isChanged) 15 = .ok (.bipush 24, 2) := by decide +kernel
theorem dLw_isChanged_17 : decode (mB Lw_isChanged) 17 = .ok (.idiv, 1) := by decide +kernel
theorem dLw_isChanged_18 : decode (mB Lw_isChanged) 18 = .ok (.aload_n 1, 1) := by decide +kernel
theorem dLw_isChanged_19 : decode (mB Lw_isChanged) 19 = .ok (.iconst 0, 1) := by decide +kernel
theorem dLw_isChanged_20 : decode (mB Lw_isChanged) 20 = .ok (.iaload, 1) := by decide +kernel
theorem dLw_isChanged_21 : decode (mB Lw_isChanged) 21 = .ok (.irem, 1) := by decide +kernel
theorem dLw_isChanged_22 : decode (mB Lw_isChanged) 22 = .ok (.invokestatic 7, 3) := by decide +kernel
theorem dLw_isChanged_25 : decode (mB Lw_isChanged) 25 = .ok (.istore 6, 2) := by decide +kernel
theorem dLw_isChanged_27 : decode (mB Lw_isChanged) 27 = .ok (.bipush 40, 2) := by decide +kernel
theorem dLw_isChanged_29 : decode (mB Lw_isChanged) 29 = .ok (.newarray .int, 2) := by decide +kernel
theorem dLw_isChanged_31 : decode (mB Lw_isChanged) 31 = .ok (.astore 7, 2) := by decide +kernel
theorem dLw_isChanged_33 : decode (mB Lw_isChanged) 33 = .ok (.iload 4, 2) := by decide +kernel
theorem dLw_isChanged_35 : decode (mB Lw_isChanged) 35 = .ok (.sipush 576, 3) := by decide +kernel
theorem dLw_isChanged_38 : decode (mB Lw_isChanged) 38 = .ok (.idiv, 1) := by decide +kernel
theorem dLw_isChanged_39 : decode (mB Lw_isChanged) 39 = .ok (.bipush 8, 2) := by decide +kernel
theorem dLw_isChanged_41 : decode (mB Lw_isChanged) 41 = .ok (.irem, 1) := by decide +kernel
theorem dLw_isChanged_42 : decode (mB Lw_isChanged) 42 = .ok (.istore 8, 2) := by decide +kernel
theorem dLw_isChanged_44 : decode (mB Lw_isChanged) 44 = .ok (.iload 8, 2) := by decide +kernel
theorem dLw_isChanged_46 : decode (mB Lw_isChanged) 46 = .ok (.iconst 3, 1) := by decide +kernel
theorem dLw_isChanged_47 : decode (mB Lw_isChanged) 47 = .ok (.if_icmp .ge 152, 3) := by decide +kernel
theorem dLw_isChanged_50 : decode (mB Lw_isChanged) 50 = .ok (.aload_n 3, 1) := by decide +kernel
theorem dLw_isChanged_51 : decode (mB Lw_isChanged) 51 = .ok (.iconst 0, 1) := by decide +kernel
theorem dLw_isChanged_52 : decode (mB Lw_isChanged) 52 = .ok (.iaload, 1) := by decide +kernel
theorem dLw_isChanged_53 : decode (mB Lw_isChanged) 53 = .ok (.bipush 22, 2) := by decide +kernel
theorem dLw_isChanged_55 : decode (mB Lw_isChanged) 55 = .ok (.if_icmp .ge 144, 3) := by decide +kernel
theorem dLw_isChanged_58 : decode (mB Lw_isChanged) 58 = .ok (.aload_n 1, 1) := by decide +kernel
theorem dLw_isChanged_59 : decode (mB Lw_isChanged) 59 = .ok (.iconst 0, 1) := by decide +kernel
theorem dLw_isChanged_60 : decode (mB Lw_isChanged) 60 = .ok (.iaload, 1) := by decide +kernel
theorem dLw_isChanged_61 : decode (mB Lw_isChanged) 61 = .ok (.bipush 20, 2) := by decide +kernel
theorem dLw_isChanged_63 : decode (mB Lw_isChanged) 63 = .ok (.if_icmp .ge 136, 3) := by decide +kernel
theorem dLw_isChanged_66 : decode (mB Lw_isChanged) 66 = .ok (.iload 4, 2) := by decide +kernel
theorem dLw_isChanged_68 : decode (mB Lw_isChanged) 68 = .ok (.sipush 4608, 3) := by decide +kernel
theorem dLw_isChanged_71 : decode (mB Lw_isChanged) 71 = .ok (.idiv, 1) := by decide +kernel
theorem dLw_isChanged_72 : decode (mB Lw_isChanged) 72 = .ok (.bipush 6, 2) := by decide +kernel
theorem dLw_isChanged_74 : decode (mB Lw_isChanged) 74 = .ok (.irem, 1) := by decide +kernel
theorem dLw_isChanged_75 : decode (mB Lw_isChanged) 75 = .ok (.istore 9, 2) := by decide +kernel
theorem dLw_isChanged_77 : decode (mB Lw_isChanged) 77 = .ok (.aload_n 1, 1) := by decide +kernel
theorem dLw_isChanged_78 : decode (mB Lw_isChanged) 78 = .ok (.aload_n 2, 1) := by decide +kernel
theorem dLw_isChanged_79 : decode (mB Lw_isChanged) 79 = .ok (.iload 5, 2) := by decide +kernel
theorem dLw_isChanged_81 : decode (mB Lw_isChanged) 81 = .ok (.aload 7, 2) := by decide +kernel
theorem dLw_isChanged_83 : decode (mB Lw_isChanged) 83 = .ok (.invokestatic 36, 3) := by decide +kernel
theorem dLw_isChanged_86 : decode (mB Lw_isChanged) 86 = .ok (.istore 10, 2) := by decide +kernel
theorem dLw_isChanged_88 : decode (mB Lw_isChanged) 88 = .ok (.iload 4, 2) := by decide +kernel
theorem dLw_isChanged_90 : decode (mB Lw_isChanged) 90 = .ok (.sipush 27648, 3) := by decide +kernel
theorem dLw_isChanged_93 : decode (mB Lw_isChanged) 93 = .ok (.idiv, 1) := by decide +kernel
theorem dLw_isChanged_94 : decode (mB Lw_isChanged) 94 = .ok (.iload 10, 2) := by decide +kernel
theorem dLw_isChanged_96 : decode (mB Lw_isChanged) 96 = .ok (.iconst 1, 1) := by decide +kernel
theorem dLw_isChanged_97 : decode (mB Lw_isChanged) 97 = .ok (.iadd, 1) := by decide +kernel
theorem dLw_isChanged_98 : decode (mB Lw_isChanged) 98 = .ok (.irem, 1) := by decide +kernel
theorem dLw_isChanged_99 : decode (mB Lw_isChanged) 99 = .ok (.istore 11, 2) := by decide +kernel
theorem dLw_isChanged_101 : decode (mB Lw_isChanged) 101 = .ok (.aload_n 1, 1) := by decide +kernel
theorem dLw_isChanged_102 : decode (mB Lw_isChanged) 102 = .ok (.aload_n 2, 1) := by decide +kernel
theorem dLw_isChanged_103 : decode (mB Lw_isChanged) 103 = .ok (.iload 5, 2) := by decide +kernel
theorem dLw_isChanged_105 : decode (mB Lw_isChanged) 105 = .ok (.iload 11, 2) := by decide +kernel
theorem dLw_isChanged_107 : decode (mB Lw_isChanged) 107 = .ok (.invokestatic 139, 3) := by decide +kernel
theorem dLw_isChanged_110 : decode (mB Lw_isChanged) 110 = .ok (.istore 12, 2) := by decide +kernel
theorem dLw_isChanged_112 : decode (mB Lw_isChanged) 112 = .ok (.aload_n 2, 1) := by decide +kernel
theorem dLw_isChanged_113 : decode (mB Lw_isChanged) 113 = .ok (.aload_n 3, 1) := by decide +kernel
theorem dLw_isChanged_114 : decode (mB Lw_isChanged) 114 = .ok (.iconst 0, 1) := by decide +kernel
theorem dLw_isChanged_115 : decode (mB Lw_isChanged) 115 = .ok (.iaload, 1) := by decide +kernel
theorem dLw_isChanged_116 : decode (mB Lw_isChanged) 116 = .ok (.iload 9, 2) := by decide +kernel
theorem dLw_isChanged_118 : decode (mB Lw_isChanged) 118 = .ok (.iastore, 1) := by decide +kernel
theorem dLw_isChanged_119 : decode (mB Lw_isChanged) 119 = .ok (.aload_n 1, 1) := by decide +kernel
theorem dLw_isChanged_120 : decode (mB Lw_isChanged) 120 = .ok (.iload 12, 2) := by decide +kernel
theorem dLw_isChanged_122 : decode (mB Lw_isChanged) 122 = .ok (.aload_n 3, 1) := by decide +kernel
theorem dLw_isChanged_123 : decode (mB Lw_isChanged) 123 = .ok (.iconst 0, 1) := by decide +kernel
theorem dLw_isChanged_124 : decode (mB Lw_isChanged) 124 = .ok (.iaload, 1) := by decide +kernel
theorem dLw_isChanged_125 : decode (mB Lw_isChanged) 125 = .ok (.bipush 64, 2) := by decide +kernel
theorem dLw_isChanged_127 : decode (mB Lw_isChanged) 127 = .ok (.iload 4, 2) := by decide +kernel
theorem dLw_isChanged_129 : decode (mB Lw_isChanged) 129 = .ok (.bipush 9, 2) := by decide +kernel
theorem dLw_isChanged_131 : decode (mB Lw_isChanged) 131 = .ok (.irem, 1) := by decide +kernel
theorem dLw_isChanged_132 : decode (mB Lw_isChanged) 132 = .ok (.imul, 1) := by decide +kernel
theorem dLw_isChanged_133 : decode (mB Lw_isChanged) 133 = .ok (.iadd, 1) := by decide +kernel
theorem dLw_isChanged_134 : decode (mB Lw_isChanged) 134 = .ok (.sipush 8192, 3) := by decide +kernel
theorem dLw_isChanged_137 : decode (mB Lw_isChanged) 137 = .ok (.iload 5, 2) := by decide +kernel
theorem dLw_isChanged_139 : decode (mB Lw_isChanged) 139 = .ok (.iconst 1, 1) := by decide +kernel
theorem dLw_isChanged_140 : decode (mB Lw_isChanged) 140 = .ok (.iadd, 1) := by decide +kernel
theorem dLw_isChanged_141 : decode (mB Lw_isChanged) 141 = .ok (.imul, 1) := by decide +kernel
theorem dLw_isChanged_142 : decode (mB Lw_isChanged) 142 = .ok (.iadd, 1) := by decide +kernel
theorem dLw_isChanged_143 : decode (mB Lw_isChanged) 143 = .ok (.invokestatic 101, 3) := by decide +kernel
theorem dLw_isChanged_146 : decode (mB Lw_isChanged) 146 = .ok (.aload_n 3, 1) := by decide +kernel
theorem dLw_isChanged_147 : decode (mB Lw_isChanged) 147 = .ok (.iconst 0, 1) := by decide +kernel
theorem dLw_isChanged_148 : decode (mB Lw_isChanged) 148 = .ok (.dup2, 1) := by decide +kernel
theorem dLw_isChanged_149 : decode (mB Lw_isChanged) 149 = .ok (.iaload, 1) := by decide +kernel
theorem dLw_isChanged_150 : decode (mB Lw_isChanged) 150 = .ok (.iconst 1, 1) := by decide +kernel
theorem dLw_isChanged_151 : decode (mB Lw_isChanged) 151 = .ok (.iadd, 1) := by decide +kernel
theorem dLw_isChanged_152 : decode (mB Lw_isChanged) 152 = .ok (.iastore, 1) := by decide +kernel
theorem dLw_isChanged_153 : decode (mB Lw_isChanged) 153 = .ok (.aload_n 0, 1) := by decide +kernel
theorem dLw_isChanged_154 : decode (mB Lw_isChanged) 154 = .ok (.iconst 2, 1) := by decide +kernel
theorem dLw_isChanged_155 : decode (mB Lw_isChanged) 155 = .ok (.iload 5, 2) := by decide +kernel
theorem dLw_isChanged_157 : decode (mB Lw_isChanged) 157 = .ok (.iload 11, 2) := by decide +kernel
theorem dLw_isChanged_159 : decode (mB Lw_isChanged) 159 = .ok (.iload 9, 2) := by decide +kernel
theorem dLw_isChanged_161 : decode (mB Lw_isChanged) 161 = .ok (.bipush 10, 2) := by decide +kernel
theorem dLw_isChanged_163 : decode (mB Lw_isChanged) 163 = .ok (.iload 4, 2) := by decide +kernel
theorem dLw_isChanged_165 : decode (mB Lw_isChanged) 165 = .ok (.bipush 9, 2) := by decide +kernel
theorem dLw_isChanged_167 : decode (mB Lw_isChanged) 167 = .ok (.irem, 1) := by decide +kernel
theorem dLw_isChanged_168 : decode (mB Lw_isChanged) 168 = .ok (.imul, 1) := by decide +kernel
theorem dLw_isChanged_169 : decode (mB Lw_isChanged) 169 = .ok (.iadd, 1) := by decide +kernel
theorem dLw_isChanged_170 : decode (mB Lw_isChanged) 170 = .ok (.sipush 1000, 3) := by decide +kernel
theorem dLw_isChanged_173 : decode (mB Lw_isChanged) 173 = .ok (.iload 4, 2) := by decide +kernel
theorem dLw_isChanged_175 : decode (mB Lw_isChanged) 175 = .ok (.bipush 7, 2) := by decide +kernel
theorem dLw_isChanged_177 : decode (mB Lw_isChanged) 177 = .ok (.idiv, 1) := by decide +kernel
theorem dLw_isChanged_178 : decode (mB Lw_isChanged) 178 = .ok (.iconst 4, 1) := by decide +kernel
theorem dLw_isChanged_179 : decode (mB Lw_isChanged) 179 = .ok (.irem, 1) := by decide +kernel
theorem dLw_isChanged_180 : decode (mB Lw_isChanged) 180 = .ok (.imul, 1) := by decide +kernel
theorem dLw_isChanged_181 : decode (mB Lw_isChanged) 181 = .ok (.iadd, 1) := by decide +kernel
theorem dLw_isChanged_182 : decode (mB Lw_isChanged) 182 = .ok (.invokestatic 135, 3) := by decide +kernel
theorem dLw_isChanged_185 : decode (mB Lw_isChanged) 185 = .ok (.aload_n 3, 1) := by decide +kernel
theorem dLw_isChanged_186 : decode (mB Lw_isChanged) 186 = .ok (.iconst 0, 1) := by decide +kernel
theorem dLw_isChanged_187 : decode (mB Lw_isChanged) 187 = .ok (.iaload, 1) := by decide +kernel
theorem dLw_isChanged_188 : decode (mB Lw_isChanged) 188 = .ok (.iconst 1, 1) := by decide +kernel
theorem dLw_isChanged_189 : decode (mB Lw_isChanged) 189 = .ok (.isub, 1) := by decide +kernel
theorem dLw_isChanged_190 : decode (mB Lw_isChanged) 190 = .ok (.if_icmp .ne 7, 3) := by decide +kernel
theorem dLw_isChanged_193 : decode (mB Lw_isChanged) 193 = .ok (.iconst 1, 1) := by decide +kernel
theorem dLw_isChanged_194 : decode (mB Lw_isChanged) 194 = .ok (.goto 4, 3) := by decide +kernel
theorem dLw_isChanged_197 : decode (mB Lw_isChanged) 197 = .ok (.iconst 0, 1) := by decide +kernel
theorem dLw_isChanged_198 : decode (mB Lw_isChanged) 198 = .ok (.ireturn, 1) := by decide +kernel
theorem dLw_isChanged_199 : decode (mB Lw_isChanged) 199 = .ok (.iload 8, 2) := by decide +kernel
theorem dLw_isChanged_201 : decode (mB Lw_isChanged) 201 = .ok (.iconst 5, 1) := by decide +kernel
theorem dLw_isChanged_202 : decode (mB Lw_isChanged) 202 = .ok (.if_icmp .ge 71, 3) := by decide +kernel
theorem dLw_isChanged_205 : decode (mB Lw_isChanged) 205 = .ok (.aload_n 1, 1) := by decide +kernel
theorem dLw_isChanged_206 : decode (mB Lw_isChanged) 206 = .ok (.iload 5, 2) := by decide +kernel
theorem dLw_isChanged_208 : decode (mB Lw_isChanged) 208 = .ok (.invokestatic 86, 3) := by decide +kernel
theorem dLw_isChanged_211 : decode (mB Lw_isChanged) 211 = .ok (.istore 9, 2) := by decide +kernel
theorem dLw_isChanged_213 : decode (mB Lw_isChanged) 213 = .ok (.aload_n 1, 1) := by decide +kernel
theorem dLw_isChanged_214 : decode (mB Lw_isChanged) 214 = .ok (.iload 5, 2) := by decide +kernel
theorem dLw_isChanged_216 : decode (mB Lw_isChanged) 216 = .ok (.invokestatic 13, 3) := by decide +kernel
theorem dLw_isChanged_219 : decode (mB Lw_isChanged) 219 = .ok (.istore 10, 2) := by decide +kernel
theorem dLw_isChanged_221 : decode (mB Lw_isChanged) 221 = .ok (.aload_n 1, 1) := by decide +kernel
theorem dLw_isChanged_222 : decode (mB Lw_isChanged) 222 = .ok (.iconst 1, 1) := by decide +kernel
theorem dLw_isChanged_223 : decode (mB Lw_isChanged) 223 = .ok (.iload 10, 2) := by decide +kernel
theorem dLw_isChanged_225 : decode (mB Lw_isChanged) 225 = .ok (.iadd, 1) := by decide +kernel
theorem dLw_isChanged_226 : decode (mB Lw_isChanged) 226 = .ok (.dup2, 1) := by decide +kernel
theorem dLw_isChanged_227 : decode (mB Lw_isChanged) 227 = .ok (.iaload, 1) := by decide +kernel
theorem dLw_isChanged_228 : decode (mB Lw_isChanged) 228 = .ok (.bipush 64, 2) := by decide +kernel
theorem dLw_isChanged_230 : decode (mB Lw_isChanged) 230 = .ok (.iload 4, 2) := by decide +kernel
theorem dLw_isChanged_232 : decode (mB Lw_isChanged) 232 = .ok (.sipush 4608, 3) := by decide +kernel
theorem dLw_isChanged_235 : decode (mB Lw_isChanged) 235 = .ok (.idiv, 1) := by decide +kernel
theorem dLw_isChanged_236 : decode (mB Lw_isChanged) 236 = .ok (.bipush 9, 2) := by decide +kernel
theorem dLw_isChanged_238 : decode (mB Lw_isChanged) 238 = .ok (.irem, 1) := by decide +kernel
theorem dLw_isChanged_239 : decode (mB Lw_isChanged) 239 = .ok (.iload 9, 2) := by decide +kernel
theorem dLw_isChanged_241 : decode (mB Lw_isChanged) 241 = .ok (.isub, 1) := by decide +kernel
theorem dLw_isChanged_242 : decode (mB Lw_isChanged) 242 = .ok (.imul, 1) := by decide +kernel
theorem dLw_isChanged_243 : decode (mB Lw_isChanged) 243 = .ok (.iadd, 1) := by decide +kernel
theorem dLw_isChanged_244 : decode (mB Lw_isChanged) 244 = .ok (.iastore, 1) := by decide +kernel
theorem dLw_isChanged_245 : decode (mB Lw_isChanged) 245 = .ok (.aload_n 0, 1) := by decide +kernel
theorem dLw_isChanged_246 : decode (mB Lw_isChanged) 246 = .ok (.iconst 3, 1) := by decide +kernel
theorem dLw_isChanged_247 : decode (mB Lw_isChanged) 247 = .ok (.iload 5, 2) := by decide +kernel
theorem dLw_isChanged_249 : decode (mB Lw_isChanged) 249 = .ok (.iload 4, 2) := by decide +kernel
theorem dLw_isChanged_251 : decode (mB Lw_isChanged) 251 = .ok (.sipush 4608, 3) := by decide +kernel
theorem dLw_isChanged_254 : decode (mB Lw_isChanged) 254 = .ok (.idiv, 1) := by decide +kernel
theorem dLw_isChanged_255 : decode (mB Lw_isChanged) 255 = .ok (.bipush 9, 2) := by decide +kernel
theorem dLw_isChanged_257 : decode (mB Lw_isChanged) 257 = .ok (.irem, 1) := by decide +kernel
theorem dLw_isChanged_258 : decode (mB Lw_isChanged) 258 = .ok (.iconst 0, 1) := by decide +kernel
theorem dLw_isChanged_259 : decode (mB Lw_isChanged) 259 = .ok (.invokestatic 135, 3) := by decide +kernel
theorem dLw_isChanged_262 : decode (mB Lw_isChanged) 262 = .ok (.iload 9, 2) := by decide +kernel
theorem dLw_isChanged_264 : decode (mB Lw_isChanged) 264 = .ok (.if_icmp .ne 7, 3) := by decide +kernel
theorem dLw_isChanged_267 : decode (mB Lw_isChanged) 267 = .ok (.iconst 1, 1) := by decide +kernel
theorem dLw_isChanged_268 : decode (mB Lw_isChanged) 268 = .ok (.goto 4, 3) := by decide +kernel
theorem dLw_isChanged_271 : decode (mB Lw_isChanged) 271 = .ok (.iconst 0, 1) := by decide +kernel
theorem dLw_isChanged_272 : decode (mB Lw_isChanged) 272 = .ok (.ireturn, 1) := by decide +kernel
theorem dLw_isChanged_273 : decode (mB Lw_isChanged) 273 = .ok (.iload 8, 2) := by decide +kernel
theorem dLw_isChanged_275 : decode (mB Lw_isChanged) 275 = .ok (.bipush 7, 2) := by decide +kernel
theorem dLw_isChanged_277 : decode (mB Lw_isChanged) 277 = .ok (.if_icmp .ne 212, 3) := by decide +kernel
theorem dLw_isChanged_280 : decode (mB Lw_isChanged) 280 = .ok (.aload_n 1, 1) := by decide +kernel
theorem dLw_isChanged_281 : decode (mB Lw_isChanged) 281 = .ok (.iload 5, 2) := by decide +kernel
theorem dLw_isChanged_283 : decode (mB Lw_isChanged) 283 = .ok (.invokestatic 40, 3) := by decide +kernel
theorem dLw_isChanged_286 : decode (mB Lw_isChanged) 286 = .ok (.ifCond .lt 18, 3) := by decide +kernel
theorem dLw_isChanged_289 : decode (mB Lw_isChanged) 289 = .ok (.iload 4, 2) := by decide +kernel
theorem dLw_isChanged_291 : decode (mB Lw_isChanged) 291 = .ok (.sipush 4608, 3) := by decide +kernel
theorem dLw_isChanged_294 : decode (mB Lw_isChanged) 294 = .ok (.idiv, 1) := by decide +kernel
theorem dLw_isChanged_295 : decode (mB Lw_isChanged) 295 = .ok (.iconst 2, 1) := by decide +kernel
theorem dLw_isChanged_296 : decode (mB Lw_isChanged) 296 = .ok (.irem, 1) := by decide +kernel
theorem dLw_isChanged_297 : decode (mB Lw_isChanged) 297 = .ok (.ifCond .ne 7, 3) := by decide +kernel
theorem dLw_isChanged_300 : decode (mB Lw_isChanged) 300 = .ok (.iconst 1, 1) := by decide +kernel
theorem dLw_isChanged_301 : decode (mB Lw_isChanged) 301 = .ok (.goto 4, 3) := by decide +kernel
theorem dLw_isChanged_304 : decode (mB Lw_isChanged) 304 = .ok (.iconst 0, 1) := by decide +kernel
theorem dLw_isChanged_305 : decode (mB Lw_isChanged) 305 = .ok (.istore 9, 2) := by decide +kernel
theorem dLw_isChanged_307 : decode (mB Lw_isChanged) 307 = .ok (.iconst 0, 1) := by decide +kernel
theorem dLw_isChanged_308 : decode (mB Lw_isChanged) 308 = .ok (.istore 10, 2) := by decide +kernel
theorem dLw_isChanged_310 : decode (mB Lw_isChanged) 310 = .ok (.aload_n 1, 1) := by decide +kernel
theorem dLw_isChanged_311 : decode (mB Lw_isChanged) 311 = .ok (.iconst 0, 1) := by decide +kernel
theorem dLw_isChanged_312 : decode (mB Lw_isChanged) 312 = .ok (.iaload, 1) := by decide +kernel
theorem dLw_isChanged_313 : decode (mB Lw_isChanged) 313 = .ok (.istore 11, 2) := by decide +kernel
theorem dLw_isChanged_315 : decode (mB Lw_isChanged) 315 = .ok (.iconst 0, 1) := by decide +kernel
theorem dLw_isChanged_316 : decode (mB Lw_isChanged) 316 = .ok (.istore 12, 2) := by decide +kernel
theorem dLw_isChanged_318 : decode (mB Lw_isChanged) 318 = .ok (.iload 12, 2) := by decide +kernel
theorem dLw_isChanged_320 : decode (mB Lw_isChanged) 320 = .ok (.iload 11, 2) := by decide +kernel
theorem dLw_isChanged_322 : decode (mB Lw_isChanged) 322 = .ok (.if_icmp .ge 123, 3) := by decide +kernel
theorem dLw_isChanged_325 : decode (mB Lw_isChanged) 325 = .ok (.iload 9, 2) := by decide +kernel
theorem dLw_isChanged_327 : decode (mB Lw_isChanged) 327 = .ok (.ifCond .eq 118, 3) := by decide +kernel
theorem dLw_isChanged_330 : decode (mB Lw_isChanged) 330 = .ok (.aload_n 1, 1) := by decide +kernel
theorem dLw_isChanged_331 : decode (mB Lw_isChanged) 331 = .ok (.iconst 0, 1) := by decide +kernel
theorem dLw_isChanged_332 : decode (mB Lw_isChanged) 332 = .ok (.iaload, 1) := by decide +kernel
theorem dLw_isChanged_333 : decode (mB Lw_isChanged) 333 = .ok (.iconst 1, 1) := by decide +kernel
theorem dLw_isChanged_334 : decode (mB Lw_isChanged) 334 = .ok (.isub, 1) := by decide +kernel
theorem dLw_isChanged_335 : decode (mB Lw_isChanged) 335 = .ok (.istore 13, 2) := by decide +kernel
theorem dLw_isChanged_337 : decode (mB Lw_isChanged) 337 = .ok (.iload 13, 2) := by decide +kernel
theorem dLw_isChanged_339 : decode (mB Lw_isChanged) 339 = .ok (.ifCond .lt 100, 3) := by decide +kernel
theorem dLw_isChanged_342 : decode (mB Lw_isChanged) 342 = .ok (.aload_n 1, 1) := by decide +kernel
theorem dLw_isChanged_343 : decode (mB Lw_isChanged) 343 = .ok (.iload 13, 2) := by decide +kernel
theorem dLw_isChanged_345 : decode (mB Lw_isChanged) 345 = .ok (.invokestatic 7, 3) := by decide +kernel
theorem dLw_isChanged_348 : decode (mB Lw_isChanged) 348 = .ok (.iload 5, 2) := by decide +kernel
theorem dLw_isChanged_350 : decode (mB Lw_isChanged) 350 = .ok (.if_icmp .ne 20, 3) := by decide +kernel
theorem dLw_isChanged_353 : decode (mB Lw_isChanged) 353 = .ok (.iload 12, 2) := by decide +kernel
theorem dLw_isChanged_355 : decode (mB Lw_isChanged) 355 = .ok (.iload 11, 2) := by decide +kernel
theorem dLw_isChanged_357 : decode (mB Lw_isChanged) 357 = .ok (.iconst 1, 1) := by decide +kernel
theorem dLw_isChanged_358 : decode (mB Lw_isChanged) 358 = .ok (.isub, 1) := by decide +kernel
theorem dLw_isChanged_359 : decode (mB Lw_isChanged) 359 = .ok (.if_icmp .ne 7, 3) := by decide +kernel
theorem dLw_isChanged_362 : decode (mB Lw_isChanged) 362 = .ok (.iconst 1, 1) := by decide +kernel
theorem dLw_isChanged_363 : decode (mB Lw_isChanged) 363 = .ok (.goto 54, 3) := by decide +kernel
theorem dLw_isChanged_366 : decode (mB Lw_isChanged) 366 = .ok (.iconst 0, 1) := by decide +kernel
theorem dLw_isChanged_367 : decode (mB Lw_isChanged) 367 = .ok (.goto 50, 3) := by decide +kernel
theorem dLw_isChanged_370 : decode (mB Lw_isChanged) 370 = .ok (.aload_n 1, 1) := by decide +kernel
theorem dLw_isChanged_371 : decode (mB Lw_isChanged) 371 = .ok (.iload 13, 2) := by decide +kernel
theorem dLw_isChanged_373 : decode (mB Lw_isChanged) 373 = .ok (.invokestatic 7, 3) := by decide +kernel
theorem dLw_isChanged_376 : decode (mB Lw_isChanged) 376 = .ok (.iload 5, 2) := by decide +kernel
theorem dLw_isChanged_378 : decode (mB Lw_isChanged) 378 = .ok (.if_icmp .eq 38, 3) := by decide +kernel
theorem dLw_isChanged_381 : decode (mB Lw_isChanged) 381 = .ok (.aload_n 1, 1) := by decide +kernel
theorem dLw_isChanged_382 : decode (mB Lw_isChanged) 382 = .ok (.aload_n 1, 1) := by decide +kernel
theorem dLw_isChanged_383 : decode (mB Lw_isChanged) 383 = .ok (.iload 13, 2) := by decide +kernel
theorem dLw_isChanged_385 : decode (mB Lw_isChanged) 385 = .ok (.invokestatic 7, 3) := by decide +kernel
theorem dLw_isChanged_388 : decode (mB Lw_isChanged) 388 = .ok (.iload 5, 2) := by decide +kernel
theorem dLw_isChanged_390 : decode (mB Lw_isChanged) 390 = .ok (.invokestatic 143, 3) := by decide +kernel
theorem dLw_isChanged_393 : decode (mB Lw_isChanged) 393 = .ok (.ifCond .eq 23, 3) := by decide +kernel
theorem dLw_isChanged_396 : decode (mB Lw_isChanged) 396 = .ok (.aload_n 1, 1) := by decide +kernel
theorem dLw_isChanged_397 : decode (mB Lw_isChanged) 397 = .ok (.aload_n 2, 1) := by decide +kernel
theorem dLw_isChanged_398 : decode (mB Lw_isChanged) 398 = .ok (.aload_n 1, 1) := by decide +kernel
theorem dLw_isChanged_399 : decode (mB Lw_isChanged) 399 = .ok (.iload 13, 2) := by decide +kernel
theorem dLw_isChanged_401 : decode (mB Lw_isChanged) 401 = .ok (.invokestatic 7, 3) := by decide +kernel
theorem dLw_isChanged_404 : decode (mB Lw_isChanged) 404 = .ok (.aload 7, 2) := by decide +kernel
theorem dLw_isChanged_406 : decode (mB Lw_isChanged) 406 = .ok (.invokestatic 36, 3) := by decide +kernel
theorem dLw_isChanged_409 : decode (mB Lw_isChanged) 409 = .ok (.ifCond .ne 7, 3) := by decide +kernel
theorem dLw_isChanged_412 : decode (mB Lw_isChanged) 412 = .ok (.iconst 1, 1) := by decide +kernel
theorem dLw_isChanged_413 : decode (mB Lw_isChanged) 413 = .ok (.goto 4, 3) := by decide +kernel
theorem dLw_isChanged_416 : decode (mB Lw_isChanged) 416 = .ok (.iconst 0, 1) := by decide +kernel
theorem dLw_isChanged_417 : decode (mB Lw_isChanged) 417 = .ok (.istore 14, 2) := by decide +kernel
theorem dLw_isChanged_419 : decode (mB Lw_isChanged) 419 = .ok (.iload 14, 2) := by decide +kernel
theorem dLw_isChanged_421 : decode (mB Lw_isChanged) 421 = .ok (.ifCond .eq 12, 3) := by decide +kernel
theorem dLw_isChanged_424 : decode (mB Lw_isChanged) 424 = .ok (.aload_n 1, 1) := by decide +kernel
theorem dLw_isChanged_425 : decode (mB Lw_isChanged) 425 = .ok (.iload 13, 2) := by decide +kernel
theorem dLw_isChanged_427 : decode (mB Lw_isChanged) 427 = .ok (.invokestatic 147, 3) := by decide +kernel
theorem dLw_isChanged_430 : decode (mB Lw_isChanged) 430 = .ok (.iinc 10 1, 3) := by decide +kernel
theorem dLw_isChanged_433 : decode (mB Lw_isChanged) 433 = .ok (.iinc 13 (-1), 3) := by decide +kernel
theorem dLw_isChanged_436 : decode (mB Lw_isChanged) 436 = .ok (.goto (-99), 3) := by decide +kernel
theorem dLw_isChanged_439 : decode (mB Lw_isChanged) 439 = .ok (.iinc 12 1, 3) := by decide +kernel
theorem dLw_isChanged_442 : decode (mB Lw_isChanged) 442 = .ok (.goto (-124), 3) := by decide +kernel
theorem dLw_isChanged_445 : decode (mB Lw_isChanged) 445 = .ok (.iload 9, 2) := by decide +kernel
theorem dLw_isChanged_447 : decode (mB Lw_isChanged) 447 = .ok (.ifCond .ne 12, 3) := by decide +kernel
theorem dLw_isChanged_450 : decode (mB Lw_isChanged) 450 = .ok (.aload_n 1, 1) := by decide +kernel
theorem dLw_isChanged_451 : decode (mB Lw_isChanged) 451 = .ok (.iload 5, 2) := by decide +kernel
theorem dLw_isChanged_453 : decode (mB Lw_isChanged) 453 = .ok (.invokestatic 40, 3) := by decide +kernel
theorem dLw_isChanged_456 : decode (mB Lw_isChanged) 456 = .ok (.ifCond .ge 27, 3) := by decide +kernel
theorem dLw_isChanged_459 : decode (mB Lw_isChanged) 459 = .ok (.aload_n 0, 1) := by decide +kernel
theorem dLw_isChanged_460 : decode (mB Lw_isChanged) 460 = .ok (.iconst 5, 1) := by decide +kernel
theorem dLw_isChanged_461 : decode (mB Lw_isChanged) 461 = .ok (.iload 5, 2) := by decide +kernel
theorem dLw_isChanged_463 : decode (mB Lw_isChanged) 463 = .ok (.iconst 0, 1) := by decide +kernel
theorem dLw_isChanged_464 : decode (mB Lw_isChanged) 464 = .ok (.iconst 0, 1) := by decide +kernel
theorem dLw_isChanged_465 : decode (mB Lw_isChanged) 465 = .ok (.invokestatic 135, 3) := by decide +kernel
theorem dLw_isChanged_468 : decode (mB Lw_isChanged) 468 = .ok (.iload 9, 2) := by decide +kernel
theorem dLw_isChanged_470 : decode (mB Lw_isChanged) 470 = .ok (.ifCond .eq 8, 3) := by decide +kernel
theorem dLw_isChanged_473 : decode (mB Lw_isChanged) 473 = .ok (.iload 10, 2) := by decide +kernel
theorem dLw_isChanged_475 : decode (mB Lw_isChanged) 475 = .ok (.goto 5, 3) := by decide +kernel
theorem dLw_isChanged_478 : decode (mB Lw_isChanged) 478 = .ok (.bipush (-13), 2) := by decide +kernel
theorem dLw_isChanged_480 : decode (mB Lw_isChanged) 480 = .ok (.if_icmp .ne 7, 3) := by decide +kernel
theorem dLw_isChanged_483 : decode (mB Lw_isChanged) 483 = .ok (.iconst 1, 1) := by decide +kernel
theorem dLw_isChanged_484 : decode (mB Lw_isChanged) 484 = .ok (.goto 4, 3) := by decide +kernel
theorem dLw_isChanged_487 : decode (mB Lw_isChanged) 487 = .ok (.iconst 0, 1) := by decide +kernel
theorem dLw_isChanged_488 : decode (mB Lw_isChanged) 488 = .ok (.ireturn, 1) := by decide +kernel
theorem dLw_isChanged_489 : decode (mB Lw_isChanged) 489 = .ok (.aload_n 1, 1) := by decide +kernel
theorem dLw_isChanged_490 : decode (mB Lw_isChanged) 490 = .ok (.iload 5, 2) := by decide +kernel
theorem dLw_isChanged_492 : decode (mB Lw_isChanged) 492 = .ok (.invokestatic 40, 3) := by decide +kernel
theorem dLw_isChanged_495 : decode (mB Lw_isChanged) 495 = .ok (.istore 9, 2) := by decide +kernel
theorem dLw_isChanged_497 : decode (mB Lw_isChanged) 497 = .ok (.aload_n 1, 1) := by decide +kernel
theorem dLw_isChanged_498 : decode (mB Lw_isChanged) 498 = .ok (.aload_n 2, 1) := by decide +kernel
theorem dLw_isChanged_499 : decode (mB Lw_isChanged) 499 = .ok (.iload 6, 2) := by decide +kernel
theorem dLw_isChanged_501 : decode (mB Lw_isChanged) 501 = .ok (.aload 7, 2) := by decide +kernel
theorem dLw_isChanged_503 : decode (mB Lw_isChanged) 503 = .ok (.invokestatic 36, 3) := by decide +kernel
theorem dLw_isChanged_506 : decode (mB Lw_isChanged) 506 = .ok (.iload 9, 2) := by decide +kernel
theorem dLw_isChanged_508 : decode (mB Lw_isChanged) 508 = .ok (.iload 6, 2) := by decide +kernel
theorem dLw_isChanged_510 : decode (mB Lw_isChanged) 510 = .ok (.if_icmp .ne 7, 3) := by decide +kernel
theorem dLw_isChanged_513 : decode (mB Lw_isChanged) 513 = .ok (.iconst 1, 1) := by decide +kernel
theorem dLw_isChanged_514 : decode (mB Lw_isChanged) 514 = .ok (.goto 4, 3) := by decide +kernel
theorem dLw_isChanged_517 : decode (mB Lw_isChanged) 517 = .ok (.iconst 0, 1) := by decide +kernel
theorem dLw_isChanged_518 : decode (mB Lw_isChanged) 518 = .ok (.isub, 1) := by decide +kernel
theorem dLw_isChanged_519 : decode (mB Lw_isChanged) 519 = .ok (.istore 10, 2) := by decide +kernel
theorem dLw_isChanged_521 : decode (mB Lw_isChanged) 521 = .ok (.iload 4, 2) := by decide +kernel
theorem dLw_isChanged_523 : decode (mB Lw_isChanged) 523 = .ok (.sipush 4608, 3) := by decide +kernel
theorem dLw_isChanged_526 : decode (mB Lw_isChanged) 526 = .ok (.idiv, 1) := by decide +kernel
theorem dLw_isChanged_527 : decode (mB Lw_isChanged) 527 = .ok (.iload 10, 2) := by decide +kernel
theorem dLw_isChanged_529 : decode (mB Lw_isChanged) 529 = .ok (.iconst 1, 1) := by decide +kernel
theorem dLw_isChanged_530 : decode (mB Lw_isChanged) 530 = .ok (.iadd, 1) := by decide +kernel
theorem dLw_isChanged_531 : decode (mB Lw_isChanged) 531 = .ok (.irem, 1) := by decide +kernel
theorem dLw_isChanged_532 : decode (mB Lw_isChanged) 532 = .ok (.istore 11, 2) := by decide +kernel
theorem dLw_isChanged_534 : decode (mB Lw_isChanged) 534 = .ok (.iload 9, 2) := by decide +kernel
theorem dLw_isChanged_536 : decode (mB Lw_isChanged) 536 = .ok (.ifCond .lt 18, 3) := by decide +kernel
theorem dLw_isChanged_539 : decode (mB Lw_isChanged) 539 = .ok (.aload_n 1, 1) := by decide +kernel
theorem dLw_isChanged_540 : decode (mB Lw_isChanged) 540 = .ok (.iload 6, 2) := by decide +kernel
theorem dLw_isChanged_542 : decode (mB Lw_isChanged) 542 = .ok (.iload 5, 2) := by decide +kernel
theorem dLw_isChanged_544 : decode (mB Lw_isChanged) 544 = .ok (.invokestatic 143, 3) := by decide +kernel
theorem dLw_isChanged_547 : decode (mB Lw_isChanged) 547 = .ok (.ifCond .ne 7, 3) := by decide +kernel
theorem dLw_isChanged_550 : decode (mB Lw_isChanged) 550 = .ok (.iconst 1, 1) := by decide +kernel
theorem dLw_isChanged_551 : decode (mB Lw_isChanged) 551 = .ok (.goto 4, 3) := by decide +kernel
theorem dLw_isChanged_554 : decode (mB Lw_isChanged) 554 = .ok (.iconst 0, 1) := by decide +kernel
theorem dLw_isChanged_555 : decode (mB Lw_isChanged) 555 = .ok (.istore 12, 2) := by decide +kernel
theorem dLw_isChanged_557 : decode (mB Lw_isChanged) 557 = .ok (.iload 12, 2) := by decide +kernel
theorem dLw_isChanged_559 : decode (mB Lw_isChanged) 559 = .ok (.ifCond .eq 53, 3) := by decide +kernel
theorem dLw_isChanged_562 : decode (mB Lw_isChanged) 562 = .ok (.aload_n 1, 1) := by decide +kernel
theorem dLw_isChanged_563 : decode (mB Lw_isChanged) 563 = .ok (.iconst 1, 1) := by decide +kernel
theorem dLw_isChanged_564 : decode (mB Lw_isChanged) 564 = .ok (.aload_n 1, 1) := by decide +kernel
theorem dLw_isChanged_565 : decode (mB Lw_isChanged) 565 = .ok (.iload 5, 2) := by decide +kernel
theorem dLw_isChanged_567 : decode (mB Lw_isChanged) 567 = .ok (.invokestatic 13, 3) := by decide +kernel
theorem dLw_isChanged_570 : decode (mB Lw_isChanged) 570 = .ok (.iadd, 1) := by decide +kernel
theorem dLw_isChanged_571 : decode (mB Lw_isChanged) 571 = .ok (.iaload, 1) := by decide +kernel
theorem dLw_isChanged_572 : decode (mB Lw_isChanged) 572 = .ok (.sipush 8192, 3) := by decide +kernel
theorem dLw_isChanged_575 : decode (mB Lw_isChanged) 575 = .ok (.irem, 1) := by decide +kernel
theorem dLw_isChanged_576 : decode (mB Lw_isChanged) 576 = .ok (.istore 13, 2) := by decide +kernel
theorem dLw_isChanged_578 : decode (mB Lw_isChanged) 578 = .ok (.aload_n 1, 1) := by decide +kernel
theorem dLw_isChanged_579 : decode (mB Lw_isChanged) 579 = .ok (.aload_n 1, 1) := by decide +kernel
theorem dLw_isChanged_580 : decode (mB Lw_isChanged) 580 = .ok (.iload 5, 2) := by decide +kernel
theorem dLw_isChanged_582 : decode (mB Lw_isChanged) 582 = .ok (.invokestatic 13, 3) := by decide +kernel
theorem dLw_isChanged_585 : decode (mB Lw_isChanged) 585 = .ok (.invokestatic 147, 3) := by decide +kernel
theorem dLw_isChanged_588 : decode (mB Lw_isChanged) 588 = .ok (.aload_n 1, 1) := by decide +kernel
theorem dLw_isChanged_589 : decode (mB Lw_isChanged) 589 = .ok (.aload_n 1, 1) := by decide +kernel
theorem dLw_isChanged_590 : decode (mB Lw_isChanged) 590 = .ok (.aload_n 2, 1) := by decide +kernel
theorem dLw_isChanged_591 : decode (mB Lw_isChanged) 591 = .ok (.iload 6, 2) := by decide +kernel
theorem dLw_isChanged_593 : decode (mB Lw_isChanged) 593 = .ok (.iload 11, 2) := by decide +kernel
theorem dLw_isChanged_595 : decode (mB Lw_isChanged) 595 = .ok (.invokestatic 139, 3) := by decide +kernel
theorem dLw_isChanged_598 : decode (mB Lw_isChanged) 598 = .ok (.iload 13, 2) := by decide +kernel
theorem dLw_isChanged_600 : decode (mB Lw_isChanged) 600 = .ok (.sipush 8192, 3) := by decide +kernel
theorem dLw_isChanged_603 : decode (mB Lw_isChanged) 603 = .ok (.iload 6, 2) := by decide +kernel
theorem dLw_isChanged_605 : decode (mB Lw_isChanged) 605 = .ok (.iconst 1, 1) := by decide +kernel
theorem dLw_isChanged_606 : decode (mB Lw_isChanged) 606 = .ok (.iadd, 1) := by decide +kernel
theorem dLw_isChanged_607 : decode (mB Lw_isChanged) 607 = .ok (.imul, 1) := by decide +kernel
theorem dLw_isChanged_608 : decode (mB Lw_isChanged) 608 = .ok (.iadd, 1) := by decide +kernel
theorem dLw_isChanged_609 : decode (mB Lw_isChanged) 609 = .ok (.invokestatic 101, 3) := by decide +kernel
theorem dLw_isChanged_612 : decode (mB Lw_isChanged) 612 = .ok (.aload_n 0, 1) := by decide +kernel
theorem dLw_isChanged_613 : decode (mB Lw_isChanged) 613 = .ok (.iconst 4, 1) := by decide +kernel
theorem dLw_isChanged_614 : decode (mB Lw_isChanged) 614 = .ok (.iload 5, 2) := by decide +kernel
theorem dLw_isChanged_616 : decode (mB Lw_isChanged) 616 = .ok (.iload 6, 2) := by decide +kernel
theorem dLw_isChanged_618 : decode (mB Lw_isChanged) 618 = .ok (.iload 11, 2) := by decide +kernel
theorem dLw_isChanged_620 : decode (mB Lw_isChanged) 620 = .ok (.invokestatic 135, 3) := by decide +kernel
theorem dLw_isChanged_623 : decode (mB Lw_isChanged) 623 = .ok (.iload 12, 2) := by decide +kernel
theorem dLw_isChanged_625 : decode (mB Lw_isChanged) 625 = .ok (.ifCond .eq 8, 3) := by decide +kernel
theorem dLw_isChanged_628 : decode (mB Lw_isChanged) 628 = .ok (.iload 9, 2) := by decide +kernel
theorem dLw_isChanged_630 : decode (mB Lw_isChanged) 630 = .ok (.goto 5, 3) := by decide +kernel
theorem dLw_isChanged_633 : decode (mB Lw_isChanged) 633 = .ok (.bipush (-13), 2) := by decide +kernel
theorem dLw_isChanged_635 : decode (mB Lw_isChanged) 635 = .ok (.if_icmp .ne 7, 3) := by decide +kernel
theorem dLw_isChanged_638 : decode (mB Lw_isChanged) 638 = .ok (.iconst 1, 1) := by decide +kernel
theorem dLw_isChanged_639 : decode (mB Lw_isChanged) 639 = .ok (.goto 4, 3) := by decide +kernel
theorem dLw_isChanged_642 : decode (mB Lw_isChanged) 642 = .ok (.iconst 0, 1) := by decide +kernel
theorem dLw_isChanged_643 : decode (mB Lw_isChanged) 643 = .ok (.ireturn, 1) := by decide +kernel
def w_Lw_isChanged_417 (R : Int32 → tpH → Prop) (K337 : (Option Nat) → (Option Nat) → (Option Nat) → Int32 → (Option Nat) → Int32 → Int32 → Int32 → Int32 → Int32 → tpH → Prop) (x0 : Option Nat) (x1 : Option Nat) (x2 : Option Nat) (x5 : Int32) (x7 : Option Nat) (x9 : Int32) (x10 : Int32) (x11 : Int32) (x12 : Int32) (x13 : Int32) (t0 : Int32) (h : tpH) : Prop :=
  (t0 = 0 → (K337 x0 x1 x2 x5 x7 x9 x10 x11 x12 (x13 + (-1 : Int32)) h)) ∧ (¬ t0 = 0 → (w_Lw_takes x1 x13 h (fun h2 => K337 x0 x1 x2 x5 x7 x9 (x10 + (1 : Int32)) x11 x12 (x13 + (-1 : Int32)) h2)))
def b_Lw_isChanged_337 (R : Int32 → tpH → Prop) (K318 : (Option Nat) → (Option Nat) → (Option Nat) → Int32 → (Option Nat) → Int32 → Int32 → Int32 → Int32 → tpH → Prop) (Y : (Option Nat) → (Option Nat) → (Option Nat) → Int32 → (Option Nat) → Int32 → Int32 → Int32 → Int32 → Int32 → tpH → Prop) (x0 : Option Nat) (x1 : Option Nat) (x2 : Option Nat) (x5 : Int32) (x7 : Option Nat) (x9 : Int32) (x10 : Int32) (x11 : Int32) (x12 : Int32) (x13 : Int32) (h : tpH) : Prop :=
  (x13 < 0 → (K318 x0 x1 x2 x5 x7 x9 x10 x11 (x12 + (1 : Int32)) h)) ∧ (¬ x13 < 0 → (w_Lw_mark x1 x13 h (fun v3 h2 => (¬ v3 = x5 → (w_Lw_mark x1 x13 h2 (fun v6 h5 => (v6 = x5 → (w_Lw_isChanged_417 R Y x0 x1 x2 x5 x7 x9 x10 x11 x12 x13 (0 : Int32) h5)) ∧ (¬ v6 = x5 → (w_Lw_mark x1 x13 h5 (fun v9 h8 => w_Lw_isBelow x1 v9 x5 h8 (fun v11 h10 => (v11 = 0 → (w_Lw_isChanged_417 R Y x0 x1 x2 x5 x7 x9 x10 x11 x12 x13 (0 : Int32) h10)) ∧ (¬ v11 = 0 → (w_Lw_mark x1 x13 h10 (fun v14 h13 => w_Lw_children x1 x2 v14 x7 h13 (fun v16 h15 => (¬ v16 = 0 → (w_Lw_isChanged_417 R Y x0 x1 x2 x5 x7 x9 x10 x11 x12 x13 (0 : Int32) h15)) ∧ (v16 = 0 → (w_Lw_isChanged_417 R Y x0 x1 x2 x5 x7 x9 x10 x11 x12 x13 (1 : Int32) h15))))))))))))) ∧ (v3 = x5 → ((¬ x12 = (x11 - (1 : Int32)) → (w_Lw_isChanged_417 R Y x0 x1 x2 x5 x7 x9 x10 x11 x12 x13 (0 : Int32) h2)) ∧ (x12 = (x11 - (1 : Int32)) → (w_Lw_isChanged_417 R Y x0 x1 x2 x5 x7 x9 x10 x11 x12 x13 (1 : Int32) h2)))))))
def w_Lw_isChanged_337 (R : Int32 → tpH → Prop) (K318 : (Option Nat) → (Option Nat) → (Option Nat) → Int32 → (Option Nat) → Int32 → Int32 → Int32 → Int32 → tpH → Prop) : Nat → (Option Nat) → (Option Nat) → (Option Nat) → Int32 → (Option Nat) → Int32 → Int32 → Int32 → Int32 → Int32 → tpH → Prop
  | 0 => fun _ _ _ _ _ _ _ _ _ _ _ => False
  | n + 1 => b_Lw_isChanged_337 R K318 (w_Lw_isChanged_337 R K318 n)
def w_Lw_isChanged_480 (R : Int32 → tpH → Prop) (t0 : Int32) (t1 : Int32) (h : tpH) : Prop :=
  (¬ t1 = t0 → (R (0 : Int32) h)) ∧ (t1 = t0 → (R (1 : Int32) h))
def w_Lw_isChanged_459 (R : Int32 → tpH → Prop) (x0 : Option Nat) (x5 : Int32) (x9 : Int32) (x10 : Int32) (h : tpH) : Prop :=
  w_Lw_does x0 (5 : Int32) x5 (0 : Int32) (0 : Int32) h (fun v2 h1 => (x9 = 0 → (w_Lw_isChanged_480 R (-13 : Int32) v2 h1)) ∧ (¬ x9 = 0 → (w_Lw_isChanged_480 R x10 v2 h1)))
def w_Lw_isChanged_445 (R : Int32 → tpH → Prop) (x0 : Option Nat) (x1 : Option Nat) (x5 : Int32) (x9 : Int32) (x10 : Int32) (h : tpH) : Prop :=
  (¬ x9 = 0 → (w_Lw_isChanged_459 R x0 x5 x9 x10 h)) ∧ (x9 = 0 → (w_Lw_parentOf x1 x5 h (fun v3 h2 => (0 ≤ v3 → (R (1 : Int32) h2)) ∧ (¬ 0 ≤ v3 → (w_Lw_isChanged_459 R x0 x5 x9 x10 h2)))))
def b_Lw_isChanged_318 (R : Int32 → tpH → Prop) (Y : (Option Nat) → (Option Nat) → (Option Nat) → Int32 → (Option Nat) → Int32 → Int32 → Int32 → Int32 → tpH → Prop) (x0 : Option Nat) (x1 : Option Nat) (x2 : Option Nat) (x5 : Int32) (x7 : Option Nat) (x9 : Int32) (x10 : Int32) (x11 : Int32) (x12 : Int32) (h : tpH) : Prop :=
  (x11 ≤ x12 → (w_Lw_isChanged_445 R x0 x1 x5 x9 x10 h)) ∧ (¬ x11 ≤ x12 → ((x9 = 0 → (w_Lw_isChanged_445 R x0 x1 x5 x9 x10 h)) ∧ (¬ x9 = 0 → (∃ a3, x1 = some a3 ∧ hT h a3 = 15 ∧ (vp_in (0 : Int32) (hL h a3) ∧ (∃ n, w_Lw_isChanged_337 R Y n x0 x1 x2 x5 x7 x9 x10 x11 x12 ((hI h a3 (0 : Int32).toNatClampNeg) - (1 : Int32)) h))))))
def w_Lw_isChanged_318 (R : Int32 → tpH → Prop) : Nat → (Option Nat) → (Option Nat) → (Option Nat) → Int32 → (Option Nat) → Int32 → Int32 → Int32 → Int32 → tpH → Prop
  | 0 => fun _ _ _ _ _ _ _ _ _ _ => False
  | n + 1 => b_Lw_isChanged_318 R (w_Lw_isChanged_318 R n)
def w_Lw_isChanged_305 (R : Int32 → tpH → Prop) (x0 : Option Nat) (x1 : Option Nat) (x2 : Option Nat) (x5 : Int32) (x7 : Option Nat) (t0 : Int32) (h : tpH) : Prop :=
  ∃ a1, x1 = some a1 ∧ hT h a1 = 15 ∧ (vp_in (0 : Int32) (hL h a1) ∧ (∃ n, w_Lw_isChanged_318 R n x0 x1 x2 x5 x7 t0 (0 : Int32) (hI h a1 (0 : Int32).toNatClampNeg) (0 : Int32) h))
def w_Lw_isChanged_635 (R : Int32 → tpH → Prop) (t0 : Int32) (t1 : Int32) (h : tpH) : Prop :=
  (¬ t1 = t0 → (R (0 : Int32) h)) ∧ (t1 = t0 → (R (1 : Int32) h))
def w_Lw_isChanged_612 (R : Int32 → tpH → Prop) (x0 : Option Nat) (x5 : Int32) (x6 : Int32) (x9 : Int32) (x11 : Int32) (x12 : Int32) (h : tpH) : Prop :=
  w_Lw_does x0 (4 : Int32) x5 x6 x11 h (fun v2 h1 => (x12 = 0 → (w_Lw_isChanged_635 R (-13 : Int32) v2 h1)) ∧ (¬ x12 = 0 → (w_Lw_isChanged_635 R x9 v2 h1)))
def w_Lw_isChanged_555 (R : Int32 → tpH → Prop) (x0 : Option Nat) (x1 : Option Nat) (x2 : Option Nat) (x5 : Int32) (x6 : Int32) (x9 : Int32) (x11 : Int32) (t0 : Int32) (h : tpH) : Prop :=
  (t0 = 0 → (w_Lw_isChanged_612 R x0 x5 x6 x9 x11 t0 h)) ∧ (¬ t0 = 0 → (w_Lw_place x1 x5 h (fun v3 h2 => ∃ a4, x1 = some a4 ∧ hT h2 a4 = 15 ∧ (vp_in ((1 : Int32) + v3) (hL h2 a4) ∧ (w_Lw_place x1 x5 h2 (fun v9 h8 => w_Lw_takes x1 v9 h8 (fun h10 => w_Lw_spot x1 x2 x6 x11 h10 (fun v12 h11 => w_Lw_puts x1 v12 (((hI h2 a4 ((1 : Int32) + v3).toNatClampNeg) - (hI h2 a4 ((1 : Int32) + v3).toNatClampNeg) / (8192 : Int32) * (8192 : Int32)) + ((8192 : Int32) * (x6 + (1 : Int32)))) h11 (fun h13 => w_Lw_isChanged_612 R x0 x5 x6 x9 x11 t0 h13)))))))))
def w_Lw_isChanged_518 (R : Int32 → tpH → Prop) (x0 : Option Nat) (x1 : Option Nat) (x2 : Option Nat) (x4 : Int32) (x5 : Int32) (x6 : Int32) (x9 : Int32) (t0 : Int32) (t1 : Int32) (h : tpH) : Prop :=
  ¬ ((t1 - t0) + (1 : Int32)) = 0 ∧ ((x9 < 0 → (w_Lw_isChanged_555 R x0 x1 x2 x5 x6 x9 ((x4 / (4608 : Int32)) - (x4 / (4608 : Int32)) / ((t1 - t0) + (1 : Int32)) * ((t1 - t0) + (1 : Int32))) (0 : Int32) h)) ∧ (¬ x9 < 0 → (w_Lw_isBelow x1 x6 x5 h (fun v4 h3 => (¬ v4 = 0 → (w_Lw_isChanged_555 R x0 x1 x2 x5 x6 x9 ((x4 / (4608 : Int32)) - (x4 / (4608 : Int32)) / ((t1 - t0) + (1 : Int32)) * ((t1 - t0) + (1 : Int32))) (0 : Int32) h3)) ∧ (v4 = 0 → (w_Lw_isChanged_555 R x0 x1 x2 x5 x6 x9 ((x4 / (4608 : Int32)) - (x4 / (4608 : Int32)) / ((t1 - t0) + (1 : Int32)) * ((t1 - t0) + (1 : Int32))) (1 : Int32) h3))))))
def w_Lw_isChanged_199 (R : Int32 → tpH → Prop) (x0 : Option Nat) (x1 : Option Nat) (x2 : Option Nat) (x4 : Int32) (x5 : Int32) (x6 : Int32) (x7 : Option Nat) (x8 : Int32) (h : tpH) : Prop :=
  ((5 : Int32) ≤ x8 → ((¬ x8 = (7 : Int32) → (w_Lw_parentOf x1 x5 h (fun v4 h3 => w_Lw_children x1 x2 x6 x7 h3 (fun v6 h5 => (¬ v4 = x6 → (w_Lw_isChanged_518 R x0 x1 x2 x4 x5 x6 v4 (0 : Int32) v6 h5)) ∧ (v4 = x6 → (w_Lw_isChanged_518 R x0 x1 x2 x4 x5 x6 v4 (1 : Int32) v6 h5)))))) ∧ (x8 = (7 : Int32) → (w_Lw_parentOf x1 x5 h (fun v9 h8 => (v9 < 0 → (w_Lw_isChanged_305 R x0 x1 x2 x5 x7 (0 : Int32) h8)) ∧ (¬ v9 < 0 → ((¬ ((x4 / (4608 : Int32)) - (x4 / (4608 : Int32)) / (2 : Int32) * (2 : Int32)) = 0 → (w_Lw_isChanged_305 R x0 x1 x2 x5 x7 (0 : Int32) h8)) ∧ (((x4 / (4608 : Int32)) - (x4 / (4608 : Int32)) / (2 : Int32) * (2 : Int32)) = 0 → (w_Lw_isChanged_305 R x0 x1 x2 x5 x7 (1 : Int32) h8))))))))) ∧ (¬ (5 : Int32) ≤ x8 → (w_Lw_valueOf x1 x5 h (fun v13 h12 => w_Lw_place x1 x5 h12 (fun v15 h14 => ∃ a16, x1 = some a16 ∧ hT h14 a16 = 15 ∧ (vp_in ((1 : Int32) + v15) (hL h14 a16) ∧ (vp_in ((1 : Int32) + v15) (hL h14 a16) ∧ (∀ h21, h21 = sI h14 a16 ((1 : Int32) + v15).toNatClampNeg ((hI h14 a16 ((1 : Int32) + v15).toNatClampNeg) + ((64 : Int32) * (((x4 / (4608 : Int32)) - (x4 / (4608 : Int32)) / (9 : Int32) * (9 : Int32)) - v13))) → (w_Lw_does x0 (3 : Int32) x5 ((x4 / (4608 : Int32)) - (x4 / (4608 : Int32)) / (9 : Int32) * (9 : Int32)) (0 : Int32) h21 (fun v24 h23 => (¬ v24 = v13 → (R (0 : Int32) h23)) ∧ (v24 = v13 → (R (1 : Int32) h23)))))))))))
def w_Lw_isChanged (x0 : Option Nat) (x1 : Option Nat) (x2 : Option Nat) (x3 : Option Nat) (x4 : Int32) (h : tpH) (R : Int32 → tpH → Prop) : Prop :=
  ∃ a1, x1 = some a1 ∧ hT h a1 = 15 ∧ (vp_in (0 : Int32) (hL h a1) ∧ (¬ (hI h a1 (0 : Int32).toNatClampNeg) = 0 ∧ (w_Lw_mark x1 (x4 - x4 / (hI h a1 (0 : Int32).toNatClampNeg) * (hI h a1 (0 : Int32).toNatClampNeg)) h (fun v7 h6 => hT h6 a1 = 15 ∧ (vp_in (0 : Int32) (hL h6 a1) ∧ (¬ (hI h6 a1 (0 : Int32).toNatClampNeg) = 0 ∧ (w_Lw_mark x1 ((x4 / (24 : Int32)) - (x4 / (24 : Int32)) / (hI h6 a1 (0 : Int32).toNatClampNeg) * (hI h6 a1 (0 : Int32).toNatClampNeg)) h6 (fun v12 h11 => ∀ a13 h14, a13 = hZ h11 → h14 = nC h11 15 40 40 → (((3 : Int32) ≤ ((x4 / (576 : Int32)) - (x4 / (576 : Int32)) / (8 : Int32) * (8 : Int32)) → (w_Lw_isChanged_199 R x0 x1 x2 x4 v7 v12 (some a13) ((x4 / (576 : Int32)) - (x4 / (576 : Int32)) / (8 : Int32) * (8 : Int32)) h14)) ∧ (¬ (3 : Int32) ≤ ((x4 / (576 : Int32)) - (x4 / (576 : Int32)) / (8 : Int32) * (8 : Int32)) → (∃ a18, x3 = some a18 ∧ hT h14 a18 = 15 ∧ (vp_in (0 : Int32) (hL h14 a18) ∧ (((22 : Int32) ≤ (hI h14 a18 (0 : Int32).toNatClampNeg) → (w_Lw_isChanged_199 R x0 x1 x2 x4 v7 v12 (some a13) ((x4 / (576 : Int32)) - (x4 / (576 : Int32)) / (8 : Int32) * (8 : Int32)) h14)) ∧ (¬ (22 : Int32) ≤ (hI h14 a18 (0 : Int32).toNatClampNeg) → (hT h14 a1 = 15 ∧ (vp_in (0 : Int32) (hL h14 a1) ∧ (((20 : Int32) ≤ (hI h14 a1 (0 : Int32).toNatClampNeg) → (w_Lw_isChanged_199 R x0 x1 x2 x4 v7 v12 (some a13) ((x4 / (576 : Int32)) - (x4 / (576 : Int32)) / (8 : Int32) * (8 : Int32)) h14)) ∧ (¬ (20 : Int32) ≤ (hI h14 a1 (0 : Int32).toNatClampNeg) → (w_Lw_children x1 x2 v7 (some a13) h14 (fun v27 h26 => ¬ (v27 + (1 : Int32)) = 0 ∧ (w_Lw_spot x1 x2 v7 ((x4 / (27648 : Int32)) - (x4 / (27648 : Int32)) / (v27 + (1 : Int32)) * (v27 + (1 : Int32))) h26 (fun v30 h29 => hT h29 a18 = 15 ∧ (vp_in (0 : Int32) (hL h29 a18) ∧ (∃ a33, x2 = some a33 ∧ hT h29 a33 = 15 ∧ (vp_in (hI h29 a18 (0 : Int32).toNatClampNeg) (hL h29 a33) ∧ (∀ h37, h37 = sI h29 a33 (hI h29 a18 (0 : Int32).toNatClampNeg).toNatClampNeg ((x4 / (4608 : Int32)) - (x4 / (4608 : Int32)) / (6 : Int32) * (6 : Int32)) → (vp_in (0 : Int32) (hL h37 a18) ∧ (w_Lw_puts x1 v30 (((hI h37 a18 (0 : Int32).toNatClampNeg) + ((64 : Int32) * (x4 - x4 / (9 : Int32) * (9 : Int32)))) + ((8192 : Int32) * (v7 + (1 : Int32)))) h37 (fun h40 => hT h40 a18 = 15 ∧ (vp_in (0 : Int32) (hL h40 a18) ∧ (vp_in (0 : Int32) (hL h40 a18) ∧ (∀ h44, h44 = sI h40 a18 (0 : Int32).toNatClampNeg ((hI h40 a18 (0 : Int32).toNatClampNeg) + (1 : Int32)) → (w_Lw_does x0 (2 : Int32) v7 ((x4 / (27648 : Int32)) - (x4 / (27648 : Int32)) / (v27 + (1 : Int32)) * (v27 + (1 : Int32))) ((((x4 / (4608 : Int32)) - (x4 / (4608 : Int32)) / (6 : Int32) * (6 : Int32)) + ((10 : Int32) * (x4 - x4 / (9 : Int32) * (9 : Int32)))) + ((1000 : Int32) * ((x4 / (7 : Int32)) - (x4 / (7 : Int32)) / (4 : Int32) * (4 : Int32)))) h44 (fun v47 h46 => hT h46 a18 = 15 ∧ (vp_in (0 : Int32) (hL h46 a18) ∧ ((¬ v47 = ((hI h46 a18 (0 : Int32).toNatClampNeg) - (1 : Int32)) → (R (0 : Int32) h46)) ∧ (v47 = ((hI h46 a18 (0 : Int32).toNatClampNeg) - (1 : Int32)) → (R (1 : Int32) h46))))))))))))))))))))))))))))))))))))))
theorem s_Lw_isChanged_417 {h0 : tpH} {av : List tpV} {R : Int32 → tpH → Prop} {K337 : (Option Nat) → (Option Nat) → (Option Nat) → Int32 → (Option Nat) → Int32 → Int32 → Int32 → Int32 → Int32 → tpH → Prop} (k337 : ∀ (x0 : Option Nat) (x1 : Option Nat) (x2 : Option Nat) (x5 : Int32) (x7 : Option Nat) (x9 : Int32) (x10 : Int32) (x11 : Int32) (x12 : Int32) (x13 : Int32) (h : tpH), K337 x0 x1 x2 x5 x7 x9 x10 x11 x12 x13 h → tpR Lw_isChanged 11 h0 av (tpOi R (fun _ _ => False)) 337 [some (vR x0), some (vR x1), some (vR x2), none, none, some (vI x5), none, some (vR x7), none, some (vI x9), some (vI x10), some (vI x11), some (vI x12), some (vI x13), none] [] h) : ∀ (x0 : Option Nat) (x1 : Option Nat) (x2 : Option Nat) (x5 : Int32) (x7 : Option Nat) (x9 : Int32) (x10 : Int32) (x11 : Int32) (x12 : Int32) (x13 : Int32) (t0 : Int32) (h : tpH), w_Lw_isChanged_417 R K337 x0 x1 x2 x5 x7 x9 x10 x11 x12 x13 t0 h → tpR Lw_isChanged 11 h0 av (tpOi R (fun _ _ => False)) 417 [some (vR x0), some (vR x1), some (vR x2), none, none, some (vI x5), none, some (vR x7), none, some (vI x9), some (vI x10), some (vI x11), some (vI x12), some (vI x13), none] [vI t0] h := by
  intro x0 x1 x2 x5 x7 x9 x10 x11 x12 x13 t0 h hw
  unfold w_Lw_isChanged_417 at hw
  refine tq_istore (ls' := [some (vR x0), some (vR x1), some (vR x2), none, none, some (vI x5), none, some (vR x7), none, some (vI x9), some (vI x10), some (vI x11), some (vI x12), some (vI x13), some (vI t0)]) dLw_isChanged_417 (Nat.le_of_ble_eq_true rfl) rfl ?_
  refine tq_iload dLw_isChanged_419 rfl ?_
  refine tq_ifeq (tgt := 433) dLw_isChanged_421 (by decide) (fun c1 => ?_) (fun c1 => ?_)
  · have hw := hw.1 c1
    refine tq_inc (k := (-1 : Int32)) (ls' := [some (vR x0), some (vR x1), some (vR x2), none, none, some (vI x5), none, some (vR x7), none, some (vI x9), some (vI x10), some (vI x11), some (vI x12), some (vI (x13 + (-1 : Int32))), some (vI t0)]) dLw_isChanged_433 rfl tni_m1 (Nat.le_of_ble_eq_true rfl) rfl ?_
    refine tq_goto (tgt := 337) dLw_isChanged_436 (by decide) ?_
    refine tpR.fo (ls' := [some (vR x0), some (vR x1), some (vR x2), none, none, some (vI x5), none, some (vR x7), none, some (vI x9), some (vI x10), some (vI x11), some (vI x12), some (vI (x13 + (-1 : Int32))), none]) ?_ (And.intro rfl (And.intro rfl (And.intro rfl (And.intro rfl (And.intro rfl (And.intro rfl (And.intro rfl (And.intro rfl (And.intro rfl (And.intro rfl trivial))))))))))
    exact k337 _ _ _ _ _ _ _ _ _ _ _ hw
  · have hw := hw.2 c1
    refine tq_aload_n dLw_isChanged_424 rfl rfl ?_
    refine tq_iload dLw_isChanged_425 rfl ?_
    refine tq_callS ms_Lw_takes (dc := 0) (as := [vR x1, vI x13]) (rest := []) kLw_147 (Nat.le_of_ble_eq_true rfl) (Nat.le_of_ble_eq_true rfl) rfl rfl (Nat.le_of_ble_eq_true rfl) dLw_isChanged_427 (s_Lw_takes hw) (fun _ _ hx => False.elim hx) (tk_v fun h2 hw => ?_)
    refine tq_inc (k := (1 : Int32)) (ls' := [some (vR x0), some (vR x1), some (vR x2), none, none, some (vI x5), none, some (vR x7), none, some (vI x9), some (vI (x10 + (1 : Int32))), some (vI x11), some (vI x12), some (vI x13), some (vI t0)]) dLw_isChanged_430 rfl tni_1 (Nat.le_of_ble_eq_true rfl) rfl ?_
    refine tq_inc (k := (-1 : Int32)) (ls' := [some (vR x0), some (vR x1), some (vR x2), none, none, some (vI x5), none, some (vR x7), none, some (vI x9), some (vI (x10 + (1 : Int32))), some (vI x11), some (vI x12), some (vI (x13 + (-1 : Int32))), some (vI t0)]) dLw_isChanged_433 rfl tni_m1 (Nat.le_of_ble_eq_true rfl) rfl ?_
    refine tq_goto (tgt := 337) dLw_isChanged_436 (by decide) ?_
    refine tpR.fo (ls' := [some (vR x0), some (vR x1), some (vR x2), none, none, some (vI x5), none, some (vR x7), none, some (vI x9), some (vI (x10 + (1 : Int32))), some (vI x11), some (vI x12), some (vI (x13 + (-1 : Int32))), none]) ?_ (And.intro rfl (And.intro rfl (And.intro rfl (And.intro rfl (And.intro rfl (And.intro rfl (And.intro rfl (And.intro rfl (And.intro rfl (And.intro rfl trivial))))))))))
    exact k337 _ _ _ _ _ _ _ _ _ _ _ hw
theorem s_Lw_isChanged_337 {h0 : tpH} {av : List tpV} {R : Int32 → tpH → Prop} {K318 : (Option Nat) → (Option Nat) → (Option Nat) → Int32 → (Option Nat) → Int32 → Int32 → Int32 → Int32 → tpH → Prop} (k318 : ∀ (x0 : Option Nat) (x1 : Option Nat) (x2 : Option Nat) (x5 : Int32) (x7 : Option Nat) (x9 : Int32) (x10 : Int32) (x11 : Int32) (x12 : Int32) (h : tpH), K318 x0 x1 x2 x5 x7 x9 x10 x11 x12 h → tpR Lw_isChanged 11 h0 av (tpOi R (fun _ _ => False)) 318 [some (vR x0), some (vR x1), some (vR x2), none, none, some (vI x5), none, some (vR x7), none, some (vI x9), some (vI x10), some (vI x11), some (vI x12), none, none] [] h) : ∀ (n : Nat) (x0 : Option Nat) (x1 : Option Nat) (x2 : Option Nat) (x5 : Int32) (x7 : Option Nat) (x9 : Int32) (x10 : Int32) (x11 : Int32) (x12 : Int32) (x13 : Int32) (h : tpH), w_Lw_isChanged_337 R K318 n x0 x1 x2 x5 x7 x9 x10 x11 x12 x13 h → tpR Lw_isChanged 11 h0 av (tpOi R (fun _ _ => False)) 337 [some (vR x0), some (vR x1), some (vR x2), none, none, some (vI x5), none, some (vR x7), none, some (vI x9), some (vI x10), some (vI x11), some (vI x12), some (vI x13), none] [] h := by
  intro n
  induction n with
  | zero => intro x0 x1 x2 x5 x7 x9 x10 x11 x12 x13 h hw; exact False.elim hw
  | succ n ih =>
    intro x0 x1 x2 x5 x7 x9 x10 x11 x12 x13 h hw
    change b_Lw_isChanged_337 R K318 (w_Lw_isChanged_337 R K318 n) x0 x1 x2 x5 x7 x9 x10 x11 x12 x13 h at hw
    unfold b_Lw_isChanged_337 at hw
    refine tq_iload dLw_isChanged_337 rfl ?_
    refine tq_iflt (tgt := 439) dLw_isChanged_339 (by decide) (fun c1 => ?_) (fun c1 => ?_)
    · have hw := hw.1 c1
      refine tq_inc (k := (1 : Int32)) (ls' := [some (vR x0), some (vR x1), some (vR x2), none, none, some (vI x5), none, some (vR x7), none, some (vI x9), some (vI x10), some (vI x11), some (vI (x12 + (1 : Int32))), some (vI x13), none]) dLw_isChanged_439 rfl tni_1 (Nat.le_of_ble_eq_true rfl) rfl ?_
      refine tq_goto (tgt := 318) dLw_isChanged_442 (by decide) ?_
      refine tpR.fo (ls' := [some (vR x0), some (vR x1), some (vR x2), none, none, some (vI x5), none, some (vR x7), none, some (vI x9), some (vI x10), some (vI x11), some (vI (x12 + (1 : Int32))), none, none]) ?_ (And.intro rfl (And.intro rfl (And.intro rfl (And.intro rfl (And.intro rfl (And.intro rfl (And.intro rfl (And.intro rfl (And.intro rfl trivial)))))))))
      exact k318 _ _ _ _ _ _ _ _ _ _ hw
    · have hw := hw.2 c1
      refine tq_aload_n dLw_isChanged_342 rfl rfl ?_
      refine tq_iload dLw_isChanged_343 rfl ?_
      refine tq_callS ms_Lw_mark (dc := 0) (as := [vR x1, vI x13]) (rest := []) kLw_7 (Nat.le_of_ble_eq_true rfl) (Nat.le_of_ble_eq_true rfl) rfl rfl (Nat.le_of_ble_eq_true rfl) dLw_isChanged_345 (s_Lw_mark hw) (fun _ _ hx => False.elim hx) (tk_i fun v3 h2 hw => ?_)
      refine tq_iload dLw_isChanged_348 rfl ?_
      refine tq_icmpne (tgt := 370) dLw_isChanged_350 (by decide) (fun c4 => ?_) (fun c4 => ?_)
      · have hw := hw.1 c4
        refine tq_aload_n dLw_isChanged_370 rfl rfl ?_
        refine tq_iload dLw_isChanged_371 rfl ?_
        refine tq_callS ms_Lw_mark (dc := 0) (as := [vR x1, vI x13]) (rest := []) kLw_7 (Nat.le_of_ble_eq_true rfl) (Nat.le_of_ble_eq_true rfl) rfl rfl (Nat.le_of_ble_eq_true rfl) dLw_isChanged_373 (s_Lw_mark hw) (fun _ _ hx => False.elim hx) (tk_i fun v6 h5 hw => ?_)
        refine tq_iload dLw_isChanged_376 rfl ?_
        refine tq_icmpeq (tgt := 416) dLw_isChanged_378 (by decide) (fun c7 => ?_) (fun c7 => ?_)
        · have hw := hw.1 c7
          refine tq_iconst (v := (0 : Int32)) dLw_isChanged_416 tni_0 ?_
          refine tpR.fo (ls' := [some (vR x0), some (vR x1), some (vR x2), none, none, some (vI x5), none, some (vR x7), none, some (vI x9), some (vI x10), some (vI x11), some (vI x12), some (vI x13), none]) ?_ (And.intro rfl (And.intro rfl (And.intro rfl (And.intro rfl (And.intro rfl (And.intro rfl (And.intro rfl (And.intro rfl (And.intro rfl (And.intro rfl trivial))))))))))
          exact s_Lw_isChanged_417 ih _ _ _ _ _ _ _ _ _ _ _ _ hw
        · have hw := hw.2 c7
          refine tq_aload_n dLw_isChanged_381 rfl rfl ?_
          refine tq_aload_n dLw_isChanged_382 rfl rfl ?_
          refine tq_iload dLw_isChanged_383 rfl ?_
          refine tq_callS ms_Lw_mark (dc := 0) (as := [vR x1, vI x13]) (rest := [vR x1]) kLw_7 (Nat.le_of_ble_eq_true rfl) (Nat.le_of_ble_eq_true rfl) rfl rfl (Nat.le_of_ble_eq_true rfl) dLw_isChanged_385 (s_Lw_mark hw) (fun _ _ hx => False.elim hx) (tk_i fun v9 h8 hw => ?_)
          refine tq_iload dLw_isChanged_388 rfl ?_
          refine tq_callS ms_Lw_isBelow (dc := 3) (as := [vR x1, vI v9, vI x5]) (rest := []) kLw_143 (Nat.le_of_ble_eq_true rfl) (Nat.le_of_ble_eq_true rfl) rfl rfl (Nat.le_of_ble_eq_true rfl) dLw_isChanged_390 (s_Lw_isBelow hw) (fun _ _ hx => False.elim hx) (tk_i fun v11 h10 hw => ?_)
          refine tq_ifeq (tgt := 416) dLw_isChanged_393 (by decide) (fun c12 => ?_) (fun c12 => ?_)
          · have hw := hw.1 c12
            refine tq_iconst (v := (0 : Int32)) dLw_isChanged_416 tni_0 ?_
            refine tpR.fo (ls' := [some (vR x0), some (vR x1), some (vR x2), none, none, some (vI x5), none, some (vR x7), none, some (vI x9), some (vI x10), some (vI x11), some (vI x12), some (vI x13), none]) ?_ (And.intro rfl (And.intro rfl (And.intro rfl (And.intro rfl (And.intro rfl (And.intro rfl (And.intro rfl (And.intro rfl (And.intro rfl (And.intro rfl trivial))))))))))
            exact s_Lw_isChanged_417 ih _ _ _ _ _ _ _ _ _ _ _ _ hw
          · have hw := hw.2 c12
            refine tq_aload_n dLw_isChanged_396 rfl rfl ?_
            refine tq_aload_n dLw_isChanged_397 rfl rfl ?_
            refine tq_aload_n dLw_isChanged_398 rfl rfl ?_
            refine tq_iload dLw_isChanged_399 rfl ?_
            refine tq_callS ms_Lw_mark (dc := 0) (as := [vR x1, vI x13]) (rest := [vR x2, vR x1]) kLw_7 (Nat.le_of_ble_eq_true rfl) (Nat.le_of_ble_eq_true rfl) rfl rfl (Nat.le_of_ble_eq_true rfl) dLw_isChanged_401 (s_Lw_mark hw) (fun _ _ hx => False.elim hx) (tk_i fun v14 h13 hw => ?_)
            refine tq_aload dLw_isChanged_404 rfl ?_
            refine tq_callS ms_Lw_children (dc := 1) (as := [vR x1, vR x2, vI v14, vR x7]) (rest := []) kLw_36 (Nat.le_of_ble_eq_true rfl) (Nat.le_of_ble_eq_true rfl) rfl rfl (Nat.le_of_ble_eq_true rfl) dLw_isChanged_406 (s_Lw_children hw) (fun _ _ hx => False.elim hx) (tk_i fun v16 h15 hw => ?_)
            refine tq_ifne (tgt := 416) dLw_isChanged_409 (by decide) (fun c17 => ?_) (fun c17 => ?_)
            · have hw := hw.1 c17
              refine tq_iconst (v := (0 : Int32)) dLw_isChanged_416 tni_0 ?_
              refine tpR.fo (ls' := [some (vR x0), some (vR x1), some (vR x2), none, none, some (vI x5), none, some (vR x7), none, some (vI x9), some (vI x10), some (vI x11), some (vI x12), some (vI x13), none]) ?_ (And.intro rfl (And.intro rfl (And.intro rfl (And.intro rfl (And.intro rfl (And.intro rfl (And.intro rfl (And.intro rfl (And.intro rfl (And.intro rfl trivial))))))))))
              exact s_Lw_isChanged_417 ih _ _ _ _ _ _ _ _ _ _ _ _ hw
            · have hw := hw.2 c17
              refine tq_iconst (v := (1 : Int32)) dLw_isChanged_412 tni_1 ?_
              refine tq_goto (tgt := 417) dLw_isChanged_413 (by decide) ?_
              refine tpR.fo (ls' := [some (vR x0), some (vR x1), some (vR x2), none, none, some (vI x5), none, some (vR x7), none, some (vI x9), some (vI x10), some (vI x11), some (vI x12), some (vI x13), none]) ?_ (And.intro rfl (And.intro rfl (And.intro rfl (And.intro rfl (And.intro rfl (And.intro rfl (And.intro rfl (And.intro rfl (And.intro rfl (And.intro rfl trivial))))))))))
              exact s_Lw_isChanged_417 ih _ _ _ _ _ _ _ _ _ _ _ _ hw
      · have hw := hw.2 c4
        refine tq_iload dLw_isChanged_353 rfl ?_
        refine tq_iload dLw_isChanged_355 rfl ?_
        refine tq_iconst (v := (1 : Int32)) dLw_isChanged_357 tni_1 ?_
        refine tq_isub dLw_isChanged_358 ?_
        refine tq_icmpne (tgt := 366) dLw_isChanged_359 (by decide) (fun c18 => ?_) (fun c18 => ?_)
        · have hw := hw.1 c18
          refine tq_iconst (v := (0 : Int32)) dLw_isChanged_366 tni_0 ?_
          refine tq_goto (tgt := 417) dLw_isChanged_367 (by decide) ?_
          refine tpR.fo (ls' := [some (vR x0), some (vR x1), some (vR x2), none, none, some (vI x5), none, some (vR x7), none, some (vI x9), some (vI x10), some (vI x11), some (vI x12), some (vI x13), none]) ?_ (And.intro rfl (And.intro rfl (And.intro rfl (And.intro rfl (And.intro rfl (And.intro rfl (And.intro rfl (And.intro rfl (And.intro rfl (And.intro rfl trivial))))))))))
          exact s_Lw_isChanged_417 ih _ _ _ _ _ _ _ _ _ _ _ _ hw
        · have hw := hw.2 c18
          refine tq_iconst (v := (1 : Int32)) dLw_isChanged_362 tni_1 ?_
          refine tq_goto (tgt := 417) dLw_isChanged_363 (by decide) ?_
          refine tpR.fo (ls' := [some (vR x0), some (vR x1), some (vR x2), none, none, some (vI x5), none, some (vR x7), none, some (vI x9), some (vI x10), some (vI x11), some (vI x12), some (vI x13), none]) ?_ (And.intro rfl (And.intro rfl (And.intro rfl (And.intro rfl (And.intro rfl (And.intro rfl (And.intro rfl (And.intro rfl (And.intro rfl (And.intro rfl trivial))))))))))
          exact s_Lw_isChanged_417 ih _ _ _ _ _ _ _ _ _ _ _ _ hw
theorem s_Lw_isChanged_480 {h0 : tpH} {av : List tpV} {R : Int32 → tpH → Prop} : ∀ (t0 : Int32) (t1 : Int32) (h : tpH), w_Lw_isChanged_480 R t0 t1 h → tpR Lw_isChanged 11 h0 av (tpOi R (fun _ _ => False)) 480 [none, none, none, none, none, none, none, none, none, none, none, none, none, none, none] [vI t0, vI t1] h := by
  intro t0 t1 h hw
  unfold w_Lw_isChanged_480 at hw
  refine tq_icmpne (tgt := 487) dLw_isChanged_480 (by decide) (fun c1 => ?_) (fun c1 => ?_)
  · have hw := hw.1 c1
    refine tq_iconst (v := (0 : Int32)) dLw_isChanged_487 tni_0 ?_
    exact tq_iret rfl (by decide) dLw_isChanged_488 hw
  · have hw := hw.2 c1
    refine tq_iconst (v := (1 : Int32)) dLw_isChanged_483 tni_1 ?_
    refine tq_goto (tgt := 488) dLw_isChanged_484 (by decide) ?_
    exact tq_iret rfl (by decide) dLw_isChanged_488 hw
theorem s_Lw_isChanged_459 {h0 : tpH} {av : List tpV} {R : Int32 → tpH → Prop} : ∀ (x0 : Option Nat) (x5 : Int32) (x9 : Int32) (x10 : Int32) (h : tpH), w_Lw_isChanged_459 R x0 x5 x9 x10 h → tpR Lw_isChanged 11 h0 av (tpOi R (fun _ _ => False)) 459 [some (vR x0), none, none, none, none, some (vI x5), none, none, none, some (vI x9), some (vI x10), none, none, none, none] [] h := by
  intro x0 x5 x9 x10 h hw
  unfold w_Lw_isChanged_459 at hw
  refine tq_aload_n dLw_isChanged_459 rfl rfl ?_
  refine tq_iconst (v := (5 : Int32)) dLw_isChanged_460 tni_5 ?_
  refine tq_iload dLw_isChanged_461 rfl ?_
  refine tq_iconst (v := (0 : Int32)) dLw_isChanged_463 tni_0 ?_
  refine tq_iconst (v := (0 : Int32)) dLw_isChanged_464 tni_0 ?_
  refine tq_callSX ms_Lw_does (by intro hz; cases hz) (dc := 10) (as := [vR x0, vI (5 : Int32), vI x5, vI (0 : Int32), vI (0 : Int32)]) (rest := []) kLw_135 (Nat.le_of_ble_eq_true rfl) (Nat.le_of_ble_eq_true rfl) rfl rfl (Nat.le_of_ble_eq_true rfl) dLw_isChanged_465 (s_Lw_does hw) (fun _ _ hx => False.elim hx) (tk_i fun v2 h1 hw => ?_)
  refine tq_iload dLw_isChanged_468 rfl ?_
  refine tq_ifeq (tgt := 478) dLw_isChanged_470 (by decide) (fun c3 => ?_) (fun c3 => ?_)
  · have hw := hw.1 c3
    refine tq_bipush (v := (-13 : Int32)) dLw_isChanged_478 tnb_m13 ?_
    refine tpR.fo (ls' := [none, none, none, none, none, none, none, none, none, none, none, none, none, none, none]) ?_ (trivial)
    exact s_Lw_isChanged_480 _ _ _ hw
  · have hw := hw.2 c3
    refine tq_iload dLw_isChanged_473 rfl ?_
    refine tq_goto (tgt := 480) dLw_isChanged_475 (by decide) ?_
    refine tpR.fo (ls' := [none, none, none, none, none, none, none, none, none, none, none, none, none, none, none]) ?_ (trivial)
    exact s_Lw_isChanged_480 _ _ _ hw
theorem s_Lw_isChanged_445 {h0 : tpH} {av : List tpV} {R : Int32 → tpH → Prop} : ∀ (x0 : Option Nat) (x1 : Option Nat) (x5 : Int32) (x9 : Int32) (x10 : Int32) (h : tpH), w_Lw_isChanged_445 R x0 x1 x5 x9 x10 h → tpR Lw_isChanged 11 h0 av (tpOi R (fun _ _ => False)) 445 [some (vR x0), some (vR x1), none, none, none, some (vI x5), none, none, none, some (vI x9), some (vI x10), none, none, none, none] [] h := by
  intro x0 x1 x5 x9 x10 h hw
  unfold w_Lw_isChanged_445 at hw
  refine tq_iload dLw_isChanged_445 rfl ?_
  refine tq_ifne (tgt := 459) dLw_isChanged_447 (by decide) (fun c1 => ?_) (fun c1 => ?_)
  · have hw := hw.1 c1
    refine tpR.fo (ls' := [some (vR x0), none, none, none, none, some (vI x5), none, none, none, some (vI x9), some (vI x10), none, none, none, none]) ?_ (And.intro rfl (And.intro rfl (And.intro rfl (And.intro rfl trivial))))
    exact s_Lw_isChanged_459 _ _ _ _ _ hw
  · have hw := hw.2 c1
    refine tq_aload_n dLw_isChanged_450 rfl rfl ?_
    refine tq_iload dLw_isChanged_451 rfl ?_
    refine tq_callS ms_Lw_parentOf (dc := 2) (as := [vR x1, vI x5]) (rest := []) kLw_40 (Nat.le_of_ble_eq_true rfl) (Nat.le_of_ble_eq_true rfl) rfl rfl (Nat.le_of_ble_eq_true rfl) dLw_isChanged_453 (s_Lw_parentOf hw) (fun _ _ hx => False.elim hx) (tk_i fun v3 h2 hw => ?_)
    refine tq_ifge (tgt := 483) dLw_isChanged_456 (by decide) (fun c4 => ?_) (fun c4 => ?_)
    · have hw := hw.1 c4
      refine tq_iconst (v := (1 : Int32)) dLw_isChanged_483 tni_1 ?_
      refine tq_goto (tgt := 488) dLw_isChanged_484 (by decide) ?_
      exact tq_iret rfl (by decide) dLw_isChanged_488 hw
    · have hw := hw.2 c4
      refine tpR.fo (ls' := [some (vR x0), none, none, none, none, some (vI x5), none, none, none, some (vI x9), some (vI x10), none, none, none, none]) ?_ (And.intro rfl (And.intro rfl (And.intro rfl (And.intro rfl trivial))))
      exact s_Lw_isChanged_459 _ _ _ _ _ hw
theorem s_Lw_isChanged_318 {h0 : tpH} {av : List tpV} {R : Int32 → tpH → Prop} : ∀ (n : Nat) (x0 : Option Nat) (x1 : Option Nat) (x2 : Option Nat) (x5 : Int32) (x7 : Option Nat) (x9 : Int32) (x10 : Int32) (x11 : Int32) (x12 : Int32) (h : tpH), w_Lw_isChanged_318 R n x0 x1 x2 x5 x7 x9 x10 x11 x12 h → tpR Lw_isChanged 11 h0 av (tpOi R (fun _ _ => False)) 318 [some (vR x0), some (vR x1), some (vR x2), none, none, some (vI x5), none, some (vR x7), none, some (vI x9), some (vI x10), some (vI x11), some (vI x12), none, none] [] h := by
  intro n
  induction n with
  | zero => intro x0 x1 x2 x5 x7 x9 x10 x11 x12 h hw; exact False.elim hw
  | succ n ih =>
    intro x0 x1 x2 x5 x7 x9 x10 x11 x12 h hw
    change b_Lw_isChanged_318 R (w_Lw_isChanged_318 R n) x0 x1 x2 x5 x7 x9 x10 x11 x12 h at hw
    unfold b_Lw_isChanged_318 at hw
    refine tq_iload dLw_isChanged_318 rfl ?_
    refine tq_iload dLw_isChanged_320 rfl ?_
    refine tq_icmpge (tgt := 445) dLw_isChanged_322 (by decide) (fun c1 => ?_) (fun c1 => ?_)
    · have hw := hw.1 c1
      refine tpR.fo (ls' := [some (vR x0), some (vR x1), none, none, none, some (vI x5), none, none, none, some (vI x9), some (vI x10), none, none, none, none]) ?_ (And.intro rfl (And.intro rfl (And.intro rfl (And.intro rfl (And.intro rfl trivial)))))
      exact s_Lw_isChanged_445 _ _ _ _ _ _ hw
    · have hw := hw.2 c1
      refine tq_iload dLw_isChanged_325 rfl ?_
      refine tq_ifeq (tgt := 445) dLw_isChanged_327 (by decide) (fun c2 => ?_) (fun c2 => ?_)
      · have hw := hw.1 c2
        refine tpR.fo (ls' := [some (vR x0), some (vR x1), none, none, none, some (vI x5), none, none, none, some (vI x9), some (vI x10), none, none, none, none]) ?_ (And.intro rfl (And.intro rfl (And.intro rfl (And.intro rfl (And.intro rfl trivial)))))
        exact s_Lw_isChanged_445 _ _ _ _ _ _ hw
      · have hw := hw.2 c2
        refine tq_aload_n dLw_isChanged_330 rfl rfl ?_
        refine tq_iconst (v := (0 : Int32)) dLw_isChanged_331 tni_0 ?_
        obtain ⟨a3, e4, f5, hw⟩ := hw
        obtain ⟨f6, hw⟩ := hw
        refine te_iald dLw_isChanged_332 e4 (Or.inl f5) f6 ?_
        refine tq_iconst (v := (1 : Int32)) dLw_isChanged_333 tni_1 ?_
        refine tq_isub dLw_isChanged_334 ?_
        refine tq_istore (ls' := [some (vR x0), some (vR x1), some (vR x2), none, none, some (vI x5), none, some (vR x7), none, some (vI x9), some (vI x10), some (vI x11), some (vI x12), some (vI ((hI h a3 (0 : Int32).toNatClampNeg) - (1 : Int32))), none]) dLw_isChanged_335 (Nat.le_of_ble_eq_true rfl) rfl ?_
        refine tpR.fo (ls' := [some (vR x0), some (vR x1), some (vR x2), none, none, some (vI x5), none, some (vR x7), none, some (vI x9), some (vI x10), some (vI x11), some (vI x12), some (vI ((hI h a3 (0 : Int32).toNatClampNeg) - (1 : Int32))), none]) ?_ (And.intro rfl (And.intro rfl (And.intro rfl (And.intro rfl (And.intro rfl (And.intro rfl (And.intro rfl (And.intro rfl (And.intro rfl (And.intro rfl trivial))))))))))
        obtain ⟨n, hw⟩ := hw
        exact s_Lw_isChanged_337 ih n _ _ _ _ _ _ _ _ _ _ _ hw
theorem s_Lw_isChanged_305 {h0 : tpH} {av : List tpV} {R : Int32 → tpH → Prop} : ∀ (x0 : Option Nat) (x1 : Option Nat) (x2 : Option Nat) (x5 : Int32) (x7 : Option Nat) (t0 : Int32) (h : tpH), w_Lw_isChanged_305 R x0 x1 x2 x5 x7 t0 h → tpR Lw_isChanged 11 h0 av (tpOi R (fun _ _ => False)) 305 [some (vR x0), some (vR x1), some (vR x2), none, none, some (vI x5), none, some (vR x7), none, none, none, none, none, none, none] [vI t0] h := by
  intro x0 x1 x2 x5 x7 t0 h hw
  unfold w_Lw_isChanged_305 at hw
  refine tq_istore (ls' := [some (vR x0), some (vR x1), some (vR x2), none, none, some (vI x5), none, some (vR x7), none, some (vI t0), none, none, none, none, none]) dLw_isChanged_305 (Nat.le_of_ble_eq_true rfl) rfl ?_
  refine tq_iconst (v := (0 : Int32)) dLw_isChanged_307 tni_0 ?_
  refine tq_istore (ls' := [some (vR x0), some (vR x1), some (vR x2), none, none, some (vI x5), none, some (vR x7), none, some (vI t0), some (vI (0 : Int32)), none, none, none, none]) dLw_isChanged_308 (Nat.le_of_ble_eq_true rfl) rfl ?_
  refine tq_aload_n dLw_isChanged_310 rfl rfl ?_
  refine tq_iconst (v := (0 : Int32)) dLw_isChanged_311 tni_0 ?_
  obtain ⟨a1, e2, f3, hw⟩ := hw
  obtain ⟨f4, hw⟩ := hw
  refine te_iald dLw_isChanged_312 e2 (Or.inl f3) f4 ?_
  refine tq_istore (ls' := [some (vR x0), some (vR x1), some (vR x2), none, none, some (vI x5), none, some (vR x7), none, some (vI t0), some (vI (0 : Int32)), some (vI (hI h a1 (0 : Int32).toNatClampNeg)), none, none, none]) dLw_isChanged_313 (Nat.le_of_ble_eq_true rfl) rfl ?_
  refine tq_iconst (v := (0 : Int32)) dLw_isChanged_315 tni_0 ?_
  refine tq_istore (ls' := [some (vR x0), some (vR x1), some (vR x2), none, none, some (vI x5), none, some (vR x7), none, some (vI t0), some (vI (0 : Int32)), some (vI (hI h a1 (0 : Int32).toNatClampNeg)), some (vI (0 : Int32)), none, none]) dLw_isChanged_316 (Nat.le_of_ble_eq_true rfl) rfl ?_
  refine tpR.fo (ls' := [some (vR x0), some (vR x1), some (vR x2), none, none, some (vI x5), none, some (vR x7), none, some (vI t0), some (vI (0 : Int32)), some (vI (hI h a1 (0 : Int32).toNatClampNeg)), some (vI (0 : Int32)), none, none]) ?_ (And.intro rfl (And.intro rfl (And.intro rfl (And.intro rfl (And.intro rfl (And.intro rfl (And.intro rfl (And.intro rfl (And.intro rfl trivial)))))))))
  obtain ⟨n, hw⟩ := hw
  exact s_Lw_isChanged_318 n _ _ _ _ _ _ _ _ _ _ hw
theorem s_Lw_isChanged_635 {h0 : tpH} {av : List tpV} {R : Int32 → tpH → Prop} : ∀ (t0 : Int32) (t1 : Int32) (h : tpH), w_Lw_isChanged_635 R t0 t1 h → tpR Lw_isChanged 11 h0 av (tpOi R (fun _ _ => False)) 635 [none, none, none, none, none, none, none, none, none, none, none, none, none, none, none] [vI t0, vI t1] h := by
  intro t0 t1 h hw
  unfold w_Lw_isChanged_635 at hw
  refine tq_icmpne (tgt := 642) dLw_isChanged_635 (by decide) (fun c1 => ?_) (fun c1 => ?_)
  · have hw := hw.1 c1
    refine tq_iconst (v := (0 : Int32)) dLw_isChanged_642 tni_0 ?_
    exact tq_iret rfl (by decide) dLw_isChanged_643 hw
  · have hw := hw.2 c1
    refine tq_iconst (v := (1 : Int32)) dLw_isChanged_638 tni_1 ?_
    refine tq_goto (tgt := 643) dLw_isChanged_639 (by decide) ?_
    exact tq_iret rfl (by decide) dLw_isChanged_643 hw
theorem s_Lw_isChanged_612 {h0 : tpH} {av : List tpV} {R : Int32 → tpH → Prop} : ∀ (x0 : Option Nat) (x5 : Int32) (x6 : Int32) (x9 : Int32) (x11 : Int32) (x12 : Int32) (h : tpH), w_Lw_isChanged_612 R x0 x5 x6 x9 x11 x12 h → tpR Lw_isChanged 11 h0 av (tpOi R (fun _ _ => False)) 612 [some (vR x0), none, none, none, none, some (vI x5), some (vI x6), none, none, some (vI x9), none, some (vI x11), some (vI x12), none, none] [] h := by
  intro x0 x5 x6 x9 x11 x12 h hw
  unfold w_Lw_isChanged_612 at hw
  refine tq_aload_n dLw_isChanged_612 rfl rfl ?_
  refine tq_iconst (v := (4 : Int32)) dLw_isChanged_613 tni_4 ?_
  refine tq_iload dLw_isChanged_614 rfl ?_
  refine tq_iload dLw_isChanged_616 rfl ?_
  refine tq_iload dLw_isChanged_618 rfl ?_
  refine tq_callSX ms_Lw_does (by intro hz; cases hz) (dc := 10) (as := [vR x0, vI (4 : Int32), vI x5, vI x6, vI x11]) (rest := []) kLw_135 (Nat.le_of_ble_eq_true rfl) (Nat.le_of_ble_eq_true rfl) rfl rfl (Nat.le_of_ble_eq_true rfl) dLw_isChanged_620 (s_Lw_does hw) (fun _ _ hx => False.elim hx) (tk_i fun v2 h1 hw => ?_)
  refine tq_iload dLw_isChanged_623 rfl ?_
  refine tq_ifeq (tgt := 633) dLw_isChanged_625 (by decide) (fun c3 => ?_) (fun c3 => ?_)
  · have hw := hw.1 c3
    refine tq_bipush (v := (-13 : Int32)) dLw_isChanged_633 tnb_m13 ?_
    refine tpR.fo (ls' := [none, none, none, none, none, none, none, none, none, none, none, none, none, none, none]) ?_ (trivial)
    exact s_Lw_isChanged_635 _ _ _ hw
  · have hw := hw.2 c3
    refine tq_iload dLw_isChanged_628 rfl ?_
    refine tq_goto (tgt := 635) dLw_isChanged_630 (by decide) ?_
    refine tpR.fo (ls' := [none, none, none, none, none, none, none, none, none, none, none, none, none, none, none]) ?_ (trivial)
    exact s_Lw_isChanged_635 _ _ _ hw
theorem s_Lw_isChanged_555 {h0 : tpH} {av : List tpV} {R : Int32 → tpH → Prop} : ∀ (x0 : Option Nat) (x1 : Option Nat) (x2 : Option Nat) (x5 : Int32) (x6 : Int32) (x9 : Int32) (x11 : Int32) (t0 : Int32) (h : tpH), w_Lw_isChanged_555 R x0 x1 x2 x5 x6 x9 x11 t0 h → tpR Lw_isChanged 11 h0 av (tpOi R (fun _ _ => False)) 555 [some (vR x0), some (vR x1), some (vR x2), none, none, some (vI x5), some (vI x6), none, none, some (vI x9), none, some (vI x11), none, none, none] [vI t0] h := by
  intro x0 x1 x2 x5 x6 x9 x11 t0 h hw
  unfold w_Lw_isChanged_555 at hw
  refine tq_istore (ls' := [some (vR x0), some (vR x1), some (vR x2), none, none, some (vI x5), some (vI x6), none, none, some (vI x9), none, some (vI x11), some (vI t0), none, none]) dLw_isChanged_555 (Nat.le_of_ble_eq_true rfl) rfl ?_
  refine tq_iload dLw_isChanged_557 rfl ?_
  refine tq_ifeq (tgt := 612) dLw_isChanged_559 (by decide) (fun c1 => ?_) (fun c1 => ?_)
  · have hw := hw.1 c1
    refine tpR.fo (ls' := [some (vR x0), none, none, none, none, some (vI x5), some (vI x6), none, none, some (vI x9), none, some (vI x11), some (vI t0), none, none]) ?_ (And.intro rfl (And.intro rfl (And.intro rfl (And.intro rfl (And.intro rfl (And.intro rfl trivial))))))
    exact s_Lw_isChanged_612 _ _ _ _ _ _ _ hw
  · have hw := hw.2 c1
    refine tq_aload_n dLw_isChanged_562 rfl rfl ?_
    refine tq_iconst (v := (1 : Int32)) dLw_isChanged_563 tni_1 ?_
    refine tq_aload_n dLw_isChanged_564 rfl rfl ?_
    refine tq_iload dLw_isChanged_565 rfl ?_
    refine tq_callS ms_Lw_place (dc := 1) (as := [vR x1, vI x5]) (rest := [vI (1 : Int32), vR x1]) kLw_13 (Nat.le_of_ble_eq_true rfl) (Nat.le_of_ble_eq_true rfl) rfl rfl (Nat.le_of_ble_eq_true rfl) dLw_isChanged_567 (s_Lw_place hw) (fun _ _ hx => False.elim hx) (tk_i fun v3 h2 hw => ?_)
    refine tq_iadd dLw_isChanged_570 ?_
    obtain ⟨a4, e5, f6, hw⟩ := hw
    obtain ⟨f7, hw⟩ := hw
    refine te_iald dLw_isChanged_571 e5 (Or.inl f6) f7 ?_
    refine tq_sipush (v := (8192 : Int32)) dLw_isChanged_572 tns_8192 ?_
    refine tq_irem dLw_isChanged_575 (by decide) ?_
    refine tq_istore (ls' := [some (vR x0), some (vR x1), some (vR x2), none, none, some (vI x5), some (vI x6), none, none, some (vI x9), none, some (vI x11), some (vI t0), some (vI ((hI h2 a4 ((1 : Int32) + v3).toNatClampNeg) - (hI h2 a4 ((1 : Int32) + v3).toNatClampNeg) / (8192 : Int32) * (8192 : Int32))), none]) dLw_isChanged_576 (Nat.le_of_ble_eq_true rfl) rfl ?_
    refine tq_aload_n dLw_isChanged_578 rfl rfl ?_
    refine tq_aload_n dLw_isChanged_579 rfl rfl ?_
    refine tq_iload dLw_isChanged_580 rfl ?_
    refine tq_callS ms_Lw_place (dc := 1) (as := [vR x1, vI x5]) (rest := [vR x1]) kLw_13 (Nat.le_of_ble_eq_true rfl) (Nat.le_of_ble_eq_true rfl) rfl rfl (Nat.le_of_ble_eq_true rfl) dLw_isChanged_582 (s_Lw_place hw) (fun _ _ hx => False.elim hx) (tk_i fun v9 h8 hw => ?_)
    refine tq_callS ms_Lw_takes (dc := 0) (as := [vR x1, vI v9]) (rest := []) kLw_147 (Nat.le_of_ble_eq_true rfl) (Nat.le_of_ble_eq_true rfl) rfl rfl (Nat.le_of_ble_eq_true rfl) dLw_isChanged_585 (s_Lw_takes hw) (fun _ _ hx => False.elim hx) (tk_v fun h10 hw => ?_)
    refine tq_aload_n dLw_isChanged_588 rfl rfl ?_
    refine tq_aload_n dLw_isChanged_589 rfl rfl ?_
    refine tq_aload_n dLw_isChanged_590 rfl rfl ?_
    refine tq_iload dLw_isChanged_591 rfl ?_
    refine tq_iload dLw_isChanged_593 rfl ?_
    refine tq_callS ms_Lw_spot (dc := 2) (as := [vR x1, vR x2, vI x6, vI x11]) (rest := [vR x1]) kLw_139 (Nat.le_of_ble_eq_true rfl) (Nat.le_of_ble_eq_true rfl) rfl rfl (Nat.le_of_ble_eq_true rfl) dLw_isChanged_595 (s_Lw_spot hw) (fun _ _ hx => False.elim hx) (tk_i fun v12 h11 hw => ?_)
    refine tq_iload dLw_isChanged_598 rfl ?_
    refine tq_sipush (v := (8192 : Int32)) dLw_isChanged_600 tns_8192 ?_
    refine tq_iload dLw_isChanged_603 rfl ?_
    refine tq_iconst (v := (1 : Int32)) dLw_isChanged_605 tni_1 ?_
    refine tq_iadd dLw_isChanged_606 ?_
    refine tq_imul dLw_isChanged_607 ?_
    refine tq_iadd dLw_isChanged_608 ?_
    refine tq_callS ms_Lw_puts (dc := 0) (as := [vR x1, vI v12, vI (((hI h2 a4 ((1 : Int32) + v3).toNatClampNeg) - (hI h2 a4 ((1 : Int32) + v3).toNatClampNeg) / (8192 : Int32) * (8192 : Int32)) + ((8192 : Int32) * (x6 + (1 : Int32))))]) (rest := []) kLw_101 (Nat.le_of_ble_eq_true rfl) (Nat.le_of_ble_eq_true rfl) rfl rfl (Nat.le_of_ble_eq_true rfl) dLw_isChanged_609 (s_Lw_puts hw) (fun _ _ hx => False.elim hx) (tk_v fun h13 hw => ?_)
    refine tpR.fo (ls' := [some (vR x0), none, none, none, none, some (vI x5), some (vI x6), none, none, some (vI x9), none, some (vI x11), some (vI t0), none, none]) ?_ (And.intro rfl (And.intro rfl (And.intro rfl (And.intro rfl (And.intro rfl (And.intro rfl trivial))))))
    exact s_Lw_isChanged_612 _ _ _ _ _ _ _ hw
theorem s_Lw_isChanged_518 {h0 : tpH} {av : List tpV} {R : Int32 → tpH → Prop} : ∀ (x0 : Option Nat) (x1 : Option Nat) (x2 : Option Nat) (x4 : Int32) (x5 : Int32) (x6 : Int32) (x9 : Int32) (t0 : Int32) (t1 : Int32) (h : tpH), w_Lw_isChanged_518 R x0 x1 x2 x4 x5 x6 x9 t0 t1 h → tpR Lw_isChanged 11 h0 av (tpOi R (fun _ _ => False)) 518 [some (vR x0), some (vR x1), some (vR x2), none, some (vI x4), some (vI x5), some (vI x6), none, none, some (vI x9), none, none, none, none, none] [vI t0, vI t1] h := by
  intro x0 x1 x2 x4 x5 x6 x9 t0 t1 h hw
  unfold w_Lw_isChanged_518 at hw
  refine tq_isub dLw_isChanged_518 ?_
  refine tq_istore (ls' := [some (vR x0), some (vR x1), some (vR x2), none, some (vI x4), some (vI x5), some (vI x6), none, none, some (vI x9), some (vI (t1 - t0)), none, none, none, none]) dLw_isChanged_519 (Nat.le_of_ble_eq_true rfl) rfl ?_
  refine tq_iload dLw_isChanged_521 rfl ?_
  refine tq_sipush (v := (4608 : Int32)) dLw_isChanged_523 tns_4608 ?_
  refine tq_idiv dLw_isChanged_526 (by decide) ?_
  refine tq_iload dLw_isChanged_527 rfl ?_
  refine tq_iconst (v := (1 : Int32)) dLw_isChanged_529 tni_1 ?_
  refine tq_iadd dLw_isChanged_530 ?_
  obtain ⟨f1, hw⟩ := hw
  refine tq_irem dLw_isChanged_531 f1 ?_
  refine tq_istore (ls' := [some (vR x0), some (vR x1), some (vR x2), none, some (vI x4), some (vI x5), some (vI x6), none, none, some (vI x9), some (vI (t1 - t0)), some (vI ((x4 / (4608 : Int32)) - (x4 / (4608 : Int32)) / ((t1 - t0) + (1 : Int32)) * ((t1 - t0) + (1 : Int32)))), none, none, none]) dLw_isChanged_532 (Nat.le_of_ble_eq_true rfl) rfl ?_
  refine tq_iload dLw_isChanged_534 rfl ?_
  refine tq_iflt (tgt := 554) dLw_isChanged_536 (by decide) (fun c2 => ?_) (fun c2 => ?_)
  · have hw := hw.1 c2
    refine tq_iconst (v := (0 : Int32)) dLw_isChanged_554 tni_0 ?_
    refine tpR.fo (ls' := [some (vR x0), some (vR x1), some (vR x2), none, none, some (vI x5), some (vI x6), none, none, some (vI x9), none, some (vI ((x4 / (4608 : Int32)) - (x4 / (4608 : Int32)) / ((t1 - t0) + (1 : Int32)) * ((t1 - t0) + (1 : Int32)))), none, none, none]) ?_ (And.intro rfl (And.intro rfl (And.intro rfl (And.intro rfl (And.intro rfl (And.intro rfl (And.intro rfl trivial)))))))
    exact s_Lw_isChanged_555 _ _ _ _ _ _ _ _ _ hw
  · have hw := hw.2 c2
    refine tq_aload_n dLw_isChanged_539 rfl rfl ?_
    refine tq_iload dLw_isChanged_540 rfl ?_
    refine tq_iload dLw_isChanged_542 rfl ?_
    refine tq_callS ms_Lw_isBelow (dc := 3) (as := [vR x1, vI x6, vI x5]) (rest := []) kLw_143 (Nat.le_of_ble_eq_true rfl) (Nat.le_of_ble_eq_true rfl) rfl rfl (Nat.le_of_ble_eq_true rfl) dLw_isChanged_544 (s_Lw_isBelow hw) (fun _ _ hx => False.elim hx) (tk_i fun v4 h3 hw => ?_)
    refine tq_ifne (tgt := 554) dLw_isChanged_547 (by decide) (fun c5 => ?_) (fun c5 => ?_)
    · have hw := hw.1 c5
      refine tq_iconst (v := (0 : Int32)) dLw_isChanged_554 tni_0 ?_
      refine tpR.fo (ls' := [some (vR x0), some (vR x1), some (vR x2), none, none, some (vI x5), some (vI x6), none, none, some (vI x9), none, some (vI ((x4 / (4608 : Int32)) - (x4 / (4608 : Int32)) / ((t1 - t0) + (1 : Int32)) * ((t1 - t0) + (1 : Int32)))), none, none, none]) ?_ (And.intro rfl (And.intro rfl (And.intro rfl (And.intro rfl (And.intro rfl (And.intro rfl (And.intro rfl trivial)))))))
      exact s_Lw_isChanged_555 _ _ _ _ _ _ _ _ _ hw
    · have hw := hw.2 c5
      refine tq_iconst (v := (1 : Int32)) dLw_isChanged_550 tni_1 ?_
      refine tq_goto (tgt := 555) dLw_isChanged_551 (by decide) ?_
      refine tpR.fo (ls' := [some (vR x0), some (vR x1), some (vR x2), none, none, some (vI x5), some (vI x6), none, none, some (vI x9), none, some (vI ((x4 / (4608 : Int32)) - (x4 / (4608 : Int32)) / ((t1 - t0) + (1 : Int32)) * ((t1 - t0) + (1 : Int32)))), none, none, none]) ?_ (And.intro rfl (And.intro rfl (And.intro rfl (And.intro rfl (And.intro rfl (And.intro rfl (And.intro rfl trivial)))))))
      exact s_Lw_isChanged_555 _ _ _ _ _ _ _ _ _ hw
theorem s_Lw_isChanged_199 {h0 : tpH} {av : List tpV} {R : Int32 → tpH → Prop} : ∀ (x0 : Option Nat) (x1 : Option Nat) (x2 : Option Nat) (x4 : Int32) (x5 : Int32) (x6 : Int32) (x7 : Option Nat) (x8 : Int32) (h : tpH), w_Lw_isChanged_199 R x0 x1 x2 x4 x5 x6 x7 x8 h → tpR Lw_isChanged 11 h0 av (tpOi R (fun _ _ => False)) 199 [some (vR x0), some (vR x1), some (vR x2), none, some (vI x4), some (vI x5), some (vI x6), some (vR x7), some (vI x8), none, none, none, none, none, none] [] h := by
  intro x0 x1 x2 x4 x5 x6 x7 x8 h hw
  unfold w_Lw_isChanged_199 at hw
  refine tq_iload dLw_isChanged_199 rfl ?_
  refine tq_iconst (v := (5 : Int32)) dLw_isChanged_201 tni_5 ?_
  refine tq_icmpge (tgt := 273) dLw_isChanged_202 (by decide) (fun c1 => ?_) (fun c1 => ?_)
  · have hw := hw.1 c1
    refine tq_iload dLw_isChanged_273 rfl ?_
    refine tq_bipush (v := (7 : Int32)) dLw_isChanged_275 tnb_7 ?_
    refine tq_icmpne (tgt := 489) dLw_isChanged_277 (by decide) (fun c2 => ?_) (fun c2 => ?_)
    · have hw := hw.1 c2
      refine tq_aload_n dLw_isChanged_489 rfl rfl ?_
      refine tq_iload dLw_isChanged_490 rfl ?_
      refine tq_callS ms_Lw_parentOf (dc := 2) (as := [vR x1, vI x5]) (rest := []) kLw_40 (Nat.le_of_ble_eq_true rfl) (Nat.le_of_ble_eq_true rfl) rfl rfl (Nat.le_of_ble_eq_true rfl) dLw_isChanged_492 (s_Lw_parentOf hw) (fun _ _ hx => False.elim hx) (tk_i fun v4 h3 hw => ?_)
      refine tq_istore (ls' := [some (vR x0), some (vR x1), some (vR x2), none, some (vI x4), some (vI x5), some (vI x6), some (vR x7), some (vI x8), some (vI v4), none, none, none, none, none]) dLw_isChanged_495 (Nat.le_of_ble_eq_true rfl) rfl ?_
      refine tq_aload_n dLw_isChanged_497 rfl rfl ?_
      refine tq_aload_n dLw_isChanged_498 rfl rfl ?_
      refine tq_iload dLw_isChanged_499 rfl ?_
      refine tq_aload dLw_isChanged_501 rfl ?_
      refine tq_callS ms_Lw_children (dc := 1) (as := [vR x1, vR x2, vI x6, vR x7]) (rest := []) kLw_36 (Nat.le_of_ble_eq_true rfl) (Nat.le_of_ble_eq_true rfl) rfl rfl (Nat.le_of_ble_eq_true rfl) dLw_isChanged_503 (s_Lw_children hw) (fun _ _ hx => False.elim hx) (tk_i fun v6 h5 hw => ?_)
      refine tq_iload dLw_isChanged_506 rfl ?_
      refine tq_iload dLw_isChanged_508 rfl ?_
      refine tq_icmpne (tgt := 517) dLw_isChanged_510 (by decide) (fun c7 => ?_) (fun c7 => ?_)
      · have hw := hw.1 c7
        refine tq_iconst (v := (0 : Int32)) dLw_isChanged_517 tni_0 ?_
        refine tpR.fo (ls' := [some (vR x0), some (vR x1), some (vR x2), none, some (vI x4), some (vI x5), some (vI x6), none, none, some (vI v4), none, none, none, none, none]) ?_ (And.intro rfl (And.intro rfl (And.intro rfl (And.intro rfl (And.intro rfl (And.intro rfl (And.intro rfl trivial)))))))
        exact s_Lw_isChanged_518 _ _ _ _ _ _ _ _ _ _ hw
      · have hw := hw.2 c7
        refine tq_iconst (v := (1 : Int32)) dLw_isChanged_513 tni_1 ?_
        refine tq_goto (tgt := 518) dLw_isChanged_514 (by decide) ?_
        refine tpR.fo (ls' := [some (vR x0), some (vR x1), some (vR x2), none, some (vI x4), some (vI x5), some (vI x6), none, none, some (vI v4), none, none, none, none, none]) ?_ (And.intro rfl (And.intro rfl (And.intro rfl (And.intro rfl (And.intro rfl (And.intro rfl (And.intro rfl trivial)))))))
        exact s_Lw_isChanged_518 _ _ _ _ _ _ _ _ _ _ hw
    · have hw := hw.2 c2
      refine tq_aload_n dLw_isChanged_280 rfl rfl ?_
      refine tq_iload dLw_isChanged_281 rfl ?_
      refine tq_callS ms_Lw_parentOf (dc := 2) (as := [vR x1, vI x5]) (rest := []) kLw_40 (Nat.le_of_ble_eq_true rfl) (Nat.le_of_ble_eq_true rfl) rfl rfl (Nat.le_of_ble_eq_true rfl) dLw_isChanged_283 (s_Lw_parentOf hw) (fun _ _ hx => False.elim hx) (tk_i fun v9 h8 hw => ?_)
      refine tq_iflt (tgt := 304) dLw_isChanged_286 (by decide) (fun c10 => ?_) (fun c10 => ?_)
      · have hw := hw.1 c10
        refine tq_iconst (v := (0 : Int32)) dLw_isChanged_304 tni_0 ?_
        refine tpR.fo (ls' := [some (vR x0), some (vR x1), some (vR x2), none, none, some (vI x5), none, some (vR x7), none, none, none, none, none, none, none]) ?_ (And.intro rfl (And.intro rfl (And.intro rfl (And.intro rfl (And.intro rfl trivial)))))
        exact s_Lw_isChanged_305 _ _ _ _ _ _ _ hw
      · have hw := hw.2 c10
        refine tq_iload dLw_isChanged_289 rfl ?_
        refine tq_sipush (v := (4608 : Int32)) dLw_isChanged_291 tns_4608 ?_
        refine tq_idiv dLw_isChanged_294 (by decide) ?_
        refine tq_iconst (v := (2 : Int32)) dLw_isChanged_295 tni_2 ?_
        refine tq_irem dLw_isChanged_296 (by decide) ?_
        refine tq_ifne (tgt := 304) dLw_isChanged_297 (by decide) (fun c11 => ?_) (fun c11 => ?_)
        · have hw := hw.1 c11
          refine tq_iconst (v := (0 : Int32)) dLw_isChanged_304 tni_0 ?_
          refine tpR.fo (ls' := [some (vR x0), some (vR x1), some (vR x2), none, none, some (vI x5), none, some (vR x7), none, none, none, none, none, none, none]) ?_ (And.intro rfl (And.intro rfl (And.intro rfl (And.intro rfl (And.intro rfl trivial)))))
          exact s_Lw_isChanged_305 _ _ _ _ _ _ _ hw
        · have hw := hw.2 c11
          refine tq_iconst (v := (1 : Int32)) dLw_isChanged_300 tni_1 ?_
          refine tq_goto (tgt := 305) dLw_isChanged_301 (by decide) ?_
          refine tpR.fo (ls' := [some (vR x0), some (vR x1), some (vR x2), none, none, some (vI x5), none, some (vR x7), none, none, none, none, none, none, none]) ?_ (And.intro rfl (And.intro rfl (And.intro rfl (And.intro rfl (And.intro rfl trivial)))))
          exact s_Lw_isChanged_305 _ _ _ _ _ _ _ hw
  · have hw := hw.2 c1
    refine tq_aload_n dLw_isChanged_205 rfl rfl ?_
    refine tq_iload dLw_isChanged_206 rfl ?_
    refine tq_callS ms_Lw_valueOf (dc := 2) (as := [vR x1, vI x5]) (rest := []) kLw_86 (Nat.le_of_ble_eq_true rfl) (Nat.le_of_ble_eq_true rfl) rfl rfl (Nat.le_of_ble_eq_true rfl) dLw_isChanged_208 (s_Lw_valueOf hw) (fun _ _ hx => False.elim hx) (tk_i fun v13 h12 hw => ?_)
    refine tq_istore (ls' := [some (vR x0), some (vR x1), some (vR x2), none, some (vI x4), some (vI x5), some (vI x6), some (vR x7), some (vI x8), some (vI v13), none, none, none, none, none]) dLw_isChanged_211 (Nat.le_of_ble_eq_true rfl) rfl ?_
    refine tq_aload_n dLw_isChanged_213 rfl rfl ?_
    refine tq_iload dLw_isChanged_214 rfl ?_
    refine tq_callS ms_Lw_place (dc := 1) (as := [vR x1, vI x5]) (rest := []) kLw_13 (Nat.le_of_ble_eq_true rfl) (Nat.le_of_ble_eq_true rfl) rfl rfl (Nat.le_of_ble_eq_true rfl) dLw_isChanged_216 (s_Lw_place hw) (fun _ _ hx => False.elim hx) (tk_i fun v15 h14 hw => ?_)
    refine tq_istore (ls' := [some (vR x0), some (vR x1), some (vR x2), none, some (vI x4), some (vI x5), some (vI x6), some (vR x7), some (vI x8), some (vI v13), some (vI v15), none, none, none, none]) dLw_isChanged_219 (Nat.le_of_ble_eq_true rfl) rfl ?_
    refine tq_aload_n dLw_isChanged_221 rfl rfl ?_
    refine tq_iconst (v := (1 : Int32)) dLw_isChanged_222 tni_1 ?_
    refine tq_iload dLw_isChanged_223 rfl ?_
    refine tq_iadd dLw_isChanged_225 ?_
    refine tq_dup2 dLw_isChanged_226 rfl rfl ?_
    obtain ⟨a16, e17, f18, hw⟩ := hw
    obtain ⟨f19, hw⟩ := hw
    refine te_iald dLw_isChanged_227 e17 (Or.inl f18) f19 ?_
    refine tq_bipush (v := (64 : Int32)) dLw_isChanged_228 tnb_64 ?_
    refine tq_iload dLw_isChanged_230 rfl ?_
    refine tq_sipush (v := (4608 : Int32)) dLw_isChanged_232 tns_4608 ?_
    refine tq_idiv dLw_isChanged_235 (by decide) ?_
    refine tq_bipush (v := (9 : Int32)) dLw_isChanged_236 tnb_9 ?_
    refine tq_irem dLw_isChanged_238 (by decide) ?_
    refine tq_iload dLw_isChanged_239 rfl ?_
    refine tq_isub dLw_isChanged_241 ?_
    refine tq_imul dLw_isChanged_242 ?_
    refine tq_iadd dLw_isChanged_243 ?_
    obtain ⟨f20, hw⟩ := hw
    refine te_iast dLw_isChanged_244 e17 f18 f20 (fun h21 e22 => ?_)
    have hw := hw h21 e22
    refine tq_aload_n dLw_isChanged_245 rfl rfl ?_
    refine tq_iconst (v := (3 : Int32)) dLw_isChanged_246 tni_3 ?_
    refine tq_iload dLw_isChanged_247 rfl ?_
    refine tq_iload dLw_isChanged_249 rfl ?_
    refine tq_sipush (v := (4608 : Int32)) dLw_isChanged_251 tns_4608 ?_
    refine tq_idiv dLw_isChanged_254 (by decide) ?_
    refine tq_bipush (v := (9 : Int32)) dLw_isChanged_255 tnb_9 ?_
    refine tq_irem dLw_isChanged_257 (by decide) ?_
    refine tq_iconst (v := (0 : Int32)) dLw_isChanged_258 tni_0 ?_
    refine tq_callSX ms_Lw_does (by intro hz; cases hz) (dc := 10) (as := [vR x0, vI (3 : Int32), vI x5, vI ((x4 / (4608 : Int32)) - (x4 / (4608 : Int32)) / (9 : Int32) * (9 : Int32)), vI (0 : Int32)]) (rest := []) kLw_135 (Nat.le_of_ble_eq_true rfl) (Nat.le_of_ble_eq_true rfl) rfl rfl (Nat.le_of_ble_eq_true rfl) dLw_isChanged_259 (s_Lw_does hw) (fun _ _ hx => False.elim hx) (tk_i fun v24 h23 hw => ?_)
    refine tq_iload dLw_isChanged_262 rfl ?_
    refine tq_icmpne (tgt := 271) dLw_isChanged_264 (by decide) (fun c25 => ?_) (fun c25 => ?_)
    · have hw := hw.1 c25
      refine tq_iconst (v := (0 : Int32)) dLw_isChanged_271 tni_0 ?_
      exact tq_iret rfl (by decide) dLw_isChanged_272 hw
    · have hw := hw.2 c25
      refine tq_iconst (v := (1 : Int32)) dLw_isChanged_267 tni_1 ?_
      refine tq_goto (tgt := 272) dLw_isChanged_268 (by decide) ?_
      exact tq_iret rfl (by decide) dLw_isChanged_272 hw
theorem s_Lw_isChanged {x0 : Option Nat} {x1 : Option Nat} {x2 : Option Nat} {x3 : Option Nat} {x4 : Int32} {h : tpH} {R : Int32 → tpH → Prop} (hw : w_Lw_isChanged x0 x1 x2 x3 x4 h R) : tpC Lw_isChanged 11 [vR x0, vR x1, vR x2, vR x3, vI x4] h (tpOi R (fun _ _ => False)) := by
  refine tpC_of ms_Lw_isChanged.2.2.2.1 rfl rfl (Nat.le_of_ble_eq_true rfl) ?_
  show tpR Lw_isChanged 11 h _ _ 0 [some (vR x0), some (vR x1), some (vR x2), some (vR x3), some (vI x4), none, none, none, none, none, none, none, none, none, none] [] h
  unfold w_Lw_isChanged at hw
  refine tq_aload_n dLw_isChanged_0 rfl rfl ?_
  refine tq_iload dLw_isChanged_1 rfl ?_
  refine tq_aload_n dLw_isChanged_3 rfl rfl ?_
  refine tq_iconst (v := (0 : Int32)) dLw_isChanged_4 tni_0 ?_
  obtain ⟨a1, e2, f3, hw⟩ := hw
  obtain ⟨f4, hw⟩ := hw
  refine te_iald dLw_isChanged_5 e2 (Or.inl f3) f4 ?_
  obtain ⟨f5, hw⟩ := hw
  refine tq_irem dLw_isChanged_6 f5 ?_
  refine tq_callS ms_Lw_mark (dc := 0) (as := [vR x1, vI (x4 - x4 / (hI h a1 (0 : Int32).toNatClampNeg) * (hI h a1 (0 : Int32).toNatClampNeg))]) (rest := []) kLw_7 (Nat.le_of_ble_eq_true rfl) (Nat.le_of_ble_eq_true rfl) rfl rfl (Nat.le_of_ble_eq_true rfl) dLw_isChanged_7 (s_Lw_mark hw) (fun _ _ hx => False.elim hx) (tk_i fun v7 h6 hw => ?_)
  refine tq_istore (ls' := [some (vR x0), some (vR x1), some (vR x2), some (vR x3), some (vI x4), some (vI v7), none, none, none, none, none, none, none, none, none]) dLw_isChanged_10 (Nat.le_of_ble_eq_true rfl) rfl ?_
  refine tq_aload_n dLw_isChanged_12 rfl rfl ?_
  refine tq_iload dLw_isChanged_13 rfl ?_
  refine tq_bipush (v := (24 : Int32)) dLw_isChanged_15 tnb_24 ?_
  refine tq_idiv dLw_isChanged_17 (by decide) ?_
  refine tq_aload_n dLw_isChanged_18 rfl rfl ?_
  refine tq_iconst (v := (0 : Int32)) dLw_isChanged_19 tni_0 ?_
  obtain ⟨f8, hw⟩ := hw
  obtain ⟨f9, hw⟩ := hw
  refine te_iald dLw_isChanged_20 e2 (Or.inl f8) f9 ?_
  obtain ⟨f10, hw⟩ := hw
  refine tq_irem dLw_isChanged_21 f10 ?_
  refine tq_callS ms_Lw_mark (dc := 0) (as := [vR x1, vI ((x4 / (24 : Int32)) - (x4 / (24 : Int32)) / (hI h6 a1 (0 : Int32).toNatClampNeg) * (hI h6 a1 (0 : Int32).toNatClampNeg))]) (rest := []) kLw_7 (Nat.le_of_ble_eq_true rfl) (Nat.le_of_ble_eq_true rfl) rfl rfl (Nat.le_of_ble_eq_true rfl) dLw_isChanged_22 (s_Lw_mark hw) (fun _ _ hx => False.elim hx) (tk_i fun v12 h11 hw => ?_)
  refine tq_istore (ls' := [some (vR x0), some (vR x1), some (vR x2), some (vR x3), some (vI x4), some (vI v7), some (vI v12), none, none, none, none, none, none, none, none]) dLw_isChanged_25 (Nat.le_of_ble_eq_true rfl) rfl ?_
  refine tq_bipush (v := (40 : Int32)) dLw_isChanged_27 tnb_40 ?_
  refine tq_newa tpN_int (N := 40) dLw_isChanged_29 (by decide) (by decide) (Nat.le_of_ble_eq_true rfl) (fun a13 h14 e15 e16 => ?_)
  have hw := hw a13 h14 e15 e16
  refine tq_astore (ls' := [some (vR x0), some (vR x1), some (vR x2), some (vR x3), some (vI x4), some (vI v7), some (vI v12), some (vR (some a13)), none, none, none, none, none, none, none]) dLw_isChanged_31 (Nat.le_of_ble_eq_true rfl) rfl ?_
  refine tq_iload dLw_isChanged_33 rfl ?_
  refine tq_sipush (v := (576 : Int32)) dLw_isChanged_35 tns_576 ?_
  refine tq_idiv dLw_isChanged_38 (by decide) ?_
  refine tq_bipush (v := (8 : Int32)) dLw_isChanged_39 tnb_8 ?_
  refine tq_irem dLw_isChanged_41 (by decide) ?_
  refine tq_istore (ls' := [some (vR x0), some (vR x1), some (vR x2), some (vR x3), some (vI x4), some (vI v7), some (vI v12), some (vR (some a13)), some (vI ((x4 / (576 : Int32)) - (x4 / (576 : Int32)) / (8 : Int32) * (8 : Int32))), none, none, none, none, none, none]) dLw_isChanged_42 (Nat.le_of_ble_eq_true rfl) rfl ?_
  refine tq_iload dLw_isChanged_44 rfl ?_
  refine tq_iconst (v := (3 : Int32)) dLw_isChanged_46 tni_3 ?_
  refine tq_icmpge (tgt := 199) dLw_isChanged_47 (by decide) (fun c17 => ?_) (fun c17 => ?_)
  · have hw := hw.1 c17
    refine tpR.fo (ls' := [some (vR x0), some (vR x1), some (vR x2), none, some (vI x4), some (vI v7), some (vI v12), some (vR (some a13)), some (vI ((x4 / (576 : Int32)) - (x4 / (576 : Int32)) / (8 : Int32) * (8 : Int32))), none, none, none, none, none, none]) ?_ (And.intro rfl (And.intro rfl (And.intro rfl (And.intro rfl (And.intro rfl (And.intro rfl (And.intro rfl (And.intro rfl trivial))))))))
    exact s_Lw_isChanged_199 _ _ _ _ _ _ _ _ _ hw
  · have hw := hw.2 c17
    refine tq_aload_n dLw_isChanged_50 rfl rfl ?_
    refine tq_iconst (v := (0 : Int32)) dLw_isChanged_51 tni_0 ?_
    obtain ⟨a18, e19, f20, hw⟩ := hw
    obtain ⟨f21, hw⟩ := hw
    refine te_iald dLw_isChanged_52 e19 (Or.inl f20) f21 ?_
    refine tq_bipush (v := (22 : Int32)) dLw_isChanged_53 tnb_22 ?_
    refine tq_icmpge (tgt := 199) dLw_isChanged_55 (by decide) (fun c22 => ?_) (fun c22 => ?_)
    · have hw := hw.1 c22
      refine tpR.fo (ls' := [some (vR x0), some (vR x1), some (vR x2), none, some (vI x4), some (vI v7), some (vI v12), some (vR (some a13)), some (vI ((x4 / (576 : Int32)) - (x4 / (576 : Int32)) / (8 : Int32) * (8 : Int32))), none, none, none, none, none, none]) ?_ (And.intro rfl (And.intro rfl (And.intro rfl (And.intro rfl (And.intro rfl (And.intro rfl (And.intro rfl (And.intro rfl trivial))))))))
      exact s_Lw_isChanged_199 _ _ _ _ _ _ _ _ _ hw
    · have hw := hw.2 c22
      refine tq_aload_n dLw_isChanged_58 rfl rfl ?_
      refine tq_iconst (v := (0 : Int32)) dLw_isChanged_59 tni_0 ?_
      obtain ⟨f23, hw⟩ := hw
      obtain ⟨f24, hw⟩ := hw
      refine te_iald dLw_isChanged_60 e2 (Or.inl f23) f24 ?_
      refine tq_bipush (v := (20 : Int32)) dLw_isChanged_61 tnb_20 ?_
      refine tq_icmpge (tgt := 199) dLw_isChanged_63 (by decide) (fun c25 => ?_) (fun c25 => ?_)
      · have hw := hw.1 c25
        refine tpR.fo (ls' := [some (vR x0), some (vR x1), some (vR x2), none, some (vI x4), some (vI v7), some (vI v12), some (vR (some a13)), some (vI ((x4 / (576 : Int32)) - (x4 / (576 : Int32)) / (8 : Int32) * (8 : Int32))), none, none, none, none, none, none]) ?_ (And.intro rfl (And.intro rfl (And.intro rfl (And.intro rfl (And.intro rfl (And.intro rfl (And.intro rfl (And.intro rfl trivial))))))))
        exact s_Lw_isChanged_199 _ _ _ _ _ _ _ _ _ hw
      · have hw := hw.2 c25
        refine tq_iload dLw_isChanged_66 rfl ?_
        refine tq_sipush (v := (4608 : Int32)) dLw_isChanged_68 tns_4608 ?_
        refine tq_idiv dLw_isChanged_71 (by decide) ?_
        refine tq_bipush (v := (6 : Int32)) dLw_isChanged_72 tnb_6 ?_
        refine tq_irem dLw_isChanged_74 (by decide) ?_
        refine tq_istore (ls' := [some (vR x0), some (vR x1), some (vR x2), some (vR x3), some (vI x4), some (vI v7), some (vI v12), some (vR (some a13)), some (vI ((x4 / (576 : Int32)) - (x4 / (576 : Int32)) / (8 : Int32) * (8 : Int32))), some (vI ((x4 / (4608 : Int32)) - (x4 / (4608 : Int32)) / (6 : Int32) * (6 : Int32))), none, none, none, none, none]) dLw_isChanged_75 (Nat.le_of_ble_eq_true rfl) rfl ?_
        refine tq_aload_n dLw_isChanged_77 rfl rfl ?_
        refine tq_aload_n dLw_isChanged_78 rfl rfl ?_
        refine tq_iload dLw_isChanged_79 rfl ?_
        refine tq_aload dLw_isChanged_81 rfl ?_
        refine tq_callS ms_Lw_children (dc := 1) (as := [vR x1, vR x2, vI v7, vR (some a13)]) (rest := []) kLw_36 (Nat.le_of_ble_eq_true rfl) (Nat.le_of_ble_eq_true rfl) rfl rfl (Nat.le_of_ble_eq_true rfl) dLw_isChanged_83 (s_Lw_children hw) (fun _ _ hx => False.elim hx) (tk_i fun v27 h26 hw => ?_)
        refine tq_istore (ls' := [some (vR x0), some (vR x1), some (vR x2), some (vR x3), some (vI x4), some (vI v7), some (vI v12), some (vR (some a13)), some (vI ((x4 / (576 : Int32)) - (x4 / (576 : Int32)) / (8 : Int32) * (8 : Int32))), some (vI ((x4 / (4608 : Int32)) - (x4 / (4608 : Int32)) / (6 : Int32) * (6 : Int32))), some (vI v27), none, none, none, none]) dLw_isChanged_86 (Nat.le_of_ble_eq_true rfl) rfl ?_
        refine tq_iload dLw_isChanged_88 rfl ?_
        refine tq_sipush (v := (27648 : Int32)) dLw_isChanged_90 tns_27648 ?_
        refine tq_idiv dLw_isChanged_93 (by decide) ?_
        refine tq_iload dLw_isChanged_94 rfl ?_
        refine tq_iconst (v := (1 : Int32)) dLw_isChanged_96 tni_1 ?_
        refine tq_iadd dLw_isChanged_97 ?_
        obtain ⟨f28, hw⟩ := hw
        refine tq_irem dLw_isChanged_98 f28 ?_
        refine tq_istore (ls' := [some (vR x0), some (vR x1), some (vR x2), some (vR x3), some (vI x4), some (vI v7), some (vI v12), some (vR (some a13)), some (vI ((x4 / (576 : Int32)) - (x4 / (576 : Int32)) / (8 : Int32) * (8 : Int32))), some (vI ((x4 / (4608 : Int32)) - (x4 / (4608 : Int32)) / (6 : Int32) * (6 : Int32))), some (vI v27), some (vI ((x4 / (27648 : Int32)) - (x4 / (27648 : Int32)) / (v27 + (1 : Int32)) * (v27 + (1 : Int32)))), none, none, none]) dLw_isChanged_99 (Nat.le_of_ble_eq_true rfl) rfl ?_
        refine tq_aload_n dLw_isChanged_101 rfl rfl ?_
        refine tq_aload_n dLw_isChanged_102 rfl rfl ?_
        refine tq_iload dLw_isChanged_103 rfl ?_
        refine tq_iload dLw_isChanged_105 rfl ?_
        refine tq_callS ms_Lw_spot (dc := 2) (as := [vR x1, vR x2, vI v7, vI ((x4 / (27648 : Int32)) - (x4 / (27648 : Int32)) / (v27 + (1 : Int32)) * (v27 + (1 : Int32)))]) (rest := []) kLw_139 (Nat.le_of_ble_eq_true rfl) (Nat.le_of_ble_eq_true rfl) rfl rfl (Nat.le_of_ble_eq_true rfl) dLw_isChanged_107 (s_Lw_spot hw) (fun _ _ hx => False.elim hx) (tk_i fun v30 h29 hw => ?_)
        refine tq_istore (ls' := [some (vR x0), some (vR x1), some (vR x2), some (vR x3), some (vI x4), some (vI v7), some (vI v12), some (vR (some a13)), some (vI ((x4 / (576 : Int32)) - (x4 / (576 : Int32)) / (8 : Int32) * (8 : Int32))), some (vI ((x4 / (4608 : Int32)) - (x4 / (4608 : Int32)) / (6 : Int32) * (6 : Int32))), some (vI v27), some (vI ((x4 / (27648 : Int32)) - (x4 / (27648 : Int32)) / (v27 + (1 : Int32)) * (v27 + (1 : Int32)))), some (vI v30), none, none]) dLw_isChanged_110 (Nat.le_of_ble_eq_true rfl) rfl ?_
        refine tq_aload_n dLw_isChanged_112 rfl rfl ?_
        refine tq_aload_n dLw_isChanged_113 rfl rfl ?_
        refine tq_iconst (v := (0 : Int32)) dLw_isChanged_114 tni_0 ?_
        obtain ⟨f31, hw⟩ := hw
        obtain ⟨f32, hw⟩ := hw
        refine te_iald dLw_isChanged_115 e19 (Or.inl f31) f32 ?_
        refine tq_iload dLw_isChanged_116 rfl ?_
        obtain ⟨a33, e34, f35, hw⟩ := hw
        obtain ⟨f36, hw⟩ := hw
        refine te_iast dLw_isChanged_118 e34 f35 f36 (fun h37 e38 => ?_)
        have hw := hw h37 e38
        refine tq_aload_n dLw_isChanged_119 rfl rfl ?_
        refine tq_iload dLw_isChanged_120 rfl ?_
        refine tq_aload_n dLw_isChanged_122 rfl rfl ?_
        refine tq_iconst (v := (0 : Int32)) dLw_isChanged_123 tni_0 ?_
        obtain ⟨f39, hw⟩ := hw
        refine te_iald dLw_isChanged_124 e19 (Or.inl (by rw [e38]; exact f31)) f39 ?_
        refine tq_bipush (v := (64 : Int32)) dLw_isChanged_125 tnb_64 ?_
        refine tq_iload dLw_isChanged_127 rfl ?_
        refine tq_bipush (v := (9 : Int32)) dLw_isChanged_129 tnb_9 ?_
        refine tq_irem dLw_isChanged_131 (by decide) ?_
        refine tq_imul dLw_isChanged_132 ?_
        refine tq_iadd dLw_isChanged_133 ?_
        refine tq_sipush (v := (8192 : Int32)) dLw_isChanged_134 tns_8192 ?_
        refine tq_iload dLw_isChanged_137 rfl ?_
        refine tq_iconst (v := (1 : Int32)) dLw_isChanged_139 tni_1 ?_
        refine tq_iadd dLw_isChanged_140 ?_
        refine tq_imul dLw_isChanged_141 ?_
        refine tq_iadd dLw_isChanged_142 ?_
        refine tq_callS ms_Lw_puts (dc := 0) (as := [vR x1, vI v30, vI (((hI h37 a18 (0 : Int32).toNatClampNeg) + ((64 : Int32) * (x4 - x4 / (9 : Int32) * (9 : Int32)))) + ((8192 : Int32) * (v7 + (1 : Int32))))]) (rest := []) kLw_101 (Nat.le_of_ble_eq_true rfl) (Nat.le_of_ble_eq_true rfl) rfl rfl (Nat.le_of_ble_eq_true rfl) dLw_isChanged_143 (s_Lw_puts hw) (fun _ _ hx => False.elim hx) (tk_v fun h40 hw => ?_)
        refine tq_aload_n dLw_isChanged_146 rfl rfl ?_
        refine tq_iconst (v := (0 : Int32)) dLw_isChanged_147 tni_0 ?_
        refine tq_dup2 dLw_isChanged_148 rfl rfl ?_
        obtain ⟨f41, hw⟩ := hw
        obtain ⟨f42, hw⟩ := hw
        refine te_iald dLw_isChanged_149 e19 (Or.inl f41) f42 ?_
        refine tq_iconst (v := (1 : Int32)) dLw_isChanged_150 tni_1 ?_
        refine tq_iadd dLw_isChanged_151 ?_
        obtain ⟨f43, hw⟩ := hw
        refine te_iast dLw_isChanged_152 e19 f41 f43 (fun h44 e45 => ?_)
        have hw := hw h44 e45
        refine tq_aload_n dLw_isChanged_153 rfl rfl ?_
        refine tq_iconst (v := (2 : Int32)) dLw_isChanged_154 tni_2 ?_
        refine tq_iload dLw_isChanged_155 rfl ?_
        refine tq_iload dLw_isChanged_157 rfl ?_
        refine tq_iload dLw_isChanged_159 rfl ?_
        refine tq_bipush (v := (10 : Int32)) dLw_isChanged_161 tnb_10 ?_
        refine tq_iload dLw_isChanged_163 rfl ?_
        refine tq_bipush (v := (9 : Int32)) dLw_isChanged_165 tnb_9 ?_
        refine tq_irem dLw_isChanged_167 (by decide) ?_
        refine tq_imul dLw_isChanged_168 ?_
        refine tq_iadd dLw_isChanged_169 ?_
        refine tq_sipush (v := (1000 : Int32)) dLw_isChanged_170 tns_1000 ?_
        refine tq_iload dLw_isChanged_173 rfl ?_
        refine tq_bipush (v := (7 : Int32)) dLw_isChanged_175 tnb_7 ?_
        refine tq_idiv dLw_isChanged_177 (by decide) ?_
        refine tq_iconst (v := (4 : Int32)) dLw_isChanged_178 tni_4 ?_
        refine tq_irem dLw_isChanged_179 (by decide) ?_
        refine tq_imul dLw_isChanged_180 ?_
        refine tq_iadd dLw_isChanged_181 ?_
        refine tq_callSX ms_Lw_does (by intro hz; cases hz) (dc := 10) (as := [vR x0, vI (2 : Int32), vI v7, vI ((x4 / (27648 : Int32)) - (x4 / (27648 : Int32)) / (v27 + (1 : Int32)) * (v27 + (1 : Int32))), vI ((((x4 / (4608 : Int32)) - (x4 / (4608 : Int32)) / (6 : Int32) * (6 : Int32)) + ((10 : Int32) * (x4 - x4 / (9 : Int32) * (9 : Int32)))) + ((1000 : Int32) * ((x4 / (7 : Int32)) - (x4 / (7 : Int32)) / (4 : Int32) * (4 : Int32))))]) (rest := []) kLw_135 (Nat.le_of_ble_eq_true rfl) (Nat.le_of_ble_eq_true rfl) rfl rfl (Nat.le_of_ble_eq_true rfl) dLw_isChanged_182 (s_Lw_does hw) (fun _ _ hx => False.elim hx) (tk_i fun v47 h46 hw => ?_)
        refine tq_aload_n dLw_isChanged_185 rfl rfl ?_
        refine tq_iconst (v := (0 : Int32)) dLw_isChanged_186 tni_0 ?_
        obtain ⟨f48, hw⟩ := hw
        obtain ⟨f49, hw⟩ := hw
        refine te_iald dLw_isChanged_187 e19 (Or.inl f48) f49 ?_
        refine tq_iconst (v := (1 : Int32)) dLw_isChanged_188 tni_1 ?_
        refine tq_isub dLw_isChanged_189 ?_
        refine tq_icmpne (tgt := 197) dLw_isChanged_190 (by decide) (fun c50 => ?_) (fun c50 => ?_)
        · have hw := hw.1 c50
          refine tq_iconst (v := (0 : Int32)) dLw_isChanged_197 tni_0 ?_
          exact tq_iret rfl (by decide) dLw_isChanged_198 hw
        · have hw := hw.2 c50
          refine tq_iconst (v := (1 : Int32)) dLw_isChanged_193 tni_1 ?_
          refine tq_goto (tgt := 198) dLw_isChanged_194 (by decide) ?_
          exact tq_iret rfl (by decide) dLw_isChanged_198 hw
