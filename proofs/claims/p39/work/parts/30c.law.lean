/-! TLaw.mends -/
theorem dLw_mends_0 : decode (mB Lw_mends) 0 = .ok (.iconst 1, 1) := by decide +kernel
theorem dLw_mends_1 : decode (mB Lw_mends) 1 = .ok (.istore_n 3, 1) := by decide +kernel
theorem dLw_mends_2 : decode (mB Lw_mends) 2 = .ok (.iload_n 3, 1) := by decide +kernel
theorem dLw_mends_3 : decode (mB Lw_mends) 3 = .ok (.ifCond .eq 314, 3) := by decide +kernel
theorem dLw_mends_6 : decode (mB Lw_mends) 6 = .ok (.iconst (-1), 1) := by decide +kernel
theorem dLw_mends_7 : decode (mB Lw_mends) 7 = .ok (.istore 4, 2) := by decide +kernel
theorem dLw_mends_9 : decode (mB Lw_mends) 9 = .ok (.iconst (-1), 1) := by decide +kernel
theorem dLw_mends_10 : decode (mB Lw_mends) 10 = .ok (.istore 5, 2) := by decide +kernel
theorem dLw_mends_12 : decode (mB Lw_mends) 12 = .ok (.bipush 39, 2) := by decide +kernel
theorem dLw_mends_14 : decode (mB Lw_mends) 14 = .ok (.istore 6, 2) := by decide +kernel
theorem dLw_mends_16 : decode (mB Lw_mends) 16 = .ok (.iload 6, 2) := by decide +kernel
theorem dLw_mends_18 : decode (mB Lw_mends) 18 = .ok (.ifCond .lt 101, 3) := by decide +kernel
theorem dLw_mends_21 : decode (mB Lw_mends) 21 = .ok (.aload_n 1, 1) := by decide +kernel
theorem dLw_mends_22 : decode (mB Lw_mends) 22 = .ok (.iload 6, 2) := by decide +kernel
theorem dLw_mends_24 : decode (mB Lw_mends) 24 = .ok (.invokestatic 40, 3) := by decide +kernel
theorem dLw_mends_27 : decode (mB Lw_mends) 27 = .ok (.istore 7, 2) := by decide +kernel
theorem dLw_mends_29 : decode (mB Lw_mends) 29 = .ok (.iload 7, 2) := by decide +kernel
theorem dLw_mends_31 : decode (mB Lw_mends) 31 = .ok (.ifCond .lt 17, 3) := by decide +kernel
theorem dLw_mends_34 : decode (mB Lw_mends) 34 = .ok (.aload_n 1, 1) := by decide +kernel
theorem dLw_mends_35 : decode (mB Lw_mends) 35 = .ok (.iload 7, 2) := by decide +kernel
theorem dLw_mends_37 : decode (mB Lw_mends) 37 = .ok (.invokestatic 13, 3) := by decide +kernel
theorem dLw_mends_40 : decode (mB Lw_mends) 40 = .ok (.ifCond .ge 8, 3) := by decide +kernel
theorem dLw_mends_43 : decode (mB Lw_mends) 43 = .ok (.iload 6, 2) := by decide +kernel
theorem dLw_mends_45 : decode (mB Lw_mends) 45 = .ok (.goto 5, 3) := by decide +kernel
theorem dLw_mends_48 : decode (mB Lw_mends) 48 = .ok (.iload 4, 2) := by decide +kernel
theorem dLw_mends_50 : decode (mB Lw_mends) 50 = .ok (.istore 4, 2) := by decide +kernel
theorem dLw_mends_52 : decode (mB Lw_mends) 52 = .ok (.iload 7, 2) := by decide +kernel
theorem dLw_mends_54 : decode (mB Lw_mends) 54 = .ok (.istore 8, 2) := by decide +kernel
theorem dLw_mends_56 : decode (mB Lw_mends) 56 = .ok (.iconst 0, 1) := by decide +kernel
theorem dLw_mends_57 : decode (mB Lw_mends) 57 = .ok (.istore 9, 2) := by decide +kernel
theorem dLw_mends_59 : decode (mB Lw_mends) 59 = .ok (.iload 9, 2) := by decide +kernel
theorem dLw_mends_61 : decode (mB Lw_mends) 61 = .ok (.bipush 40, 2) := by decide +kernel
theorem dLw_mends_63 : decode (mB Lw_mends) 63 = .ok (.if_icmp .ge 29, 3) := by decide +kernel
theorem dLw_mends_66 : decode (mB Lw_mends) 66 = .ok (.iload 8, 2) := by decide +kernel
theorem dLw_mends_68 : decode (mB Lw_mends) 68 = .ok (.ifCond .lt 24, 3) := by decide +kernel
theorem dLw_mends_71 : decode (mB Lw_mends) 71 = .ok (.iload 8, 2) := by decide +kernel
theorem dLw_mends_73 : decode (mB Lw_mends) 73 = .ok (.iload 6, 2) := by decide +kernel
theorem dLw_mends_75 : decode (mB Lw_mends) 75 = .ok (.if_icmp .eq 17, 3) := by decide +kernel
theorem dLw_mends_78 : decode (mB Lw_mends) 78 = .ok (.aload_n 1, 1) := by decide +kernel
theorem dLw_mends_79 : decode (mB Lw_mends) 79 = .ok (.iload 8, 2) := by decide +kernel
theorem dLw_mends_81 : decode (mB Lw_mends) 81 = .ok (.invokestatic 40, 3) := by decide +kernel
theorem dLw_mends_84 : decode (mB Lw_mends) 84 = .ok (.istore 8, 2) := by decide +kernel
theorem dLw_mends_86 : decode (mB Lw_mends) 86 = .ok (.iinc 9 1, 3) := by decide +kernel
theorem dLw_mends_89 : decode (mB Lw_mends) 89 = .ok (.goto (-30), 3) := by decide +kernel
theorem dLw_mends_92 : decode (mB Lw_mends) 92 = .ok (.iload 7, 2) := by decide +kernel
theorem dLw_mends_94 : decode (mB Lw_mends) 94 = .ok (.ifCond .lt 15, 3) := by decide +kernel
theorem dLw_mends_97 : decode (mB Lw_mends) 97 = .ok (.iload 8, 2) := by decide +kernel
theorem dLw_mends_99 : decode (mB Lw_mends) 99 = .ok (.iload 6, 2) := by decide +kernel
theorem dLw_mends_101 : decode (mB Lw_mends) 101 = .ok (.if_icmp .ne 8, 3) := by decide +kernel
theorem dLw_mends_104 : decode (mB Lw_mends) 104 = .ok (.iload 6, 2) := by decide +kernel
theorem dLw_mends_106 : decode (mB Lw_mends) 106 = .ok (.goto 5, 3) := by decide +kernel
theorem dLw_mends_109 : decode (mB Lw_mends) 109 = .ok (.iload 5, 2) := by decide +kernel
theorem dLw_mends_111 : decode (mB Lw_mends) 111 = .ok (.istore 5, 2) := by decide +kernel
theorem dLw_mends_113 : decode (mB Lw_mends) 113 = .ok (.iinc 6 (-1), 3) := by decide +kernel
theorem dLw_mends_116 : decode (mB Lw_mends) 116 = .ok (.goto (-100), 3) := by decide +kernel
theorem dLw_mends_119 : decode (mB Lw_mends) 119 = .ok (.iload 4, 2) := by decide +kernel
theorem dLw_mends_121 : decode (mB Lw_mends) 121 = .ok (.ifCond .ge 8, 3) := by decide +kernel
theorem dLw_mends_124 : decode (mB Lw_mends) 124 = .ok (.iload 5, 2) := by decide +kernel
theorem dLw_mends_126 : decode (mB Lw_mends) 126 = .ok (.ifCond .lt 7, 3) := by decide +kernel
theorem dLw_mends_129 : decode (mB Lw_mends) 129 = .ok (.iconst 1, 1) := by decide +kernel
theorem dLw_mends_130 : decode (mB Lw_mends) 130 = .ok (.goto 4, 3) := by decide +kernel
theorem dLw_mends_133 : decode (mB Lw_mends) 133 = .ok (.iconst 0, 1) := by decide +kernel
theorem dLw_mends_134 : decode (mB Lw_mends) 134 = .ok (.istore_n 3, 1) := by decide +kernel
theorem dLw_mends_135 : decode (mB Lw_mends) 135 = .ok (.iload 4, 2) := by decide +kernel
theorem dLw_mends_137 : decode (mB Lw_mends) 137 = .ok (.ifCond .lt 57, 3) := by decide +kernel
theorem dLw_mends_140 : decode (mB Lw_mends) 140 = .ok (.aload_n 1, 1) := by decide +kernel
theorem dLw_mends_141 : decode (mB Lw_mends) 141 = .ok (.iload 4, 2) := by decide +kernel
theorem dLw_mends_143 : decode (mB Lw_mends) 143 = .ok (.invokestatic 40, 3) := by decide +kernel
theorem dLw_mends_146 : decode (mB Lw_mends) 146 = .ok (.istore 6, 2) := by decide +kernel
theorem dLw_mends_148 : decode (mB Lw_mends) 148 = .ok (.aload_n 1, 1) := by decide +kernel
theorem dLw_mends_149 : decode (mB Lw_mends) 149 = .ok (.aload_n 1, 1) := by decide +kernel
theorem dLw_mends_150 : decode (mB Lw_mends) 150 = .ok (.iconst 0, 1) := by decide +kernel
theorem dLw_mends_151 : decode (mB Lw_mends) 151 = .ok (.iaload, 1) := by decide +kernel
theorem dLw_mends_152 : decode (mB Lw_mends) 152 = .ok (.iload 6, 2) := by decide +kernel
theorem dLw_mends_154 : decode (mB Lw_mends) 154 = .ok (.bipush 64, 2) := by decide +kernel
theorem dLw_mends_156 : decode (mB Lw_mends) 156 = .ok (.aload_n 0, 1) := by decide +kernel
theorem dLw_mends_157 : decode (mB Lw_mends) 157 = .ok (.iload 6, 2) := by decide +kernel
theorem dLw_mends_159 : decode (mB Lw_mends) 159 = .ok (.invokestatic 86, 3) := by decide +kernel
theorem dLw_mends_162 : decode (mB Lw_mends) 162 = .ok (.imul, 1) := by decide +kernel
theorem dLw_mends_163 : decode (mB Lw_mends) 163 = .ok (.iadd, 1) := by decide +kernel
theorem dLw_mends_164 : decode (mB Lw_mends) 164 = .ok (.sipush 8192, 3) := by decide +kernel
theorem dLw_mends_167 : decode (mB Lw_mends) 167 = .ok (.aload_n 0, 1) := by decide +kernel
theorem dLw_mends_168 : decode (mB Lw_mends) 168 = .ok (.iload 6, 2) := by decide +kernel
theorem dLw_mends_170 : decode (mB Lw_mends) 170 = .ok (.invokestatic 40, 3) := by decide +kernel
theorem dLw_mends_173 : decode (mB Lw_mends) 173 = .ok (.iconst 1, 1) := by decide +kernel
theorem dLw_mends_174 : decode (mB Lw_mends) 174 = .ok (.iadd, 1) := by decide +kernel
theorem dLw_mends_175 : decode (mB Lw_mends) 175 = .ok (.imul, 1) := by decide +kernel
theorem dLw_mends_176 : decode (mB Lw_mends) 176 = .ok (.iadd, 1) := by decide +kernel
theorem dLw_mends_177 : decode (mB Lw_mends) 177 = .ok (.invokestatic 101, 3) := by decide +kernel
theorem dLw_mends_180 : decode (mB Lw_mends) 180 = .ok (.aload_n 2, 1) := by decide +kernel
theorem dLw_mends_181 : decode (mB Lw_mends) 181 = .ok (.bipush 8, 2) := by decide +kernel
theorem dLw_mends_183 : decode (mB Lw_mends) 183 = .ok (.iload 6, 2) := by decide +kernel
theorem dLw_mends_185 : decode (mB Lw_mends) 185 = .ok (.imul, 1) := by decide +kernel
theorem dLw_mends_186 : decode (mB Lw_mends) 186 = .ok (.iconst 3, 1) := by decide +kernel
theorem dLw_mends_187 : decode (mB Lw_mends) 187 = .ok (.iadd, 1) := by decide +kernel
theorem dLw_mends_188 : decode (mB Lw_mends) 188 = .ok (.invokestatic 89, 3) := by decide +kernel
theorem dLw_mends_191 : decode (mB Lw_mends) 191 = .ok (.goto 123, 3) := by decide +kernel
theorem dLw_mends_194 : decode (mB Lw_mends) 194 = .ok (.iload 5, 2) := by decide +kernel
theorem dLw_mends_196 : decode (mB Lw_mends) 196 = .ok (.ifCond .lt 118, 3) := by decide +kernel
theorem dLw_mends_199 : decode (mB Lw_mends) 199 = .ok (.bipush 40, 2) := by decide +kernel
theorem dLw_mends_201 : decode (mB Lw_mends) 201 = .ok (.newarray .int, 2) := by decide +kernel
theorem dLw_mends_203 : decode (mB Lw_mends) 203 = .ok (.astore 6, 2) := by decide +kernel
theorem dLw_mends_205 : decode (mB Lw_mends) 205 = .ok (.iload 5, 2) := by decide +kernel
theorem dLw_mends_207 : decode (mB Lw_mends) 207 = .ok (.istore 7, 2) := by decide +kernel
theorem dLw_mends_209 : decode (mB Lw_mends) 209 = .ok (.aload 6, 2) := by decide +kernel
theorem dLw_mends_211 : decode (mB Lw_mends) 211 = .ok (.iload 7, 2) := by decide +kernel
theorem dLw_mends_213 : decode (mB Lw_mends) 213 = .ok (.iaload, 1) := by decide +kernel
theorem dLw_mends_214 : decode (mB Lw_mends) 214 = .ok (.ifCond .ne 20, 3) := by decide +kernel
theorem dLw_mends_217 : decode (mB Lw_mends) 217 = .ok (.aload 6, 2) := by decide +kernel
theorem dLw_mends_219 : decode (mB Lw_mends) 219 = .ok (.iload 7, 2) := by decide +kernel
theorem dLw_mends_221 : decode (mB Lw_mends) 221 = .ok (.iconst 1, 1) := by decide +kernel
theorem dLw_mends_222 : decode (mB Lw_mends) 222 = .ok (.iastore, 1) := by decide +kernel
theorem dLw_mends_223 : decode (mB Lw_mends) 223 = .ok (.aload_n 1, 1) := by decide +kernel
theorem dLw_mends_224 : decode (mB Lw_mends) 224 = .ok (.iload 7, 2) := by decide +kernel
theorem dLw_mends_226 : decode (mB Lw_mends) 226 = .ok (.invokestatic 40, 3) := by decide +kernel
theorem dLw_mends_229 : decode (mB Lw_mends) 229 = .ok (.istore 7, 2) := by decide +kernel
theorem dLw_mends_231 : decode (mB Lw_mends) 231 = .ok (.goto (-22), 3) := by decide +kernel
theorem dLw_mends_234 : decode (mB Lw_mends) 234 = .ok (.iconst 0, 1) := by decide +kernel
theorem dLw_mends_235 : decode (mB Lw_mends) 235 = .ok (.istore 8, 2) := by decide +kernel
theorem dLw_mends_237 : decode (mB Lw_mends) 237 = .ok (.iload 8, 2) := by decide +kernel
theorem dLw_mends_239 : decode (mB Lw_mends) 239 = .ok (.bipush 40, 2) := by decide +kernel
theorem dLw_mends_241 : decode (mB Lw_mends) 241 = .ok (.if_icmp .ge 73, 3) := by decide +kernel
theorem dLw_mends_244 : decode (mB Lw_mends) 244 = .ok (.aload 6, 2) := by decide +kernel
theorem dLw_mends_246 : decode (mB Lw_mends) 246 = .ok (.iload 8, 2) := by decide +kernel
theorem dLw_mends_248 : decode (mB Lw_mends) 248 = .ok (.iaload, 1) := by decide +kernel
theorem dLw_mends_249 : decode (mB Lw_mends) 249 = .ok (.iconst 1, 1) := by decide +kernel
theorem dLw_mends_250 : decode (mB Lw_mends) 250 = .ok (.if_icmp .ne 58, 3) := by decide +kernel
theorem dLw_mends_253 : decode (mB Lw_mends) 253 = .ok (.aload_n 0, 1) := by decide +kernel
theorem dLw_mends_254 : decode (mB Lw_mends) 254 = .ok (.iload 8, 2) := by decide +kernel
theorem dLw_mends_256 : decode (mB Lw_mends) 256 = .ok (.invokestatic 13, 3) := by decide +kernel
theorem dLw_mends_259 : decode (mB Lw_mends) 259 = .ok (.ifCond .lt 49, 3) := by decide +kernel
theorem dLw_mends_262 : decode (mB Lw_mends) 262 = .ok (.aload_n 1, 1) := by decide +kernel
theorem dLw_mends_263 : decode (mB Lw_mends) 263 = .ok (.iconst 1, 1) := by decide +kernel
theorem dLw_mends_264 : decode (mB Lw_mends) 264 = .ok (.aload_n 1, 1) := by decide +kernel
theorem dLw_mends_265 : decode (mB Lw_mends) 265 = .ok (.iload 8, 2) := by decide +kernel
theorem dLw_mends_267 : decode (mB Lw_mends) 267 = .ok (.invokestatic 13, 3) := by decide +kernel
theorem dLw_mends_270 : decode (mB Lw_mends) 270 = .ok (.iadd, 1) := by decide +kernel
theorem dLw_mends_271 : decode (mB Lw_mends) 271 = .ok (.iload 8, 2) := by decide +kernel
theorem dLw_mends_273 : decode (mB Lw_mends) 273 = .ok (.bipush 64, 2) := by decide +kernel
theorem dLw_mends_275 : decode (mB Lw_mends) 275 = .ok (.aload_n 1, 1) := by decide +kernel
theorem dLw_mends_276 : decode (mB Lw_mends) 276 = .ok (.iload 8, 2) := by decide +kernel
theorem dLw_mends_278 : decode (mB Lw_mends) 278 = .ok (.invokestatic 86, 3) := by decide +kernel
theorem dLw_mends_281 : decode (mB Lw_mends) 281 = .ok (.imul, 1) := by decide +kernel
theorem dLw_mends_282 : decode (mB Lw_mends) 282 = .ok (.iadd, 1) := by decide +kernel
theorem dLw_mends_283 : decode (mB Lw_mends) 283 = .ok (.sipush 8192, 3) := by decide +kernel
theorem dLw_mends_286 : decode (mB Lw_mends) 286 = .ok (.aload_n 0, 1) := by decide +kernel
theorem dLw_mends_287 : decode (mB Lw_mends) 287 = .ok (.iload 8, 2) := by decide +kernel
theorem dLw_mends_289 : decode (mB Lw_mends) 289 = .ok (.invokestatic 40, 3) := by decide +kernel
theorem dLw_mends_292 : decode (mB Lw_mends) 292 = .ok (.iconst 1, 1) := by decide +kernel
theorem dLw_mends_293 : decode (mB Lw_mends) 293 = .ok (.iadd, 1) := by decide +kernel
theorem dLw_mends_294 : decode (mB Lw_mends) 294 = .ok (.imul, 1) := by decide +kernel
theorem dLw_mends_295 : decode (mB Lw_mends) 295 = .ok (.iadd, 1) := by decide +kernel
theorem dLw_mends_296 : decode (mB Lw_mends) 296 = .ok (.iastore, 1) := by decide +kernel
theorem dLw_mends_297 : decode (mB Lw_mends) 297 = .ok (.aload_n 2, 1) := by decide +kernel
theorem dLw_mends_298 : decode (mB Lw_mends) 298 = .ok (.bipush 8, 2) := by decide +kernel
theorem dLw_mends_300 : decode (mB Lw_mends) 300 = .ok (.iload 8, 2) := by decide +kernel
theorem dLw_mends_302 : decode (mB Lw_mends) 302 = .ok (.imul, 1) := by decide +kernel
theorem dLw_mends_303 : decode (mB Lw_mends) 303 = .ok (.iconst 4, 1) := by decide +kernel
theorem dLw_mends_304 : decode (mB Lw_mends) 304 = .ok (.iadd, 1) := by decide +kernel
theorem dLw_mends_305 : decode (mB Lw_mends) 305 = .ok (.invokestatic 89, 3) := by decide +kernel
theorem dLw_mends_308 : decode (mB Lw_mends) 308 = .ok (.iinc 8 1, 3) := by decide +kernel
theorem dLw_mends_311 : decode (mB Lw_mends) 311 = .ok (.goto (-74), 3) := by decide +kernel
theorem dLw_mends_314 : decode (mB Lw_mends) 314 = .ok (.goto (-312), 3) := by decide +kernel
theorem dLw_mends_317 : decode (mB Lw_mends) 317 = .ok (.return_, 1) := by decide +kernel
def w_Lw_mends_92 (R : tpH → Prop) (K16 : (Option Nat) → (Option Nat) → (Option Nat) → Int32 → Int32 → Int32 → tpH → Prop) (x0 : Option Nat) (x1 : Option Nat) (x2 : Option Nat) (x4 : Int32) (x5 : Int32) (x6 : Int32) (x7 : Int32) (x8 : Int32) (h : tpH) : Prop :=
  (x7 < 0 → (K16 x0 x1 x2 x4 x5 (x6 + (-1 : Int32)) h)) ∧ (¬ x7 < 0 → ((¬ x8 = x6 → (K16 x0 x1 x2 x4 x5 (x6 + (-1 : Int32)) h)) ∧ (x8 = x6 → (K16 x0 x1 x2 x4 x6 (x6 + (-1 : Int32)) h))))
def b_Lw_mends_59 (R : tpH → Prop) (K16 : (Option Nat) → (Option Nat) → (Option Nat) → Int32 → Int32 → Int32 → tpH → Prop) (Y : (Option Nat) → (Option Nat) → (Option Nat) → Int32 → Int32 → Int32 → Int32 → Int32 → Int32 → tpH → Prop) (x0 : Option Nat) (x1 : Option Nat) (x2 : Option Nat) (x4 : Int32) (x5 : Int32) (x6 : Int32) (x7 : Int32) (x8 : Int32) (x9 : Int32) (h : tpH) : Prop :=
  ((40 : Int32) ≤ x9 → (w_Lw_mends_92 R K16 x0 x1 x2 x4 x5 x6 x7 x8 h)) ∧ (¬ (40 : Int32) ≤ x9 → ((x8 < 0 → (w_Lw_mends_92 R K16 x0 x1 x2 x4 x5 x6 x7 x8 h)) ∧ (¬ x8 < 0 → ((x8 = x6 → (w_Lw_mends_92 R K16 x0 x1 x2 x4 x5 x6 x7 x8 h)) ∧ (¬ x8 = x6 → (w_Lw_parentOf x1 x8 h (fun v5 h4 => Y x0 x1 x2 x4 x5 x6 x7 v5 (x9 + (1 : Int32)) h4)))))))
def w_Lw_mends_59 (R : tpH → Prop) (K16 : (Option Nat) → (Option Nat) → (Option Nat) → Int32 → Int32 → Int32 → tpH → Prop) : Nat → (Option Nat) → (Option Nat) → (Option Nat) → Int32 → Int32 → Int32 → Int32 → Int32 → Int32 → tpH → Prop
  | 0 => fun _ _ _ _ _ _ _ _ _ _ => False
  | n + 1 => b_Lw_mends_59 R K16 (w_Lw_mends_59 R K16 n)
def b_Lw_mends_237 (R : tpH → Prop) (K2 : (Option Nat) → (Option Nat) → (Option Nat) → Int32 → tpH → Prop) (Y : (Option Nat) → (Option Nat) → (Option Nat) → Int32 → (Option Nat) → Int32 → tpH → Prop) (x0 : Option Nat) (x1 : Option Nat) (x2 : Option Nat) (x3 : Int32) (x6 : Option Nat) (x8 : Int32) (h : tpH) : Prop :=
  ((40 : Int32) ≤ x8 → (K2 x0 x1 x2 x3 h)) ∧ (¬ (40 : Int32) ≤ x8 → (∃ a2, x6 = some a2 ∧ hT h a2 = 15 ∧ (vp_in x8 (hL h a2) ∧ ((¬ (hI h a2 x8.toNatClampNeg) = (1 : Int32) → (Y x0 x1 x2 x3 x6 (x8 + (1 : Int32)) h)) ∧ ((hI h a2 x8.toNatClampNeg) = (1 : Int32) → (w_Lw_place x0 x8 h (fun v8 h7 => (v8 < 0 → (Y x0 x1 x2 x3 x6 (x8 + (1 : Int32)) h7)) ∧ (¬ v8 < 0 → (w_Lw_place x1 x8 h7 (fun v11 h10 => w_Lw_valueOf x1 x8 h10 (fun v13 h12 => w_Lw_parentOf x0 x8 h12 (fun v15 h14 => ∃ a16, x1 = some a16 ∧ hT h14 a16 = 15 ∧ (vp_in ((1 : Int32) + v11) (hL h14 a16) ∧ (∀ h20, h20 = sI h14 a16 ((1 : Int32) + v11).toNatClampNeg ((x8 + ((64 : Int32) * v13)) + ((8192 : Int32) * (v15 + (1 : Int32)))) → (w_Lw_adds x2 (((8 : Int32) * x8) + (4 : Int32)) h20 (fun h22 => Y x0 x1 x2 x3 x6 (x8 + (1 : Int32)) h22))))))))))))))))
def w_Lw_mends_237 (R : tpH → Prop) (K2 : (Option Nat) → (Option Nat) → (Option Nat) → Int32 → tpH → Prop) : Nat → (Option Nat) → (Option Nat) → (Option Nat) → Int32 → (Option Nat) → Int32 → tpH → Prop
  | 0 => fun _ _ _ _ _ _ _ => False
  | n + 1 => b_Lw_mends_237 R K2 (w_Lw_mends_237 R K2 n)
def b_Lw_mends_209 (R : tpH → Prop) (K2 : (Option Nat) → (Option Nat) → (Option Nat) → Int32 → tpH → Prop) (Y : (Option Nat) → (Option Nat) → (Option Nat) → Int32 → (Option Nat) → Int32 → tpH → Prop) (x0 : Option Nat) (x1 : Option Nat) (x2 : Option Nat) (x3 : Int32) (x6 : Option Nat) (x7 : Int32) (h : tpH) : Prop :=
  ∃ a1, x6 = some a1 ∧ hT h a1 = 15 ∧ (vp_in x7 (hL h a1) ∧ ((¬ (hI h a1 x7.toNatClampNeg) = 0 → (∃ n, w_Lw_mends_237 R K2 n x0 x1 x2 x3 x6 (0 : Int32) h)) ∧ ((hI h a1 x7.toNatClampNeg) = 0 → (vp_in x7 (hL h a1) ∧ (∀ h7, h7 = sI h a1 x7.toNatClampNeg (1 : Int32) → (w_Lw_parentOf x1 x7 h7 (fun v10 h9 => Y x0 x1 x2 x3 x6 v10 h9)))))))
def w_Lw_mends_209 (R : tpH → Prop) (K2 : (Option Nat) → (Option Nat) → (Option Nat) → Int32 → tpH → Prop) : Nat → (Option Nat) → (Option Nat) → (Option Nat) → Int32 → (Option Nat) → Int32 → tpH → Prop
  | 0 => fun _ _ _ _ _ _ _ => False
  | n + 1 => b_Lw_mends_209 R K2 (w_Lw_mends_209 R K2 n)
def w_Lw_mends_134 (R : tpH → Prop) (K2 : (Option Nat) → (Option Nat) → (Option Nat) → Int32 → tpH → Prop) (x0 : Option Nat) (x1 : Option Nat) (x2 : Option Nat) (x4 : Int32) (x5 : Int32) (t0 : Int32) (h : tpH) : Prop :=
  (x4 < 0 → ((x5 < 0 → (K2 x0 x1 x2 t0 h)) ∧ (¬ x5 < 0 → (∀ a3 h4, a3 = hZ h → h4 = nC h 15 40 40 → (∃ n, w_Lw_mends_209 R K2 n x0 x1 x2 t0 (some a3) x5 h4))))) ∧ (¬ x4 < 0 → (w_Lw_parentOf x1 x4 h (fun v8 h7 => ∃ a9, x1 = some a9 ∧ hT h7 a9 = 15 ∧ (vp_in (0 : Int32) (hL h7 a9) ∧ (w_Lw_valueOf x0 v8 h7 (fun v14 h13 => w_Lw_parentOf x0 v8 h13 (fun v16 h15 => w_Lw_puts x1 (hI h7 a9 (0 : Int32).toNatClampNeg) ((v8 + ((64 : Int32) * v14)) + ((8192 : Int32) * (v16 + (1 : Int32)))) h15 (fun h17 => w_Lw_adds x2 (((8 : Int32) * v8) + (3 : Int32)) h17 (fun h18 => K2 x0 x1 x2 t0 h18)))))))))
def b_Lw_mends_16 (R : tpH → Prop) (K2 : (Option Nat) → (Option Nat) → (Option Nat) → Int32 → tpH → Prop) (Y : (Option Nat) → (Option Nat) → (Option Nat) → Int32 → Int32 → Int32 → tpH → Prop) (x0 : Option Nat) (x1 : Option Nat) (x2 : Option Nat) (x4 : Int32) (x5 : Int32) (x6 : Int32) (h : tpH) : Prop :=
  (x6 < 0 → ((0 ≤ x4 → (w_Lw_mends_134 R K2 x0 x1 x2 x4 x5 (1 : Int32) h)) ∧ (¬ 0 ≤ x4 → ((x5 < 0 → (w_Lw_mends_134 R K2 x0 x1 x2 x4 x5 (0 : Int32) h)) ∧ (¬ x5 < 0 → (w_Lw_mends_134 R K2 x0 x1 x2 x4 x5 (1 : Int32) h)))))) ∧ (¬ x6 < 0 → (w_Lw_parentOf x1 x6 h (fun v5 h4 => (v5 < 0 → (∃ n, w_Lw_mends_59 R Y n x0 x1 x2 x4 x5 x6 v5 v5 (0 : Int32) h4)) ∧ (¬ v5 < 0 → (w_Lw_place x1 v5 h4 (fun v8 h7 => (0 ≤ v8 → (∃ n, w_Lw_mends_59 R Y n x0 x1 x2 x4 x5 x6 v5 v5 (0 : Int32) h7)) ∧ (¬ 0 ≤ v8 → (∃ n, w_Lw_mends_59 R Y n x0 x1 x2 x6 x5 x6 v5 v5 (0 : Int32) h7))))))))
def w_Lw_mends_16 (R : tpH → Prop) (K2 : (Option Nat) → (Option Nat) → (Option Nat) → Int32 → tpH → Prop) : Nat → (Option Nat) → (Option Nat) → (Option Nat) → Int32 → Int32 → Int32 → tpH → Prop
  | 0 => fun _ _ _ _ _ _ _ => False
  | n + 1 => b_Lw_mends_16 R K2 (w_Lw_mends_16 R K2 n)
def b_Lw_mends_2 (R : tpH → Prop) (Y : (Option Nat) → (Option Nat) → (Option Nat) → Int32 → tpH → Prop) (x0 : Option Nat) (x1 : Option Nat) (x2 : Option Nat) (x3 : Int32) (h : tpH) : Prop :=
  (x3 = 0 → (R h)) ∧ (¬ x3 = 0 → (∃ n, w_Lw_mends_16 R Y n x0 x1 x2 (-1 : Int32) (-1 : Int32) (39 : Int32) h))
def w_Lw_mends_2 (R : tpH → Prop) : Nat → (Option Nat) → (Option Nat) → (Option Nat) → Int32 → tpH → Prop
  | 0 => fun _ _ _ _ _ => False
  | n + 1 => b_Lw_mends_2 R (w_Lw_mends_2 R n)
def w_Lw_mends (x0 : Option Nat) (x1 : Option Nat) (x2 : Option Nat) (h : tpH) (R : tpH → Prop) : Prop :=
  ∃ n, w_Lw_mends_2 R n x0 x1 x2 (1 : Int32) h
theorem s_Lw_mends_92 {h0 : tpH} {av : List tpV} {R : tpH → Prop} {K16 : (Option Nat) → (Option Nat) → (Option Nat) → Int32 → Int32 → Int32 → tpH → Prop} (k16 : ∀ (x0 : Option Nat) (x1 : Option Nat) (x2 : Option Nat) (x4 : Int32) (x5 : Int32) (x6 : Int32) (h : tpH), K16 x0 x1 x2 x4 x5 x6 h → tpR Lw_mends 3 h0 av (tpOv R (fun _ _ => False)) 16 [some (vR x0), some (vR x1), some (vR x2), none, some (vI x4), some (vI x5), some (vI x6), none, none, none] [] h) : ∀ (x0 : Option Nat) (x1 : Option Nat) (x2 : Option Nat) (x4 : Int32) (x5 : Int32) (x6 : Int32) (x7 : Int32) (x8 : Int32) (h : tpH), w_Lw_mends_92 R K16 x0 x1 x2 x4 x5 x6 x7 x8 h → tpR Lw_mends 3 h0 av (tpOv R (fun _ _ => False)) 92 [some (vR x0), some (vR x1), some (vR x2), none, some (vI x4), some (vI x5), some (vI x6), some (vI x7), some (vI x8), none] [] h := by
  intro x0 x1 x2 x4 x5 x6 x7 x8 h hw
  unfold w_Lw_mends_92 at hw
  refine tq_iload dLw_mends_92 rfl ?_
  refine tq_iflt (tgt := 109) dLw_mends_94 (by decide) (fun c1 => ?_) (fun c1 => ?_)
  · have hw := hw.1 c1
    refine tq_iload dLw_mends_109 rfl ?_
    refine tq_istore (ls' := [some (vR x0), some (vR x1), some (vR x2), none, some (vI x4), some (vI x5), some (vI x6), some (vI x7), some (vI x8), none]) dLw_mends_111 (Nat.le_of_ble_eq_true rfl) rfl ?_
    refine tq_inc (k := (-1 : Int32)) (ls' := [some (vR x0), some (vR x1), some (vR x2), none, some (vI x4), some (vI x5), some (vI (x6 + (-1 : Int32))), some (vI x7), some (vI x8), none]) dLw_mends_113 rfl tni_m1 (Nat.le_of_ble_eq_true rfl) rfl ?_
    refine tq_goto (tgt := 16) dLw_mends_116 (by decide) ?_
    refine tpR.fo (ls' := [some (vR x0), some (vR x1), some (vR x2), none, some (vI x4), some (vI x5), some (vI (x6 + (-1 : Int32))), none, none, none]) ?_ (And.intro rfl (And.intro rfl (And.intro rfl (And.intro rfl (And.intro rfl (And.intro rfl trivial))))))
    exact k16 _ _ _ _ _ _ _ hw
  · have hw := hw.2 c1
    refine tq_iload dLw_mends_97 rfl ?_
    refine tq_iload dLw_mends_99 rfl ?_
    refine tq_icmpne (tgt := 109) dLw_mends_101 (by decide) (fun c2 => ?_) (fun c2 => ?_)
    · have hw := hw.1 c2
      refine tq_iload dLw_mends_109 rfl ?_
      refine tq_istore (ls' := [some (vR x0), some (vR x1), some (vR x2), none, some (vI x4), some (vI x5), some (vI x6), some (vI x7), some (vI x8), none]) dLw_mends_111 (Nat.le_of_ble_eq_true rfl) rfl ?_
      refine tq_inc (k := (-1 : Int32)) (ls' := [some (vR x0), some (vR x1), some (vR x2), none, some (vI x4), some (vI x5), some (vI (x6 + (-1 : Int32))), some (vI x7), some (vI x8), none]) dLw_mends_113 rfl tni_m1 (Nat.le_of_ble_eq_true rfl) rfl ?_
      refine tq_goto (tgt := 16) dLw_mends_116 (by decide) ?_
      refine tpR.fo (ls' := [some (vR x0), some (vR x1), some (vR x2), none, some (vI x4), some (vI x5), some (vI (x6 + (-1 : Int32))), none, none, none]) ?_ (And.intro rfl (And.intro rfl (And.intro rfl (And.intro rfl (And.intro rfl (And.intro rfl trivial))))))
      exact k16 _ _ _ _ _ _ _ hw
    · have hw := hw.2 c2
      refine tq_iload dLw_mends_104 rfl ?_
      refine tq_goto (tgt := 111) dLw_mends_106 (by decide) ?_
      refine tq_istore (ls' := [some (vR x0), some (vR x1), some (vR x2), none, some (vI x4), some (vI x6), some (vI x6), some (vI x7), some (vI x8), none]) dLw_mends_111 (Nat.le_of_ble_eq_true rfl) rfl ?_
      refine tq_inc (k := (-1 : Int32)) (ls' := [some (vR x0), some (vR x1), some (vR x2), none, some (vI x4), some (vI x6), some (vI (x6 + (-1 : Int32))), some (vI x7), some (vI x8), none]) dLw_mends_113 rfl tni_m1 (Nat.le_of_ble_eq_true rfl) rfl ?_
      refine tq_goto (tgt := 16) dLw_mends_116 (by decide) ?_
      refine tpR.fo (ls' := [some (vR x0), some (vR x1), some (vR x2), none, some (vI x4), some (vI x6), some (vI (x6 + (-1 : Int32))), none, none, none]) ?_ (And.intro rfl (And.intro rfl (And.intro rfl (And.intro rfl (And.intro rfl (And.intro rfl trivial))))))
      exact k16 _ _ _ _ _ _ _ hw
theorem s_Lw_mends_59 {h0 : tpH} {av : List tpV} {R : tpH → Prop} {K16 : (Option Nat) → (Option Nat) → (Option Nat) → Int32 → Int32 → Int32 → tpH → Prop} (k16 : ∀ (x0 : Option Nat) (x1 : Option Nat) (x2 : Option Nat) (x4 : Int32) (x5 : Int32) (x6 : Int32) (h : tpH), K16 x0 x1 x2 x4 x5 x6 h → tpR Lw_mends 3 h0 av (tpOv R (fun _ _ => False)) 16 [some (vR x0), some (vR x1), some (vR x2), none, some (vI x4), some (vI x5), some (vI x6), none, none, none] [] h) : ∀ (n : Nat) (x0 : Option Nat) (x1 : Option Nat) (x2 : Option Nat) (x4 : Int32) (x5 : Int32) (x6 : Int32) (x7 : Int32) (x8 : Int32) (x9 : Int32) (h : tpH), w_Lw_mends_59 R K16 n x0 x1 x2 x4 x5 x6 x7 x8 x9 h → tpR Lw_mends 3 h0 av (tpOv R (fun _ _ => False)) 59 [some (vR x0), some (vR x1), some (vR x2), none, some (vI x4), some (vI x5), some (vI x6), some (vI x7), some (vI x8), some (vI x9)] [] h := by
  intro n
  induction n with
  | zero => intro x0 x1 x2 x4 x5 x6 x7 x8 x9 h hw; exact False.elim hw
  | succ n ih =>
    intro x0 x1 x2 x4 x5 x6 x7 x8 x9 h hw
    change b_Lw_mends_59 R K16 (w_Lw_mends_59 R K16 n) x0 x1 x2 x4 x5 x6 x7 x8 x9 h at hw
    unfold b_Lw_mends_59 at hw
    refine tq_iload dLw_mends_59 rfl ?_
    refine tq_bipush (v := (40 : Int32)) dLw_mends_61 tnb_40 ?_
    refine tq_icmpge (tgt := 92) dLw_mends_63 (by decide) (fun c1 => ?_) (fun c1 => ?_)
    · have hw := hw.1 c1
      refine tpR.fo (ls' := [some (vR x0), some (vR x1), some (vR x2), none, some (vI x4), some (vI x5), some (vI x6), some (vI x7), some (vI x8), none]) ?_ (And.intro rfl (And.intro rfl (And.intro rfl (And.intro rfl (And.intro rfl (And.intro rfl (And.intro rfl (And.intro rfl trivial))))))))
      exact s_Lw_mends_92 k16 _ _ _ _ _ _ _ _ _ hw
    · have hw := hw.2 c1
      refine tq_iload dLw_mends_66 rfl ?_
      refine tq_iflt (tgt := 92) dLw_mends_68 (by decide) (fun c2 => ?_) (fun c2 => ?_)
      · have hw := hw.1 c2
        refine tpR.fo (ls' := [some (vR x0), some (vR x1), some (vR x2), none, some (vI x4), some (vI x5), some (vI x6), some (vI x7), some (vI x8), none]) ?_ (And.intro rfl (And.intro rfl (And.intro rfl (And.intro rfl (And.intro rfl (And.intro rfl (And.intro rfl (And.intro rfl trivial))))))))
        exact s_Lw_mends_92 k16 _ _ _ _ _ _ _ _ _ hw
      · have hw := hw.2 c2
        refine tq_iload dLw_mends_71 rfl ?_
        refine tq_iload dLw_mends_73 rfl ?_
        refine tq_icmpeq (tgt := 92) dLw_mends_75 (by decide) (fun c3 => ?_) (fun c3 => ?_)
        · have hw := hw.1 c3
          refine tpR.fo (ls' := [some (vR x0), some (vR x1), some (vR x2), none, some (vI x4), some (vI x5), some (vI x6), some (vI x7), some (vI x8), none]) ?_ (And.intro rfl (And.intro rfl (And.intro rfl (And.intro rfl (And.intro rfl (And.intro rfl (And.intro rfl (And.intro rfl trivial))))))))
          exact s_Lw_mends_92 k16 _ _ _ _ _ _ _ _ _ hw
        · have hw := hw.2 c3
          refine tq_aload_n dLw_mends_78 rfl rfl ?_
          refine tq_iload dLw_mends_79 rfl ?_
          refine tq_callS ms_Lw_parentOf (dc := 2) (as := [vR x1, vI x8]) (rest := []) kLw_40 (Nat.le_of_ble_eq_true rfl) (Nat.le_of_ble_eq_true rfl) rfl rfl (Nat.le_of_ble_eq_true rfl) dLw_mends_81 (s_Lw_parentOf hw) (fun _ _ hx => False.elim hx) (tk_i fun v5 h4 hw => ?_)
          refine tq_istore (ls' := [some (vR x0), some (vR x1), some (vR x2), none, some (vI x4), some (vI x5), some (vI x6), some (vI x7), some (vI v5), some (vI x9)]) dLw_mends_84 (Nat.le_of_ble_eq_true rfl) rfl ?_
          refine tq_inc (k := (1 : Int32)) (ls' := [some (vR x0), some (vR x1), some (vR x2), none, some (vI x4), some (vI x5), some (vI x6), some (vI x7), some (vI v5), some (vI (x9 + (1 : Int32)))]) dLw_mends_86 rfl tni_1 (Nat.le_of_ble_eq_true rfl) rfl ?_
          refine tq_goto (tgt := 59) dLw_mends_89 (by decide) ?_
          refine tpR.fo (ls' := [some (vR x0), some (vR x1), some (vR x2), none, some (vI x4), some (vI x5), some (vI x6), some (vI x7), some (vI v5), some (vI (x9 + (1 : Int32)))]) ?_ (And.intro rfl (And.intro rfl (And.intro rfl (And.intro rfl (And.intro rfl (And.intro rfl (And.intro rfl (And.intro rfl (And.intro rfl trivial)))))))))
          exact ih _ _ _ _ _ _ _ _ _ _ hw
theorem s_Lw_mends_237 {h0 : tpH} {av : List tpV} {R : tpH → Prop} {K2 : (Option Nat) → (Option Nat) → (Option Nat) → Int32 → tpH → Prop} (k2 : ∀ (x0 : Option Nat) (x1 : Option Nat) (x2 : Option Nat) (x3 : Int32) (h : tpH), K2 x0 x1 x2 x3 h → tpR Lw_mends 3 h0 av (tpOv R (fun _ _ => False)) 2 [some (vR x0), some (vR x1), some (vR x2), some (vI x3), none, none, none, none, none, none] [] h) : ∀ (n : Nat) (x0 : Option Nat) (x1 : Option Nat) (x2 : Option Nat) (x3 : Int32) (x6 : Option Nat) (x8 : Int32) (h : tpH), w_Lw_mends_237 R K2 n x0 x1 x2 x3 x6 x8 h → tpR Lw_mends 3 h0 av (tpOv R (fun _ _ => False)) 237 [some (vR x0), some (vR x1), some (vR x2), some (vI x3), none, none, some (vR x6), none, some (vI x8), none] [] h := by
  intro n
  induction n with
  | zero => intro x0 x1 x2 x3 x6 x8 h hw; exact False.elim hw
  | succ n ih =>
    intro x0 x1 x2 x3 x6 x8 h hw
    change b_Lw_mends_237 R K2 (w_Lw_mends_237 R K2 n) x0 x1 x2 x3 x6 x8 h at hw
    unfold b_Lw_mends_237 at hw
    refine tq_iload dLw_mends_237 rfl ?_
    refine tq_bipush (v := (40 : Int32)) dLw_mends_239 tnb_40 ?_
    refine tq_icmpge (tgt := 314) dLw_mends_241 (by decide) (fun c1 => ?_) (fun c1 => ?_)
    · have hw := hw.1 c1
      refine tq_goto (tgt := 2) dLw_mends_314 (by decide) ?_
      refine tpR.fo (ls' := [some (vR x0), some (vR x1), some (vR x2), some (vI x3), none, none, none, none, none, none]) ?_ (And.intro rfl (And.intro rfl (And.intro rfl (And.intro rfl trivial))))
      exact k2 _ _ _ _ _ hw
    · have hw := hw.2 c1
      refine tq_aload dLw_mends_244 rfl ?_
      refine tq_iload dLw_mends_246 rfl ?_
      obtain ⟨a2, e3, f4, hw⟩ := hw
      obtain ⟨f5, hw⟩ := hw
      refine te_iald dLw_mends_248 e3 (Or.inl f4) f5 ?_
      refine tq_iconst (v := (1 : Int32)) dLw_mends_249 tni_1 ?_
      refine tq_icmpne (tgt := 308) dLw_mends_250 (by decide) (fun c6 => ?_) (fun c6 => ?_)
      · have hw := hw.1 c6
        refine tq_inc (k := (1 : Int32)) (ls' := [some (vR x0), some (vR x1), some (vR x2), some (vI x3), none, none, some (vR x6), none, some (vI (x8 + (1 : Int32))), none]) dLw_mends_308 rfl tni_1 (Nat.le_of_ble_eq_true rfl) rfl ?_
        refine tq_goto (tgt := 237) dLw_mends_311 (by decide) ?_
        refine tpR.fo (ls' := [some (vR x0), some (vR x1), some (vR x2), some (vI x3), none, none, some (vR x6), none, some (vI (x8 + (1 : Int32))), none]) ?_ (And.intro rfl (And.intro rfl (And.intro rfl (And.intro rfl (And.intro rfl (And.intro rfl trivial))))))
        exact ih _ _ _ _ _ _ _ hw
      · have hw := hw.2 c6
        refine tq_aload_n dLw_mends_253 rfl rfl ?_
        refine tq_iload dLw_mends_254 rfl ?_
        refine tq_callS ms_Lw_place (dc := 1) (as := [vR x0, vI x8]) (rest := []) kLw_13 (Nat.le_of_ble_eq_true rfl) (Nat.le_of_ble_eq_true rfl) rfl rfl (Nat.le_of_ble_eq_true rfl) dLw_mends_256 (s_Lw_place hw) (fun _ _ hx => False.elim hx) (tk_i fun v8 h7 hw => ?_)
        refine tq_iflt (tgt := 308) dLw_mends_259 (by decide) (fun c9 => ?_) (fun c9 => ?_)
        · have hw := hw.1 c9
          refine tq_inc (k := (1 : Int32)) (ls' := [some (vR x0), some (vR x1), some (vR x2), some (vI x3), none, none, some (vR x6), none, some (vI (x8 + (1 : Int32))), none]) dLw_mends_308 rfl tni_1 (Nat.le_of_ble_eq_true rfl) rfl ?_
          refine tq_goto (tgt := 237) dLw_mends_311 (by decide) ?_
          refine tpR.fo (ls' := [some (vR x0), some (vR x1), some (vR x2), some (vI x3), none, none, some (vR x6), none, some (vI (x8 + (1 : Int32))), none]) ?_ (And.intro rfl (And.intro rfl (And.intro rfl (And.intro rfl (And.intro rfl (And.intro rfl trivial))))))
          exact ih _ _ _ _ _ _ _ hw
        · have hw := hw.2 c9
          refine tq_aload_n dLw_mends_262 rfl rfl ?_
          refine tq_iconst (v := (1 : Int32)) dLw_mends_263 tni_1 ?_
          refine tq_aload_n dLw_mends_264 rfl rfl ?_
          refine tq_iload dLw_mends_265 rfl ?_
          refine tq_callS ms_Lw_place (dc := 1) (as := [vR x1, vI x8]) (rest := [vI (1 : Int32), vR x1]) kLw_13 (Nat.le_of_ble_eq_true rfl) (Nat.le_of_ble_eq_true rfl) rfl rfl (Nat.le_of_ble_eq_true rfl) dLw_mends_267 (s_Lw_place hw) (fun _ _ hx => False.elim hx) (tk_i fun v11 h10 hw => ?_)
          refine tq_iadd dLw_mends_270 ?_
          refine tq_iload dLw_mends_271 rfl ?_
          refine tq_bipush (v := (64 : Int32)) dLw_mends_273 tnb_64 ?_
          refine tq_aload_n dLw_mends_275 rfl rfl ?_
          refine tq_iload dLw_mends_276 rfl ?_
          refine tq_callS ms_Lw_valueOf (dc := 2) (as := [vR x1, vI x8]) (rest := [vI (64 : Int32), vI x8, vI ((1 : Int32) + v11), vR x1]) kLw_86 (Nat.le_of_ble_eq_true rfl) (Nat.le_of_ble_eq_true rfl) rfl rfl (Nat.le_of_ble_eq_true rfl) dLw_mends_278 (s_Lw_valueOf hw) (fun _ _ hx => False.elim hx) (tk_i fun v13 h12 hw => ?_)
          refine tq_imul dLw_mends_281 ?_
          refine tq_iadd dLw_mends_282 ?_
          refine tq_sipush (v := (8192 : Int32)) dLw_mends_283 tns_8192 ?_
          refine tq_aload_n dLw_mends_286 rfl rfl ?_
          refine tq_iload dLw_mends_287 rfl ?_
          refine tq_callS ms_Lw_parentOf (dc := 2) (as := [vR x0, vI x8]) (rest := [vI (8192 : Int32), vI (x8 + ((64 : Int32) * v13)), vI ((1 : Int32) + v11), vR x1]) kLw_40 (Nat.le_of_ble_eq_true rfl) (Nat.le_of_ble_eq_true rfl) rfl rfl (Nat.le_of_ble_eq_true rfl) dLw_mends_289 (s_Lw_parentOf hw) (fun _ _ hx => False.elim hx) (tk_i fun v15 h14 hw => ?_)
          refine tq_iconst (v := (1 : Int32)) dLw_mends_292 tni_1 ?_
          refine tq_iadd dLw_mends_293 ?_
          refine tq_imul dLw_mends_294 ?_
          refine tq_iadd dLw_mends_295 ?_
          obtain ⟨a16, e17, f18, hw⟩ := hw
          obtain ⟨f19, hw⟩ := hw
          refine te_iast dLw_mends_296 e17 f18 f19 (fun h20 e21 => ?_)
          have hw := hw h20 e21
          refine tq_aload_n dLw_mends_297 rfl rfl ?_
          refine tq_bipush (v := (8 : Int32)) dLw_mends_298 tnb_8 ?_
          refine tq_iload dLw_mends_300 rfl ?_
          refine tq_imul dLw_mends_302 ?_
          refine tq_iconst (v := (4 : Int32)) dLw_mends_303 tni_4 ?_
          refine tq_iadd dLw_mends_304 ?_
          refine tq_callS ms_Lw_adds (dc := 0) (as := [vR x2, vI (((8 : Int32) * x8) + (4 : Int32))]) (rest := []) kLw_89 (Nat.le_of_ble_eq_true rfl) (Nat.le_of_ble_eq_true rfl) rfl rfl (Nat.le_of_ble_eq_true rfl) dLw_mends_305 (s_Lw_adds hw) (fun _ _ hx => False.elim hx) (tk_v fun h22 hw => ?_)
          refine tq_inc (k := (1 : Int32)) (ls' := [some (vR x0), some (vR x1), some (vR x2), some (vI x3), none, none, some (vR x6), none, some (vI (x8 + (1 : Int32))), none]) dLw_mends_308 rfl tni_1 (Nat.le_of_ble_eq_true rfl) rfl ?_
          refine tq_goto (tgt := 237) dLw_mends_311 (by decide) ?_
          refine tpR.fo (ls' := [some (vR x0), some (vR x1), some (vR x2), some (vI x3), none, none, some (vR x6), none, some (vI (x8 + (1 : Int32))), none]) ?_ (And.intro rfl (And.intro rfl (And.intro rfl (And.intro rfl (And.intro rfl (And.intro rfl trivial))))))
          exact ih _ _ _ _ _ _ _ hw
theorem s_Lw_mends_209 {h0 : tpH} {av : List tpV} {R : tpH → Prop} {K2 : (Option Nat) → (Option Nat) → (Option Nat) → Int32 → tpH → Prop} (k2 : ∀ (x0 : Option Nat) (x1 : Option Nat) (x2 : Option Nat) (x3 : Int32) (h : tpH), K2 x0 x1 x2 x3 h → tpR Lw_mends 3 h0 av (tpOv R (fun _ _ => False)) 2 [some (vR x0), some (vR x1), some (vR x2), some (vI x3), none, none, none, none, none, none] [] h) : ∀ (n : Nat) (x0 : Option Nat) (x1 : Option Nat) (x2 : Option Nat) (x3 : Int32) (x6 : Option Nat) (x7 : Int32) (h : tpH), w_Lw_mends_209 R K2 n x0 x1 x2 x3 x6 x7 h → tpR Lw_mends 3 h0 av (tpOv R (fun _ _ => False)) 209 [some (vR x0), some (vR x1), some (vR x2), some (vI x3), none, none, some (vR x6), some (vI x7), none, none] [] h := by
  intro n
  induction n with
  | zero => intro x0 x1 x2 x3 x6 x7 h hw; exact False.elim hw
  | succ n ih =>
    intro x0 x1 x2 x3 x6 x7 h hw
    change b_Lw_mends_209 R K2 (w_Lw_mends_209 R K2 n) x0 x1 x2 x3 x6 x7 h at hw
    unfold b_Lw_mends_209 at hw
    refine tq_aload dLw_mends_209 rfl ?_
    refine tq_iload dLw_mends_211 rfl ?_
    obtain ⟨a1, e2, f3, hw⟩ := hw
    obtain ⟨f4, hw⟩ := hw
    refine te_iald dLw_mends_213 e2 (Or.inl f3) f4 ?_
    refine tq_ifne (tgt := 234) dLw_mends_214 (by decide) (fun c5 => ?_) (fun c5 => ?_)
    · have hw := hw.1 c5
      refine tq_iconst (v := (0 : Int32)) dLw_mends_234 tni_0 ?_
      refine tq_istore (ls' := [some (vR x0), some (vR x1), some (vR x2), some (vI x3), none, none, some (vR x6), some (vI x7), some (vI (0 : Int32)), none]) dLw_mends_235 (Nat.le_of_ble_eq_true rfl) rfl ?_
      refine tpR.fo (ls' := [some (vR x0), some (vR x1), some (vR x2), some (vI x3), none, none, some (vR x6), none, some (vI (0 : Int32)), none]) ?_ (And.intro rfl (And.intro rfl (And.intro rfl (And.intro rfl (And.intro rfl (And.intro rfl trivial))))))
      obtain ⟨n, hw⟩ := hw
      exact s_Lw_mends_237 k2 n _ _ _ _ _ _ _ hw
    · have hw := hw.2 c5
      refine tq_aload dLw_mends_217 rfl ?_
      refine tq_iload dLw_mends_219 rfl ?_
      refine tq_iconst (v := (1 : Int32)) dLw_mends_221 tni_1 ?_
      obtain ⟨f6, hw⟩ := hw
      refine te_iast dLw_mends_222 e2 f3 f6 (fun h7 e8 => ?_)
      have hw := hw h7 e8
      refine tq_aload_n dLw_mends_223 rfl rfl ?_
      refine tq_iload dLw_mends_224 rfl ?_
      refine tq_callS ms_Lw_parentOf (dc := 2) (as := [vR x1, vI x7]) (rest := []) kLw_40 (Nat.le_of_ble_eq_true rfl) (Nat.le_of_ble_eq_true rfl) rfl rfl (Nat.le_of_ble_eq_true rfl) dLw_mends_226 (s_Lw_parentOf hw) (fun _ _ hx => False.elim hx) (tk_i fun v10 h9 hw => ?_)
      refine tq_istore (ls' := [some (vR x0), some (vR x1), some (vR x2), some (vI x3), none, none, some (vR x6), some (vI v10), none, none]) dLw_mends_229 (Nat.le_of_ble_eq_true rfl) rfl ?_
      refine tq_goto (tgt := 209) dLw_mends_231 (by decide) ?_
      refine tpR.fo (ls' := [some (vR x0), some (vR x1), some (vR x2), some (vI x3), none, none, some (vR x6), some (vI v10), none, none]) ?_ (And.intro rfl (And.intro rfl (And.intro rfl (And.intro rfl (And.intro rfl (And.intro rfl trivial))))))
      exact ih _ _ _ _ _ _ _ hw
theorem s_Lw_mends_134 {h0 : tpH} {av : List tpV} {R : tpH → Prop} {K2 : (Option Nat) → (Option Nat) → (Option Nat) → Int32 → tpH → Prop} (k2 : ∀ (x0 : Option Nat) (x1 : Option Nat) (x2 : Option Nat) (x3 : Int32) (h : tpH), K2 x0 x1 x2 x3 h → tpR Lw_mends 3 h0 av (tpOv R (fun _ _ => False)) 2 [some (vR x0), some (vR x1), some (vR x2), some (vI x3), none, none, none, none, none, none] [] h) : ∀ (x0 : Option Nat) (x1 : Option Nat) (x2 : Option Nat) (x4 : Int32) (x5 : Int32) (t0 : Int32) (h : tpH), w_Lw_mends_134 R K2 x0 x1 x2 x4 x5 t0 h → tpR Lw_mends 3 h0 av (tpOv R (fun _ _ => False)) 134 [some (vR x0), some (vR x1), some (vR x2), none, some (vI x4), some (vI x5), none, none, none, none] [vI t0] h := by
  intro x0 x1 x2 x4 x5 t0 h hw
  unfold w_Lw_mends_134 at hw
  refine tq_istore_n (ls' := [some (vR x0), some (vR x1), some (vR x2), some (vI t0), some (vI x4), some (vI x5), none, none, none, none]) dLw_mends_134 rfl (Nat.le_of_ble_eq_true rfl) rfl ?_
  refine tq_iload dLw_mends_135 rfl ?_
  refine tq_iflt (tgt := 194) dLw_mends_137 (by decide) (fun c1 => ?_) (fun c1 => ?_)
  · have hw := hw.1 c1
    refine tq_iload dLw_mends_194 rfl ?_
    refine tq_iflt (tgt := 314) dLw_mends_196 (by decide) (fun c2 => ?_) (fun c2 => ?_)
    · have hw := hw.1 c2
      refine tq_goto (tgt := 2) dLw_mends_314 (by decide) ?_
      refine tpR.fo (ls' := [some (vR x0), some (vR x1), some (vR x2), some (vI t0), none, none, none, none, none, none]) ?_ (And.intro rfl (And.intro rfl (And.intro rfl (And.intro rfl trivial))))
      exact k2 _ _ _ _ _ hw
    · have hw := hw.2 c2
      refine tq_bipush (v := (40 : Int32)) dLw_mends_199 tnb_40 ?_
      refine tq_newa tpN_int (N := 40) dLw_mends_201 (by decide) (by decide) (Nat.le_of_ble_eq_true rfl) (fun a3 h4 e5 e6 => ?_)
      have hw := hw a3 h4 e5 e6
      refine tq_astore (ls' := [some (vR x0), some (vR x1), some (vR x2), some (vI t0), some (vI x4), some (vI x5), some (vR (some a3)), none, none, none]) dLw_mends_203 (Nat.le_of_ble_eq_true rfl) rfl ?_
      refine tq_iload dLw_mends_205 rfl ?_
      refine tq_istore (ls' := [some (vR x0), some (vR x1), some (vR x2), some (vI t0), some (vI x4), some (vI x5), some (vR (some a3)), some (vI x5), none, none]) dLw_mends_207 (Nat.le_of_ble_eq_true rfl) rfl ?_
      refine tpR.fo (ls' := [some (vR x0), some (vR x1), some (vR x2), some (vI t0), none, none, some (vR (some a3)), some (vI x5), none, none]) ?_ (And.intro rfl (And.intro rfl (And.intro rfl (And.intro rfl (And.intro rfl (And.intro rfl trivial))))))
      obtain ⟨n, hw⟩ := hw
      exact s_Lw_mends_209 k2 n _ _ _ _ _ _ _ hw
  · have hw := hw.2 c1
    refine tq_aload_n dLw_mends_140 rfl rfl ?_
    refine tq_iload dLw_mends_141 rfl ?_
    refine tq_callS ms_Lw_parentOf (dc := 2) (as := [vR x1, vI x4]) (rest := []) kLw_40 (Nat.le_of_ble_eq_true rfl) (Nat.le_of_ble_eq_true rfl) rfl rfl (Nat.le_of_ble_eq_true rfl) dLw_mends_143 (s_Lw_parentOf hw) (fun _ _ hx => False.elim hx) (tk_i fun v8 h7 hw => ?_)
    refine tq_istore (ls' := [some (vR x0), some (vR x1), some (vR x2), some (vI t0), some (vI x4), some (vI x5), some (vI v8), none, none, none]) dLw_mends_146 (Nat.le_of_ble_eq_true rfl) rfl ?_
    refine tq_aload_n dLw_mends_148 rfl rfl ?_
    refine tq_aload_n dLw_mends_149 rfl rfl ?_
    refine tq_iconst (v := (0 : Int32)) dLw_mends_150 tni_0 ?_
    obtain ⟨a9, e10, f11, hw⟩ := hw
    obtain ⟨f12, hw⟩ := hw
    refine te_iald dLw_mends_151 e10 (Or.inl f11) f12 ?_
    refine tq_iload dLw_mends_152 rfl ?_
    refine tq_bipush (v := (64 : Int32)) dLw_mends_154 tnb_64 ?_
    refine tq_aload_n dLw_mends_156 rfl rfl ?_
    refine tq_iload dLw_mends_157 rfl ?_
    refine tq_callS ms_Lw_valueOf (dc := 2) (as := [vR x0, vI v8]) (rest := [vI (64 : Int32), vI v8, vI (hI h7 a9 (0 : Int32).toNatClampNeg), vR x1]) kLw_86 (Nat.le_of_ble_eq_true rfl) (Nat.le_of_ble_eq_true rfl) rfl rfl (Nat.le_of_ble_eq_true rfl) dLw_mends_159 (s_Lw_valueOf hw) (fun _ _ hx => False.elim hx) (tk_i fun v14 h13 hw => ?_)
    refine tq_imul dLw_mends_162 ?_
    refine tq_iadd dLw_mends_163 ?_
    refine tq_sipush (v := (8192 : Int32)) dLw_mends_164 tns_8192 ?_
    refine tq_aload_n dLw_mends_167 rfl rfl ?_
    refine tq_iload dLw_mends_168 rfl ?_
    refine tq_callS ms_Lw_parentOf (dc := 2) (as := [vR x0, vI v8]) (rest := [vI (8192 : Int32), vI (v8 + ((64 : Int32) * v14)), vI (hI h7 a9 (0 : Int32).toNatClampNeg), vR x1]) kLw_40 (Nat.le_of_ble_eq_true rfl) (Nat.le_of_ble_eq_true rfl) rfl rfl (Nat.le_of_ble_eq_true rfl) dLw_mends_170 (s_Lw_parentOf hw) (fun _ _ hx => False.elim hx) (tk_i fun v16 h15 hw => ?_)
    refine tq_iconst (v := (1 : Int32)) dLw_mends_173 tni_1 ?_
    refine tq_iadd dLw_mends_174 ?_
    refine tq_imul dLw_mends_175 ?_
    refine tq_iadd dLw_mends_176 ?_
    refine tq_callS ms_Lw_puts (dc := 0) (as := [vR x1, vI (hI h7 a9 (0 : Int32).toNatClampNeg), vI ((v8 + ((64 : Int32) * v14)) + ((8192 : Int32) * (v16 + (1 : Int32))))]) (rest := []) kLw_101 (Nat.le_of_ble_eq_true rfl) (Nat.le_of_ble_eq_true rfl) rfl rfl (Nat.le_of_ble_eq_true rfl) dLw_mends_177 (s_Lw_puts hw) (fun _ _ hx => False.elim hx) (tk_v fun h17 hw => ?_)
    refine tq_aload_n dLw_mends_180 rfl rfl ?_
    refine tq_bipush (v := (8 : Int32)) dLw_mends_181 tnb_8 ?_
    refine tq_iload dLw_mends_183 rfl ?_
    refine tq_imul dLw_mends_185 ?_
    refine tq_iconst (v := (3 : Int32)) dLw_mends_186 tni_3 ?_
    refine tq_iadd dLw_mends_187 ?_
    refine tq_callS ms_Lw_adds (dc := 0) (as := [vR x2, vI (((8 : Int32) * v8) + (3 : Int32))]) (rest := []) kLw_89 (Nat.le_of_ble_eq_true rfl) (Nat.le_of_ble_eq_true rfl) rfl rfl (Nat.le_of_ble_eq_true rfl) dLw_mends_188 (s_Lw_adds hw) (fun _ _ hx => False.elim hx) (tk_v fun h18 hw => ?_)
    refine tq_goto (tgt := 314) dLw_mends_191 (by decide) ?_
    refine tq_goto (tgt := 2) dLw_mends_314 (by decide) ?_
    refine tpR.fo (ls' := [some (vR x0), some (vR x1), some (vR x2), some (vI t0), none, none, none, none, none, none]) ?_ (And.intro rfl (And.intro rfl (And.intro rfl (And.intro rfl trivial))))
    exact k2 _ _ _ _ _ hw
theorem s_Lw_mends_16 {h0 : tpH} {av : List tpV} {R : tpH → Prop} {K2 : (Option Nat) → (Option Nat) → (Option Nat) → Int32 → tpH → Prop} (k2 : ∀ (x0 : Option Nat) (x1 : Option Nat) (x2 : Option Nat) (x3 : Int32) (h : tpH), K2 x0 x1 x2 x3 h → tpR Lw_mends 3 h0 av (tpOv R (fun _ _ => False)) 2 [some (vR x0), some (vR x1), some (vR x2), some (vI x3), none, none, none, none, none, none] [] h) : ∀ (n : Nat) (x0 : Option Nat) (x1 : Option Nat) (x2 : Option Nat) (x4 : Int32) (x5 : Int32) (x6 : Int32) (h : tpH), w_Lw_mends_16 R K2 n x0 x1 x2 x4 x5 x6 h → tpR Lw_mends 3 h0 av (tpOv R (fun _ _ => False)) 16 [some (vR x0), some (vR x1), some (vR x2), none, some (vI x4), some (vI x5), some (vI x6), none, none, none] [] h := by
  intro n
  induction n with
  | zero => intro x0 x1 x2 x4 x5 x6 h hw; exact False.elim hw
  | succ n ih =>
    intro x0 x1 x2 x4 x5 x6 h hw
    change b_Lw_mends_16 R K2 (w_Lw_mends_16 R K2 n) x0 x1 x2 x4 x5 x6 h at hw
    unfold b_Lw_mends_16 at hw
    refine tq_iload dLw_mends_16 rfl ?_
    refine tq_iflt (tgt := 119) dLw_mends_18 (by decide) (fun c1 => ?_) (fun c1 => ?_)
    · have hw := hw.1 c1
      refine tq_iload dLw_mends_119 rfl ?_
      refine tq_ifge (tgt := 129) dLw_mends_121 (by decide) (fun c2 => ?_) (fun c2 => ?_)
      · have hw := hw.1 c2
        refine tq_iconst (v := (1 : Int32)) dLw_mends_129 tni_1 ?_
        refine tq_goto (tgt := 134) dLw_mends_130 (by decide) ?_
        refine tpR.fo (ls' := [some (vR x0), some (vR x1), some (vR x2), none, some (vI x4), some (vI x5), none, none, none, none]) ?_ (And.intro rfl (And.intro rfl (And.intro rfl (And.intro rfl (And.intro rfl trivial)))))
        exact s_Lw_mends_134 k2 _ _ _ _ _ _ _ hw
      · have hw := hw.2 c2
        refine tq_iload dLw_mends_124 rfl ?_
        refine tq_iflt (tgt := 133) dLw_mends_126 (by decide) (fun c3 => ?_) (fun c3 => ?_)
        · have hw := hw.1 c3
          refine tq_iconst (v := (0 : Int32)) dLw_mends_133 tni_0 ?_
          refine tpR.fo (ls' := [some (vR x0), some (vR x1), some (vR x2), none, some (vI x4), some (vI x5), none, none, none, none]) ?_ (And.intro rfl (And.intro rfl (And.intro rfl (And.intro rfl (And.intro rfl trivial)))))
          exact s_Lw_mends_134 k2 _ _ _ _ _ _ _ hw
        · have hw := hw.2 c3
          refine tq_iconst (v := (1 : Int32)) dLw_mends_129 tni_1 ?_
          refine tq_goto (tgt := 134) dLw_mends_130 (by decide) ?_
          refine tpR.fo (ls' := [some (vR x0), some (vR x1), some (vR x2), none, some (vI x4), some (vI x5), none, none, none, none]) ?_ (And.intro rfl (And.intro rfl (And.intro rfl (And.intro rfl (And.intro rfl trivial)))))
          exact s_Lw_mends_134 k2 _ _ _ _ _ _ _ hw
    · have hw := hw.2 c1
      refine tq_aload_n dLw_mends_21 rfl rfl ?_
      refine tq_iload dLw_mends_22 rfl ?_
      refine tq_callS ms_Lw_parentOf (dc := 2) (as := [vR x1, vI x6]) (rest := []) kLw_40 (Nat.le_of_ble_eq_true rfl) (Nat.le_of_ble_eq_true rfl) rfl rfl (Nat.le_of_ble_eq_true rfl) dLw_mends_24 (s_Lw_parentOf hw) (fun _ _ hx => False.elim hx) (tk_i fun v5 h4 hw => ?_)
      refine tq_istore (ls' := [some (vR x0), some (vR x1), some (vR x2), none, some (vI x4), some (vI x5), some (vI x6), some (vI v5), none, none]) dLw_mends_27 (Nat.le_of_ble_eq_true rfl) rfl ?_
      refine tq_iload dLw_mends_29 rfl ?_
      refine tq_iflt (tgt := 48) dLw_mends_31 (by decide) (fun c6 => ?_) (fun c6 => ?_)
      · have hw := hw.1 c6
        refine tq_iload dLw_mends_48 rfl ?_
        refine tq_istore (ls' := [some (vR x0), some (vR x1), some (vR x2), none, some (vI x4), some (vI x5), some (vI x6), some (vI v5), none, none]) dLw_mends_50 (Nat.le_of_ble_eq_true rfl) rfl ?_
        refine tq_iload dLw_mends_52 rfl ?_
        refine tq_istore (ls' := [some (vR x0), some (vR x1), some (vR x2), none, some (vI x4), some (vI x5), some (vI x6), some (vI v5), some (vI v5), none]) dLw_mends_54 (Nat.le_of_ble_eq_true rfl) rfl ?_
        refine tq_iconst (v := (0 : Int32)) dLw_mends_56 tni_0 ?_
        refine tq_istore (ls' := [some (vR x0), some (vR x1), some (vR x2), none, some (vI x4), some (vI x5), some (vI x6), some (vI v5), some (vI v5), some (vI (0 : Int32))]) dLw_mends_57 (Nat.le_of_ble_eq_true rfl) rfl ?_
        refine tpR.fo (ls' := [some (vR x0), some (vR x1), some (vR x2), none, some (vI x4), some (vI x5), some (vI x6), some (vI v5), some (vI v5), some (vI (0 : Int32))]) ?_ (And.intro rfl (And.intro rfl (And.intro rfl (And.intro rfl (And.intro rfl (And.intro rfl (And.intro rfl (And.intro rfl (And.intro rfl trivial)))))))))
        obtain ⟨n, hw⟩ := hw
        exact s_Lw_mends_59 ih n _ _ _ _ _ _ _ _ _ _ hw
      · have hw := hw.2 c6
        refine tq_aload_n dLw_mends_34 rfl rfl ?_
        refine tq_iload dLw_mends_35 rfl ?_
        refine tq_callS ms_Lw_place (dc := 1) (as := [vR x1, vI v5]) (rest := []) kLw_13 (Nat.le_of_ble_eq_true rfl) (Nat.le_of_ble_eq_true rfl) rfl rfl (Nat.le_of_ble_eq_true rfl) dLw_mends_37 (s_Lw_place hw) (fun _ _ hx => False.elim hx) (tk_i fun v8 h7 hw => ?_)
        refine tq_ifge (tgt := 48) dLw_mends_40 (by decide) (fun c9 => ?_) (fun c9 => ?_)
        · have hw := hw.1 c9
          refine tq_iload dLw_mends_48 rfl ?_
          refine tq_istore (ls' := [some (vR x0), some (vR x1), some (vR x2), none, some (vI x4), some (vI x5), some (vI x6), some (vI v5), none, none]) dLw_mends_50 (Nat.le_of_ble_eq_true rfl) rfl ?_
          refine tq_iload dLw_mends_52 rfl ?_
          refine tq_istore (ls' := [some (vR x0), some (vR x1), some (vR x2), none, some (vI x4), some (vI x5), some (vI x6), some (vI v5), some (vI v5), none]) dLw_mends_54 (Nat.le_of_ble_eq_true rfl) rfl ?_
          refine tq_iconst (v := (0 : Int32)) dLw_mends_56 tni_0 ?_
          refine tq_istore (ls' := [some (vR x0), some (vR x1), some (vR x2), none, some (vI x4), some (vI x5), some (vI x6), some (vI v5), some (vI v5), some (vI (0 : Int32))]) dLw_mends_57 (Nat.le_of_ble_eq_true rfl) rfl ?_
          refine tpR.fo (ls' := [some (vR x0), some (vR x1), some (vR x2), none, some (vI x4), some (vI x5), some (vI x6), some (vI v5), some (vI v5), some (vI (0 : Int32))]) ?_ (And.intro rfl (And.intro rfl (And.intro rfl (And.intro rfl (And.intro rfl (And.intro rfl (And.intro rfl (And.intro rfl (And.intro rfl trivial)))))))))
          obtain ⟨n, hw⟩ := hw
          exact s_Lw_mends_59 ih n _ _ _ _ _ _ _ _ _ _ hw
        · have hw := hw.2 c9
          refine tq_iload dLw_mends_43 rfl ?_
          refine tq_goto (tgt := 50) dLw_mends_45 (by decide) ?_
          refine tq_istore (ls' := [some (vR x0), some (vR x1), some (vR x2), none, some (vI x6), some (vI x5), some (vI x6), some (vI v5), none, none]) dLw_mends_50 (Nat.le_of_ble_eq_true rfl) rfl ?_
          refine tq_iload dLw_mends_52 rfl ?_
          refine tq_istore (ls' := [some (vR x0), some (vR x1), some (vR x2), none, some (vI x6), some (vI x5), some (vI x6), some (vI v5), some (vI v5), none]) dLw_mends_54 (Nat.le_of_ble_eq_true rfl) rfl ?_
          refine tq_iconst (v := (0 : Int32)) dLw_mends_56 tni_0 ?_
          refine tq_istore (ls' := [some (vR x0), some (vR x1), some (vR x2), none, some (vI x6), some (vI x5), some (vI x6), some (vI v5), some (vI v5), some (vI (0 : Int32))]) dLw_mends_57 (Nat.le_of_ble_eq_true rfl) rfl ?_
          refine tpR.fo (ls' := [some (vR x0), some (vR x1), some (vR x2), none, some (vI x6), some (vI x5), some (vI x6), some (vI v5), some (vI v5), some (vI (0 : Int32))]) ?_ (And.intro rfl (And.intro rfl (And.intro rfl (And.intro rfl (And.intro rfl (And.intro rfl (And.intro rfl (And.intro rfl (And.intro rfl trivial)))))))))
          obtain ⟨n, hw⟩ := hw
          exact s_Lw_mends_59 ih n _ _ _ _ _ _ _ _ _ _ hw
theorem s_Lw_mends_2 {h0 : tpH} {av : List tpV} {R : tpH → Prop} : ∀ (n : Nat) (x0 : Option Nat) (x1 : Option Nat) (x2 : Option Nat) (x3 : Int32) (h : tpH), w_Lw_mends_2 R n x0 x1 x2 x3 h → tpR Lw_mends 3 h0 av (tpOv R (fun _ _ => False)) 2 [some (vR x0), some (vR x1), some (vR x2), some (vI x3), none, none, none, none, none, none] [] h := by
  intro n
  induction n with
  | zero => intro x0 x1 x2 x3 h hw; exact False.elim hw
  | succ n ih =>
    intro x0 x1 x2 x3 h hw
    change b_Lw_mends_2 R (w_Lw_mends_2 R n) x0 x1 x2 x3 h at hw
    unfold b_Lw_mends_2 at hw
    refine tq_iload_n dLw_mends_2 rfl rfl ?_
    refine tq_ifeq (tgt := 317) dLw_mends_3 (by decide) (fun c1 => ?_) (fun c1 => ?_)
    · have hw := hw.1 c1
      exact tq_vret rfl dLw_mends_317 hw
    · have hw := hw.2 c1
      refine tq_iconst (v := (-1 : Int32)) dLw_mends_6 tni_m1 ?_
      refine tq_istore (ls' := [some (vR x0), some (vR x1), some (vR x2), some (vI x3), some (vI (-1 : Int32)), none, none, none, none, none]) dLw_mends_7 (Nat.le_of_ble_eq_true rfl) rfl ?_
      refine tq_iconst (v := (-1 : Int32)) dLw_mends_9 tni_m1 ?_
      refine tq_istore (ls' := [some (vR x0), some (vR x1), some (vR x2), some (vI x3), some (vI (-1 : Int32)), some (vI (-1 : Int32)), none, none, none, none]) dLw_mends_10 (Nat.le_of_ble_eq_true rfl) rfl ?_
      refine tq_bipush (v := (39 : Int32)) dLw_mends_12 tnb_39 ?_
      refine tq_istore (ls' := [some (vR x0), some (vR x1), some (vR x2), some (vI x3), some (vI (-1 : Int32)), some (vI (-1 : Int32)), some (vI (39 : Int32)), none, none, none]) dLw_mends_14 (Nat.le_of_ble_eq_true rfl) rfl ?_
      refine tpR.fo (ls' := [some (vR x0), some (vR x1), some (vR x2), none, some (vI (-1 : Int32)), some (vI (-1 : Int32)), some (vI (39 : Int32)), none, none, none]) ?_ (And.intro rfl (And.intro rfl (And.intro rfl (And.intro rfl (And.intro rfl (And.intro rfl trivial))))))
      obtain ⟨n, hw⟩ := hw
      exact s_Lw_mends_16 ih n _ _ _ _ _ _ _ hw
theorem s_Lw_mends {x0 : Option Nat} {x1 : Option Nat} {x2 : Option Nat} {h : tpH} {R : tpH → Prop} (hw : w_Lw_mends x0 x1 x2 h R) : tpC Lw_mends 3 [vR x0, vR x1, vR x2] h (tpOv R (fun _ _ => False)) := by
  refine tpC_of ms_Lw_mends.2.2.2.1 rfl rfl (Nat.le_of_ble_eq_true rfl) ?_
  show tpR Lw_mends 3 h _ _ 0 [some (vR x0), some (vR x1), some (vR x2), none, none, none, none, none, none, none] [] h
  unfold w_Lw_mends at hw
  refine tq_iconst (v := (1 : Int32)) dLw_mends_0 tni_1 ?_
  refine tq_istore_n (ls' := [some (vR x0), some (vR x1), some (vR x2), some (vI (1 : Int32)), none, none, none, none, none, none]) dLw_mends_1 rfl (Nat.le_of_ble_eq_true rfl) rfl ?_
  refine tpR.fo (ls' := [some (vR x0), some (vR x1), some (vR x2), some (vI (1 : Int32)), none, none, none, none, none, none]) ?_ (And.intro rfl (And.intro rfl (And.intro rfl (And.intro rfl trivial))))
  obtain ⟨n, hw⟩ := hw
  exact s_Lw_mends_2 n _ _ _ _ _ hw
/-! TLaw.at -/
theorem dLw_at_0 : decode (mB Lw_at) 0 = .ok (.iconst (-1), 1) := by decide +kernel
theorem dLw_at_1 : decode (mB Lw_at) 1 = .ok (.istore_n 3, 1) := by decide +kernel
theorem dLw_at_2 : decode (mB Lw_at) 2 = .ok (.iconst 0, 1) := by decide +kernel
theorem dLw_at_3 : decode (mB Lw_at) 3 = .ok (.istore 4, 2) := by decide +kernel
theorem dLw_at_5 : decode (mB Lw_at) 5 = .ok (.iload 4, 2) := by decide +kernel
theorem dLw_at_7 : decode (mB Lw_at) 7 = .ok (.iload_n 1, 1) := by decide +kernel
theorem dLw_at_8 : decode (mB Lw_at) 8 = .ok (.if_icmp .ge 24, 3) := by decide +kernel
theorem dLw_at_11 : decode (mB Lw_at) 11 = .ok (.aload_n 0, 1) := by decide +kernel
theorem dLw_at_12 : decode (mB Lw_at) 12 = .ok (.iload 4, 2) := by decide +kernel
theorem dLw_at_14 : decode (mB Lw_at) 14 = .ok (.iaload, 1) := by decide +kernel
theorem dLw_at_15 : decode (mB Lw_at) 15 = .ok (.iload_n 2, 1) := by decide +kernel
theorem dLw_at_16 : decode (mB Lw_at) 16 = .ok (.if_icmp .ne 8, 3) := by decide +kernel
theorem dLw_at_19 : decode (mB Lw_at) 19 = .ok (.iload 4, 2) := by decide +kernel
theorem dLw_at_21 : decode (mB Lw_at) 21 = .ok (.goto 4, 3) := by decide +kernel
theorem dLw_at_24 : decode (mB Lw_at) 24 = .ok (.iload_n 3, 1) := by decide +kernel
theorem dLw_at_25 : decode (mB Lw_at) 25 = .ok (.istore_n 3, 1) := by decide +kernel
theorem dLw_at_26 : decode (mB Lw_at) 26 = .ok (.iinc 4 1, 3) := by decide +kernel
theorem dLw_at_29 : decode (mB Lw_at) 29 = .ok (.goto (-24), 3) := by decide +kernel
theorem dLw_at_32 : decode (mB Lw_at) 32 = .ok (.iload_n 3, 1) := by decide +kernel
theorem dLw_at_33 : decode (mB Lw_at) 33 = .ok (.ireturn, 1) := by decide +kernel
def b_Lw_at_5 (R : Int32 → tpH → Prop) (Y : (Option Nat) → Int32 → Int32 → Int32 → Int32 → tpH → Prop) (x0 : Option Nat) (x1 : Int32) (x2 : Int32) (x3 : Int32) (x4 : Int32) (h : tpH) : Prop :=
  (x1 ≤ x4 → (R x3 h)) ∧ (¬ x1 ≤ x4 → (∃ a2, x0 = some a2 ∧ hT h a2 = 15 ∧ (vp_in x4 (hL h a2) ∧ ((¬ (hI h a2 x4.toNatClampNeg) = x2 → (Y x0 x1 x2 x3 (x4 + (1 : Int32)) h)) ∧ ((hI h a2 x4.toNatClampNeg) = x2 → (Y x0 x1 x2 x4 (x4 + (1 : Int32)) h))))))
def w_Lw_at_5 (R : Int32 → tpH → Prop) : Nat → (Option Nat) → Int32 → Int32 → Int32 → Int32 → tpH → Prop
  | 0 => fun _ _ _ _ _ _ => False
  | n + 1 => b_Lw_at_5 R (w_Lw_at_5 R n)
def w_Lw_at (x0 : Option Nat) (x1 : Int32) (x2 : Int32) (h : tpH) (R : Int32 → tpH → Prop) : Prop :=
  ∃ n, w_Lw_at_5 R n x0 x1 x2 (-1 : Int32) (0 : Int32) h
theorem s_Lw_at_5 {h0 : tpH} {av : List tpV} {R : Int32 → tpH → Prop} : ∀ (n : Nat) (x0 : Option Nat) (x1 : Int32) (x2 : Int32) (x3 : Int32) (x4 : Int32) (h : tpH), w_Lw_at_5 R n x0 x1 x2 x3 x4 h → tpR Lw_at 0 h0 av (tpOi R (fun _ _ => False)) 5 [some (vR x0), some (vI x1), some (vI x2), some (vI x3), some (vI x4)] [] h := by
  intro n
  induction n with
  | zero => intro x0 x1 x2 x3 x4 h hw; exact False.elim hw
  | succ n ih =>
    intro x0 x1 x2 x3 x4 h hw
    change b_Lw_at_5 R (w_Lw_at_5 R n) x0 x1 x2 x3 x4 h at hw
    unfold b_Lw_at_5 at hw
    refine tq_iload dLw_at_5 rfl ?_
    refine tq_iload_n dLw_at_7 rfl rfl ?_
    refine tq_icmpge (tgt := 32) dLw_at_8 (by decide) (fun c1 => ?_) (fun c1 => ?_)
    · have hw := hw.1 c1
      refine tq_iload_n dLw_at_32 rfl rfl ?_
      exact tq_iret rfl rfl dLw_at_33 hw
    · have hw := hw.2 c1
      refine tq_aload_n dLw_at_11 rfl rfl ?_
      refine tq_iload dLw_at_12 rfl ?_
      obtain ⟨a2, e3, f4, hw⟩ := hw
      obtain ⟨f5, hw⟩ := hw
      refine te_iald dLw_at_14 e3 (Or.inl f4) f5 ?_
      refine tq_iload_n dLw_at_15 rfl rfl ?_
      refine tq_icmpne (tgt := 24) dLw_at_16 (by decide) (fun c6 => ?_) (fun c6 => ?_)
      · have hw := hw.1 c6
        refine tq_iload_n dLw_at_24 rfl rfl ?_
        refine tq_istore_n (ls' := [some (vR x0), some (vI x1), some (vI x2), some (vI x3), some (vI x4)]) dLw_at_25 rfl (Nat.le_of_ble_eq_true rfl) rfl ?_
        refine tq_inc (k := (1 : Int32)) (ls' := [some (vR x0), some (vI x1), some (vI x2), some (vI x3), some (vI (x4 + (1 : Int32)))]) dLw_at_26 rfl tni_1 (Nat.le_of_ble_eq_true rfl) rfl ?_
        refine tq_goto (tgt := 5) dLw_at_29 (by decide) ?_
        refine tpR.fo (ls' := [some (vR x0), some (vI x1), some (vI x2), some (vI x3), some (vI (x4 + (1 : Int32)))]) ?_ (And.intro rfl (And.intro rfl (And.intro rfl (And.intro rfl (And.intro rfl trivial)))))
        exact ih _ _ _ _ _ _ hw
      · have hw := hw.2 c6
        refine tq_iload dLw_at_19 rfl ?_
        refine tq_goto (tgt := 25) dLw_at_21 (by decide) ?_
        refine tq_istore_n (ls' := [some (vR x0), some (vI x1), some (vI x2), some (vI x4), some (vI x4)]) dLw_at_25 rfl (Nat.le_of_ble_eq_true rfl) rfl ?_
        refine tq_inc (k := (1 : Int32)) (ls' := [some (vR x0), some (vI x1), some (vI x2), some (vI x4), some (vI (x4 + (1 : Int32)))]) dLw_at_26 rfl tni_1 (Nat.le_of_ble_eq_true rfl) rfl ?_
        refine tq_goto (tgt := 5) dLw_at_29 (by decide) ?_
        refine tpR.fo (ls' := [some (vR x0), some (vI x1), some (vI x2), some (vI x4), some (vI (x4 + (1 : Int32)))]) ?_ (And.intro rfl (And.intro rfl (And.intro rfl (And.intro rfl (And.intro rfl trivial)))))
        exact ih _ _ _ _ _ _ hw
theorem s_Lw_at {x0 : Option Nat} {x1 : Int32} {x2 : Int32} {h : tpH} {R : Int32 → tpH → Prop} (hw : w_Lw_at x0 x1 x2 h R) : tpC Lw_at 0 [vR x0, vI x1, vI x2] h (tpOi R (fun _ _ => False)) := by
  refine tpC_of ms_Lw_at.2.2.2.1 rfl rfl (Nat.le_of_ble_eq_true rfl) ?_
  show tpR Lw_at 0 h _ _ 0 [some (vR x0), some (vI x1), some (vI x2), none, none] [] h
  unfold w_Lw_at at hw
  refine tq_iconst (v := (-1 : Int32)) dLw_at_0 tni_m1 ?_
  refine tq_istore_n (ls' := [some (vR x0), some (vI x1), some (vI x2), some (vI (-1 : Int32)), none]) dLw_at_1 rfl (Nat.le_of_ble_eq_true rfl) rfl ?_
  refine tq_iconst (v := (0 : Int32)) dLw_at_2 tni_0 ?_
  refine tq_istore (ls' := [some (vR x0), some (vI x1), some (vI x2), some (vI (-1 : Int32)), some (vI (0 : Int32))]) dLw_at_3 (Nat.le_of_ble_eq_true rfl) rfl ?_
  refine tpR.fo (ls' := [some (vR x0), some (vI x1), some (vI x2), some (vI (-1 : Int32)), some (vI (0 : Int32))]) ?_ (And.intro rfl (And.intro rfl (And.intro rfl (And.intro rfl (And.intro rfl trivial)))))
  obtain ⟨n, hw⟩ := hw
  exact s_Lw_at_5 n _ _ _ _ _ _ hw
/-! TLaw.shares -/
theorem dLw_shares_0 : decode (mB Lw_shares) 0 = .ok (.bipush 40, 2) := by decide +kernel
theorem dLw_shares_2 : decode (mB Lw_shares) 2 = .ok (.newarray .int, 2) := by decide +kernel
theorem dLw_shares_4 : decode (mB Lw_shares) 4 = .ok (.astore 6, 2) := by decide +kernel
theorem dLw_shares_6 : decode (mB Lw_shares) 6 = .ok (.aload_n 0, 1) := by decide +kernel
theorem dLw_shares_7 : decode (mB Lw_shares) 7 = .ok (.iload_n 2, 1) := by decide +kernel
theorem dLw_shares_8 : decode (mB Lw_shares) 8 = .ok (.invokestatic 13, 3) := by decide +kernel
theorem dLw_shares_11 : decode (mB Lw_shares) 11 = .ok (.ifCond .ge 7, 3) := by decide +kernel
theorem dLw_shares_14 : decode (mB Lw_shares) 14 = .ok (.iconst 0, 1) := by decide +kernel
theorem dLw_shares_15 : decode (mB Lw_shares) 15 = .ok (.goto 11, 3) := by decide +kernel
theorem dLw_shares_18 : decode (mB Lw_shares) 18 = .ok (.aload_n 0, 1) := by decide +kernel
theorem dLw_shares_19 : decode (mB Lw_shares) 19 = .ok (.aload_n 1, 1) := by decide +kernel
theorem dLw_shares_20 : decode (mB Lw_shares) 20 = .ok (.iload_n 2, 1) := by decide +kernel
theorem dLw_shares_21 : decode (mB Lw_shares) 21 = .ok (.aload 6, 2) := by decide +kernel
theorem dLw_shares_23 : decode (mB Lw_shares) 23 = .ok (.invokestatic 36, 3) := by decide +kernel
theorem dLw_shares_26 : decode (mB Lw_shares) 26 = .ok (.istore 7, 2) := by decide +kernel
theorem dLw_shares_28 : decode (mB Lw_shares) 28 = .ok (.iconst 0, 1) := by decide +kernel
theorem dLw_shares_29 : decode (mB Lw_shares) 29 = .ok (.istore 8, 2) := by decide +kernel
theorem dLw_shares_31 : decode (mB Lw_shares) 31 = .ok (.iconst (-1), 1) := by decide +kernel
theorem dLw_shares_32 : decode (mB Lw_shares) 32 = .ok (.istore 9, 2) := by decide +kernel
theorem dLw_shares_34 : decode (mB Lw_shares) 34 = .ok (.iconst 0, 1) := by decide +kernel
theorem dLw_shares_35 : decode (mB Lw_shares) 35 = .ok (.istore 10, 2) := by decide +kernel
theorem dLw_shares_37 : decode (mB Lw_shares) 37 = .ok (.iconst 0, 1) := by decide +kernel
theorem dLw_shares_38 : decode (mB Lw_shares) 38 = .ok (.istore 11, 2) := by decide +kernel
theorem dLw_shares_40 : decode (mB Lw_shares) 40 = .ok (.iload 11, 2) := by decide +kernel
theorem dLw_shares_42 : decode (mB Lw_shares) 42 = .ok (.iload 7, 2) := by decide +kernel
theorem dLw_shares_44 : decode (mB Lw_shares) 44 = .ok (.if_icmp .ge 63, 3) := by decide +kernel
theorem dLw_shares_47 : decode (mB Lw_shares) 47 = .ok (.aload_n 3, 1) := by decide +kernel
theorem dLw_shares_48 : decode (mB Lw_shares) 48 = .ok (.iload 4, 2) := by decide +kernel
theorem dLw_shares_50 : decode (mB Lw_shares) 50 = .ok (.aload 6, 2) := by decide +kernel
theorem dLw_shares_52 : decode (mB Lw_shares) 52 = .ok (.iload 11, 2) := by decide +kernel
theorem dLw_shares_54 : decode (mB Lw_shares) 54 = .ok (.iaload, 1) := by decide +kernel
theorem dLw_shares_55 : decode (mB Lw_shares) 55 = .ok (.invokestatic 105, 3) := by decide +kernel
theorem dLw_shares_58 : decode (mB Lw_shares) 58 = .ok (.istore 12, 2) := by decide +kernel
theorem dLw_shares_60 : decode (mB Lw_shares) 60 = .ok (.iload 12, 2) := by decide +kernel
theorem dLw_shares_62 : decode (mB Lw_shares) 62 = .ok (.ifCond .lt 39, 3) := by decide +kernel
theorem dLw_shares_65 : decode (mB Lw_shares) 65 = .ok (.iload 10, 2) := by decide +kernel
theorem dLw_shares_67 : decode (mB Lw_shares) 67 = .ok (.ifCond .ne 10, 3) := by decide +kernel
theorem dLw_shares_70 : decode (mB Lw_shares) 70 = .ok (.iload 12, 2) := by decide +kernel
theorem dLw_shares_72 : decode (mB Lw_shares) 72 = .ok (.iload 9, 2) := by decide +kernel
theorem dLw_shares_74 : decode (mB Lw_shares) 74 = .ok (.if_icmp .ge 7, 3) := by decide +kernel
theorem dLw_shares_77 : decode (mB Lw_shares) 77 = .ok (.iconst 1, 1) := by decide +kernel
theorem dLw_shares_78 : decode (mB Lw_shares) 78 = .ok (.goto 4, 3) := by decide +kernel
theorem dLw_shares_81 : decode (mB Lw_shares) 81 = .ok (.iconst 0, 1) := by decide +kernel
theorem dLw_shares_82 : decode (mB Lw_shares) 82 = .ok (.istore 10, 2) := by decide +kernel
theorem dLw_shares_84 : decode (mB Lw_shares) 84 = .ok (.iload 12, 2) := by decide +kernel
theorem dLw_shares_86 : decode (mB Lw_shares) 86 = .ok (.istore 9, 2) := by decide +kernel
theorem dLw_shares_88 : decode (mB Lw_shares) 88 = .ok (.iinc 8 1, 3) := by decide +kernel
theorem dLw_shares_91 : decode (mB Lw_shares) 91 = .ok (.aload 5, 2) := by decide +kernel
theorem dLw_shares_93 : decode (mB Lw_shares) 93 = .ok (.iload 8, 2) := by decide +kernel
theorem dLw_shares_95 : decode (mB Lw_shares) 95 = .ok (.aload 6, 2) := by decide +kernel
theorem dLw_shares_97 : decode (mB Lw_shares) 97 = .ok (.iload 11, 2) := by decide +kernel
theorem dLw_shares_99 : decode (mB Lw_shares) 99 = .ok (.iaload, 1) := by decide +kernel
theorem dLw_shares_100 : decode (mB Lw_shares) 100 = .ok (.iastore, 1) := by decide +kernel
theorem dLw_shares_101 : decode (mB Lw_shares) 101 = .ok (.iinc 11 1, 3) := by decide +kernel
theorem dLw_shares_104 : decode (mB Lw_shares) 104 = .ok (.goto (-64), 3) := by decide +kernel
theorem dLw_shares_107 : decode (mB Lw_shares) 107 = .ok (.aload 5, 2) := by decide +kernel
theorem dLw_shares_109 : decode (mB Lw_shares) 109 = .ok (.iconst 0, 1) := by decide +kernel
theorem dLw_shares_110 : decode (mB Lw_shares) 110 = .ok (.iload 8, 2) := by decide +kernel
theorem dLw_shares_112 : decode (mB Lw_shares) 112 = .ok (.iastore, 1) := by decide +kernel
theorem dLw_shares_113 : decode (mB Lw_shares) 113 = .ok (.iload 10, 2) := by decide +kernel
theorem dLw_shares_115 : decode (mB Lw_shares) 115 = .ok (.ireturn, 1) := by decide +kernel
def w_Lw_shares_82 (R : Int32 → tpH → Prop) (K40 : (Option Nat) → Int32 → (Option Nat) → (Option Nat) → Int32 → Int32 → Int32 → Int32 → Int32 → tpH → Prop) (x3 : Option Nat) (x4 : Int32) (x5 : Option Nat) (x6 : Option Nat) (x7 : Int32) (x8 : Int32) (x11 : Int32) (x12 : Int32) (t0 : Int32) (h : tpH) : Prop :=
  ∃ a1, x6 = some a1 ∧ hT h a1 = 15 ∧ (vp_in x11 (hL h a1) ∧ (∃ a5, x5 = some a5 ∧ hT h a5 = 15 ∧ (vp_in (x8 + (1 : Int32)) (hL h a5) ∧ (∀ h9, h9 = sI h a5 (x8 + (1 : Int32)).toNatClampNeg (hI h a1 x11.toNatClampNeg) → (K40 x3 x4 x5 x6 x7 (x8 + (1 : Int32)) x12 t0 (x11 + (1 : Int32)) h9)))))
def b_Lw_shares_40 (R : Int32 → tpH → Prop) (Y : (Option Nat) → Int32 → (Option Nat) → (Option Nat) → Int32 → Int32 → Int32 → Int32 → Int32 → tpH → Prop) (x3 : Option Nat) (x4 : Int32) (x5 : Option Nat) (x6 : Option Nat) (x7 : Int32) (x8 : Int32) (x9 : Int32) (x10 : Int32) (x11 : Int32) (h : tpH) : Prop :=
  (x7 ≤ x11 → (∃ a2, x5 = some a2 ∧ hT h a2 = 15 ∧ (vp_in (0 : Int32) (hL h a2) ∧ (∀ h6, h6 = sI h a2 (0 : Int32).toNatClampNeg x8 → (tpB x10 ∧ (R x10 h6)))))) ∧ (¬ x7 ≤ x11 → (∃ a9, x6 = some a9 ∧ hT h a9 = 15 ∧ (vp_in x11 (hL h a9) ∧ (w_Lw_at x3 x4 (hI h a9 x11.toNatClampNeg) h (fun v14 h13 => (v14 < 0 → (Y x3 x4 x5 x6 x7 x8 x9 x10 (x11 + (1 : Int32)) h13)) ∧ (¬ v14 < 0 → ((¬ x10 = 0 → (w_Lw_shares_82 R Y x3 x4 x5 x6 x7 x8 x11 v14 (1 : Int32) h13)) ∧ (x10 = 0 → ((x9 ≤ v14 → (w_Lw_shares_82 R Y x3 x4 x5 x6 x7 x8 x11 v14 (0 : Int32) h13)) ∧ (¬ x9 ≤ v14 → (w_Lw_shares_82 R Y x3 x4 x5 x6 x7 x8 x11 v14 (1 : Int32) h13)))))))))))
def w_Lw_shares_40 (R : Int32 → tpH → Prop) : Nat → (Option Nat) → Int32 → (Option Nat) → (Option Nat) → Int32 → Int32 → Int32 → Int32 → Int32 → tpH → Prop
  | 0 => fun _ _ _ _ _ _ _ _ _ _ => False
  | n + 1 => b_Lw_shares_40 R (w_Lw_shares_40 R n)
def w_Lw_shares_26 (R : Int32 → tpH → Prop) (x3 : Option Nat) (x4 : Int32) (x5 : Option Nat) (x6 : Option Nat) (t0 : Int32) (h : tpH) : Prop :=
  ∃ n, w_Lw_shares_40 R n x3 x4 x5 x6 t0 (0 : Int32) (-1 : Int32) (0 : Int32) (0 : Int32) h
def w_Lw_shares (x0 : Option Nat) (x1 : Option Nat) (x2 : Int32) (x3 : Option Nat) (x4 : Int32) (x5 : Option Nat) (h : tpH) (R : Int32 → tpH → Prop) : Prop :=
  ∀ a1 h2, a1 = hZ h → h2 = nC h 15 40 40 → (w_Lw_place x0 x2 h2 (fun v6 h5 => (0 ≤ v6 → (w_Lw_children x0 x1 x2 (some a1) h5 (fun v9 h8 => w_Lw_shares_26 R x3 x4 x5 (some a1) v9 h8))) ∧ (¬ 0 ≤ v6 → (w_Lw_shares_26 R x3 x4 x5 (some a1) (0 : Int32) h5))))
theorem s_Lw_shares_82 {h0 : tpH} {av : List tpV} {R : Int32 → tpH → Prop} {K40 : (Option Nat) → Int32 → (Option Nat) → (Option Nat) → Int32 → Int32 → Int32 → Int32 → Int32 → tpH → Prop} (k40 : ∀ (x3 : Option Nat) (x4 : Int32) (x5 : Option Nat) (x6 : Option Nat) (x7 : Int32) (x8 : Int32) (x9 : Int32) (x10 : Int32) (x11 : Int32) (h : tpH), K40 x3 x4 x5 x6 x7 x8 x9 x10 x11 h → tpR Lw_shares 2 h0 av (tpOi R (fun _ _ => False)) 40 [none, none, none, some (vR x3), some (vI x4), some (vR x5), some (vR x6), some (vI x7), some (vI x8), some (vI x9), some (vI x10), some (vI x11), none] [] h) : ∀ (x3 : Option Nat) (x4 : Int32) (x5 : Option Nat) (x6 : Option Nat) (x7 : Int32) (x8 : Int32) (x11 : Int32) (x12 : Int32) (t0 : Int32) (h : tpH), w_Lw_shares_82 R K40 x3 x4 x5 x6 x7 x8 x11 x12 t0 h → tpR Lw_shares 2 h0 av (tpOi R (fun _ _ => False)) 82 [none, none, none, some (vR x3), some (vI x4), some (vR x5), some (vR x6), some (vI x7), some (vI x8), none, none, some (vI x11), some (vI x12)] [vI t0] h := by
  intro x3 x4 x5 x6 x7 x8 x11 x12 t0 h hw
  unfold w_Lw_shares_82 at hw
  refine tq_istore (ls' := [none, none, none, some (vR x3), some (vI x4), some (vR x5), some (vR x6), some (vI x7), some (vI x8), none, some (vI t0), some (vI x11), some (vI x12)]) dLw_shares_82 (Nat.le_of_ble_eq_true rfl) rfl ?_
  refine tq_iload dLw_shares_84 rfl ?_
  refine tq_istore (ls' := [none, none, none, some (vR x3), some (vI x4), some (vR x5), some (vR x6), some (vI x7), some (vI x8), some (vI x12), some (vI t0), some (vI x11), some (vI x12)]) dLw_shares_86 (Nat.le_of_ble_eq_true rfl) rfl ?_
  refine tq_inc (k := (1 : Int32)) (ls' := [none, none, none, some (vR x3), some (vI x4), some (vR x5), some (vR x6), some (vI x7), some (vI (x8 + (1 : Int32))), some (vI x12), some (vI t0), some (vI x11), some (vI x12)]) dLw_shares_88 rfl tni_1 (Nat.le_of_ble_eq_true rfl) rfl ?_
  refine tq_aload dLw_shares_91 rfl ?_
  refine tq_iload dLw_shares_93 rfl ?_
  refine tq_aload dLw_shares_95 rfl ?_
  refine tq_iload dLw_shares_97 rfl ?_
  obtain ⟨a1, e2, f3, hw⟩ := hw
  obtain ⟨f4, hw⟩ := hw
  refine te_iald dLw_shares_99 e2 (Or.inl f3) f4 ?_
  obtain ⟨a5, e6, f7, hw⟩ := hw
  obtain ⟨f8, hw⟩ := hw
  refine te_iast dLw_shares_100 e6 f7 f8 (fun h9 e10 => ?_)
  have hw := hw h9 e10
  refine tq_inc (k := (1 : Int32)) (ls' := [none, none, none, some (vR x3), some (vI x4), some (vR x5), some (vR x6), some (vI x7), some (vI (x8 + (1 : Int32))), some (vI x12), some (vI t0), some (vI (x11 + (1 : Int32))), some (vI x12)]) dLw_shares_101 rfl tni_1 (Nat.le_of_ble_eq_true rfl) rfl ?_
  refine tq_goto (tgt := 40) dLw_shares_104 (by decide) ?_
  refine tpR.fo (ls' := [none, none, none, some (vR x3), some (vI x4), some (vR x5), some (vR x6), some (vI x7), some (vI (x8 + (1 : Int32))), some (vI x12), some (vI t0), some (vI (x11 + (1 : Int32))), none]) ?_ (And.intro rfl (And.intro rfl (And.intro rfl (And.intro rfl (And.intro rfl (And.intro rfl (And.intro rfl (And.intro rfl (And.intro rfl trivial)))))))))
  exact k40 _ _ _ _ _ _ _ _ _ _ hw
theorem s_Lw_shares_40 {h0 : tpH} {av : List tpV} {R : Int32 → tpH → Prop} : ∀ (n : Nat) (x3 : Option Nat) (x4 : Int32) (x5 : Option Nat) (x6 : Option Nat) (x7 : Int32) (x8 : Int32) (x9 : Int32) (x10 : Int32) (x11 : Int32) (h : tpH), w_Lw_shares_40 R n x3 x4 x5 x6 x7 x8 x9 x10 x11 h → tpR Lw_shares 2 h0 av (tpOi R (fun _ _ => False)) 40 [none, none, none, some (vR x3), some (vI x4), some (vR x5), some (vR x6), some (vI x7), some (vI x8), some (vI x9), some (vI x10), some (vI x11), none] [] h := by
  intro n
  induction n with
  | zero => intro x3 x4 x5 x6 x7 x8 x9 x10 x11 h hw; exact False.elim hw
  | succ n ih =>
    intro x3 x4 x5 x6 x7 x8 x9 x10 x11 h hw
    change b_Lw_shares_40 R (w_Lw_shares_40 R n) x3 x4 x5 x6 x7 x8 x9 x10 x11 h at hw
    unfold b_Lw_shares_40 at hw
    refine tq_iload dLw_shares_40 rfl ?_
    refine tq_iload dLw_shares_42 rfl ?_
    refine tq_icmpge (tgt := 107) dLw_shares_44 (by decide) (fun c1 => ?_) (fun c1 => ?_)
    · have hw := hw.1 c1
      refine tq_aload dLw_shares_107 rfl ?_
      refine tq_iconst (v := (0 : Int32)) dLw_shares_109 tni_0 ?_
      refine tq_iload dLw_shares_110 rfl ?_
      obtain ⟨a2, e3, f4, hw⟩ := hw
      obtain ⟨f5, hw⟩ := hw
      refine te_iast dLw_shares_112 e3 f4 f5 (fun h6 e7 => ?_)
      have hw := hw h6 e7
      refine tq_iload dLw_shares_113 rfl ?_
      obtain ⟨f8, hw⟩ := hw
      exact tq_iret rfl (tpB_n f8) dLw_shares_115 hw
    · have hw := hw.2 c1
      refine tq_aload_n dLw_shares_47 rfl rfl ?_
      refine tq_iload dLw_shares_48 rfl ?_
      refine tq_aload dLw_shares_50 rfl ?_
      refine tq_iload dLw_shares_52 rfl ?_
      obtain ⟨a9, e10, f11, hw⟩ := hw
      obtain ⟨f12, hw⟩ := hw
      refine te_iald dLw_shares_54 e10 (Or.inl f11) f12 ?_
      refine tq_callS ms_Lw_at (dc := 0) (as := [vR x3, vI x4, vI (hI h a9 x11.toNatClampNeg)]) (rest := []) kLw_105 (Nat.le_of_ble_eq_true rfl) (Nat.le_of_ble_eq_true rfl) rfl rfl (Nat.le_of_ble_eq_true rfl) dLw_shares_55 (s_Lw_at hw) (fun _ _ hx => False.elim hx) (tk_i fun v14 h13 hw => ?_)
      refine tq_istore (ls' := [none, none, none, some (vR x3), some (vI x4), some (vR x5), some (vR x6), some (vI x7), some (vI x8), some (vI x9), some (vI x10), some (vI x11), some (vI v14)]) dLw_shares_58 (Nat.le_of_ble_eq_true rfl) rfl ?_
      refine tq_iload dLw_shares_60 rfl ?_
      refine tq_iflt (tgt := 101) dLw_shares_62 (by decide) (fun c15 => ?_) (fun c15 => ?_)
      · have hw := hw.1 c15
        refine tq_inc (k := (1 : Int32)) (ls' := [none, none, none, some (vR x3), some (vI x4), some (vR x5), some (vR x6), some (vI x7), some (vI x8), some (vI x9), some (vI x10), some (vI (x11 + (1 : Int32))), some (vI v14)]) dLw_shares_101 rfl tni_1 (Nat.le_of_ble_eq_true rfl) rfl ?_
        refine tq_goto (tgt := 40) dLw_shares_104 (by decide) ?_
        refine tpR.fo (ls' := [none, none, none, some (vR x3), some (vI x4), some (vR x5), some (vR x6), some (vI x7), some (vI x8), some (vI x9), some (vI x10), some (vI (x11 + (1 : Int32))), none]) ?_ (And.intro rfl (And.intro rfl (And.intro rfl (And.intro rfl (And.intro rfl (And.intro rfl (And.intro rfl (And.intro rfl (And.intro rfl trivial)))))))))
        exact ih _ _ _ _ _ _ _ _ _ _ hw
      · have hw := hw.2 c15
        refine tq_iload dLw_shares_65 rfl ?_
        refine tq_ifne (tgt := 77) dLw_shares_67 (by decide) (fun c16 => ?_) (fun c16 => ?_)
        · have hw := hw.1 c16
          refine tq_iconst (v := (1 : Int32)) dLw_shares_77 tni_1 ?_
          refine tq_goto (tgt := 82) dLw_shares_78 (by decide) ?_
          refine tpR.fo (ls' := [none, none, none, some (vR x3), some (vI x4), some (vR x5), some (vR x6), some (vI x7), some (vI x8), none, none, some (vI x11), some (vI v14)]) ?_ (And.intro rfl (And.intro rfl (And.intro rfl (And.intro rfl (And.intro rfl (And.intro rfl (And.intro rfl (And.intro rfl trivial))))))))
          exact s_Lw_shares_82 ih _ _ _ _ _ _ _ _ _ _ hw
        · have hw := hw.2 c16
          refine tq_iload dLw_shares_70 rfl ?_
          refine tq_iload dLw_shares_72 rfl ?_
          refine tq_icmpge (tgt := 81) dLw_shares_74 (by decide) (fun c17 => ?_) (fun c17 => ?_)
          · have hw := hw.1 c17
            refine tq_iconst (v := (0 : Int32)) dLw_shares_81 tni_0 ?_
            refine tpR.fo (ls' := [none, none, none, some (vR x3), some (vI x4), some (vR x5), some (vR x6), some (vI x7), some (vI x8), none, none, some (vI x11), some (vI v14)]) ?_ (And.intro rfl (And.intro rfl (And.intro rfl (And.intro rfl (And.intro rfl (And.intro rfl (And.intro rfl (And.intro rfl trivial))))))))
            exact s_Lw_shares_82 ih _ _ _ _ _ _ _ _ _ _ hw
          · have hw := hw.2 c17
            refine tq_iconst (v := (1 : Int32)) dLw_shares_77 tni_1 ?_
            refine tq_goto (tgt := 82) dLw_shares_78 (by decide) ?_
            refine tpR.fo (ls' := [none, none, none, some (vR x3), some (vI x4), some (vR x5), some (vR x6), some (vI x7), some (vI x8), none, none, some (vI x11), some (vI v14)]) ?_ (And.intro rfl (And.intro rfl (And.intro rfl (And.intro rfl (And.intro rfl (And.intro rfl (And.intro rfl (And.intro rfl trivial))))))))
            exact s_Lw_shares_82 ih _ _ _ _ _ _ _ _ _ _ hw
theorem s_Lw_shares_26 {h0 : tpH} {av : List tpV} {R : Int32 → tpH → Prop} : ∀ (x3 : Option Nat) (x4 : Int32) (x5 : Option Nat) (x6 : Option Nat) (t0 : Int32) (h : tpH), w_Lw_shares_26 R x3 x4 x5 x6 t0 h → tpR Lw_shares 2 h0 av (tpOi R (fun _ _ => False)) 26 [none, none, none, some (vR x3), some (vI x4), some (vR x5), some (vR x6), none, none, none, none, none, none] [vI t0] h := by
  intro x3 x4 x5 x6 t0 h hw
  unfold w_Lw_shares_26 at hw
  refine tq_istore (ls' := [none, none, none, some (vR x3), some (vI x4), some (vR x5), some (vR x6), some (vI t0), none, none, none, none, none]) dLw_shares_26 (Nat.le_of_ble_eq_true rfl) rfl ?_
  refine tq_iconst (v := (0 : Int32)) dLw_shares_28 tni_0 ?_
  refine tq_istore (ls' := [none, none, none, some (vR x3), some (vI x4), some (vR x5), some (vR x6), some (vI t0), some (vI (0 : Int32)), none, none, none, none]) dLw_shares_29 (Nat.le_of_ble_eq_true rfl) rfl ?_
  refine tq_iconst (v := (-1 : Int32)) dLw_shares_31 tni_m1 ?_
  refine tq_istore (ls' := [none, none, none, some (vR x3), some (vI x4), some (vR x5), some (vR x6), some (vI t0), some (vI (0 : Int32)), some (vI (-1 : Int32)), none, none, none]) dLw_shares_32 (Nat.le_of_ble_eq_true rfl) rfl ?_
  refine tq_iconst (v := (0 : Int32)) dLw_shares_34 tni_0 ?_
  refine tq_istore (ls' := [none, none, none, some (vR x3), some (vI x4), some (vR x5), some (vR x6), some (vI t0), some (vI (0 : Int32)), some (vI (-1 : Int32)), some (vI (0 : Int32)), none, none]) dLw_shares_35 (Nat.le_of_ble_eq_true rfl) rfl ?_
  refine tq_iconst (v := (0 : Int32)) dLw_shares_37 tni_0 ?_
  refine tq_istore (ls' := [none, none, none, some (vR x3), some (vI x4), some (vR x5), some (vR x6), some (vI t0), some (vI (0 : Int32)), some (vI (-1 : Int32)), some (vI (0 : Int32)), some (vI (0 : Int32)), none]) dLw_shares_38 (Nat.le_of_ble_eq_true rfl) rfl ?_
  refine tpR.fo (ls' := [none, none, none, some (vR x3), some (vI x4), some (vR x5), some (vR x6), some (vI t0), some (vI (0 : Int32)), some (vI (-1 : Int32)), some (vI (0 : Int32)), some (vI (0 : Int32)), none]) ?_ (And.intro rfl (And.intro rfl (And.intro rfl (And.intro rfl (And.intro rfl (And.intro rfl (And.intro rfl (And.intro rfl (And.intro rfl trivial)))))))))
  obtain ⟨n, hw⟩ := hw
  exact s_Lw_shares_40 n _ _ _ _ _ _ _ _ _ _ hw
theorem s_Lw_shares {x0 : Option Nat} {x1 : Option Nat} {x2 : Int32} {x3 : Option Nat} {x4 : Int32} {x5 : Option Nat} {h : tpH} {R : Int32 → tpH → Prop} (hw : w_Lw_shares x0 x1 x2 x3 x4 x5 h R) : tpC Lw_shares 2 [vR x0, vR x1, vI x2, vR x3, vI x4, vR x5] h (tpOi R (fun _ _ => False)) := by
  refine tpC_of ms_Lw_shares.2.2.2.1 rfl rfl (Nat.le_of_ble_eq_true rfl) ?_
  show tpR Lw_shares 2 h _ _ 0 [some (vR x0), some (vR x1), some (vI x2), some (vR x3), some (vI x4), some (vR x5), none, none, none, none, none, none, none] [] h
  unfold w_Lw_shares at hw
  refine tq_bipush (v := (40 : Int32)) dLw_shares_0 tnb_40 ?_
  refine tq_newa tpN_int (N := 40) dLw_shares_2 (by decide) (by decide) (Nat.le_of_ble_eq_true rfl) (fun a1 h2 e3 e4 => ?_)
  have hw := hw a1 h2 e3 e4
  refine tq_astore (ls' := [some (vR x0), some (vR x1), some (vI x2), some (vR x3), some (vI x4), some (vR x5), some (vR (some a1)), none, none, none, none, none, none]) dLw_shares_4 (Nat.le_of_ble_eq_true rfl) rfl ?_
  refine tq_aload_n dLw_shares_6 rfl rfl ?_
  refine tq_iload_n dLw_shares_7 rfl rfl ?_
  refine tq_callS ms_Lw_place (dc := 1) (as := [vR x0, vI x2]) (rest := []) kLw_13 (Nat.le_of_ble_eq_true rfl) (Nat.le_of_ble_eq_true rfl) rfl rfl (Nat.le_of_ble_eq_true rfl) dLw_shares_8 (s_Lw_place hw) (fun _ _ hx => False.elim hx) (tk_i fun v6 h5 hw => ?_)
  refine tq_ifge (tgt := 18) dLw_shares_11 (by decide) (fun c7 => ?_) (fun c7 => ?_)
  · have hw := hw.1 c7
    refine tq_aload_n dLw_shares_18 rfl rfl ?_
    refine tq_aload_n dLw_shares_19 rfl rfl ?_
    refine tq_iload_n dLw_shares_20 rfl rfl ?_
    refine tq_aload dLw_shares_21 rfl ?_
    refine tq_callS ms_Lw_children (dc := 1) (as := [vR x0, vR x1, vI x2, vR (some a1)]) (rest := []) kLw_36 (Nat.le_of_ble_eq_true rfl) (Nat.le_of_ble_eq_true rfl) rfl rfl (Nat.le_of_ble_eq_true rfl) dLw_shares_23 (s_Lw_children hw) (fun _ _ hx => False.elim hx) (tk_i fun v9 h8 hw => ?_)
    refine tpR.fo (ls' := [none, none, none, some (vR x3), some (vI x4), some (vR x5), some (vR (some a1)), none, none, none, none, none, none]) ?_ (And.intro rfl (And.intro rfl (And.intro rfl (And.intro rfl trivial))))
    exact s_Lw_shares_26 _ _ _ _ _ _ hw
  · have hw := hw.2 c7
    refine tq_iconst (v := (0 : Int32)) dLw_shares_14 tni_0 ?_
    refine tq_goto (tgt := 26) dLw_shares_15 (by decide) ?_
    refine tpR.fo (ls' := [none, none, none, some (vR x3), some (vI x4), some (vR x5), some (vR (some a1)), none, none, none, none, none, none]) ?_ (And.intro rfl (And.intro rfl (And.intro rfl (And.intro rfl trivial))))
    exact s_Lw_shares_26 _ _ _ _ _ _ hw
/-! TLaw.ahead -/
theorem dLw_ahead_0 : decode (mB Lw_ahead) 0 = .ok (.bipush 40, 2) := by decide +kernel
theorem dLw_ahead_2 : decode (mB Lw_ahead) 2 = .ok (.newarray .int, 2) := by decide +kernel
theorem dLw_ahead_4 : decode (mB Lw_ahead) 4 = .ok (.astore 5, 2) := by decide +kernel
theorem dLw_ahead_6 : decode (mB Lw_ahead) 6 = .ok (.aload_n 0, 1) := by decide +kernel
theorem dLw_ahead_7 : decode (mB Lw_ahead) 7 = .ok (.aload_n 1, 1) := by decide +kernel
theorem dLw_ahead_8 : decode (mB Lw_ahead) 8 = .ok (.iload_n 2, 1) := by decide +kernel
theorem dLw_ahead_9 : decode (mB Lw_ahead) 9 = .ok (.aload 5, 2) := by decide +kernel
theorem dLw_ahead_11 : decode (mB Lw_ahead) 11 = .ok (.invokestatic 36, 3) := by decide +kernel
theorem dLw_ahead_14 : decode (mB Lw_ahead) 14 = .ok (.istore 6, 2) := by decide +kernel
theorem dLw_ahead_16 : decode (mB Lw_ahead) 16 = .ok (.iconst (-1), 1) := by decide +kernel
theorem dLw_ahead_17 : decode (mB Lw_ahead) 17 = .ok (.istore 7, 2) := by decide +kernel
theorem dLw_ahead_19 : decode (mB Lw_ahead) 19 = .ok (.iconst 0, 1) := by decide +kernel
theorem dLw_ahead_20 : decode (mB Lw_ahead) 20 = .ok (.istore 8, 2) := by decide +kernel
theorem dLw_ahead_22 : decode (mB Lw_ahead) 22 = .ok (.iload 8, 2) := by decide +kernel
theorem dLw_ahead_24 : decode (mB Lw_ahead) 24 = .ok (.aload 5, 2) := by decide +kernel
theorem dLw_ahead_26 : decode (mB Lw_ahead) 26 = .ok (.iload 6, 2) := by decide +kernel
theorem dLw_ahead_28 : decode (mB Lw_ahead) 28 = .ok (.iload_n 3, 1) := by decide +kernel
theorem dLw_ahead_29 : decode (mB Lw_ahead) 29 = .ok (.invokestatic 105, 3) := by decide +kernel
theorem dLw_ahead_32 : decode (mB Lw_ahead) 32 = .ok (.if_icmp .ge 72, 3) := by decide +kernel
theorem dLw_ahead_35 : decode (mB Lw_ahead) 35 = .ok (.iconst 0, 1) := by decide +kernel
theorem dLw_ahead_36 : decode (mB Lw_ahead) 36 = .ok (.istore 9, 2) := by decide +kernel
theorem dLw_ahead_38 : decode (mB Lw_ahead) 38 = .ok (.iconst 1, 1) := by decide +kernel
theorem dLw_ahead_39 : decode (mB Lw_ahead) 39 = .ok (.istore 10, 2) := by decide +kernel
theorem dLw_ahead_41 : decode (mB Lw_ahead) 41 = .ok (.iload 10, 2) := by decide +kernel
theorem dLw_ahead_43 : decode (mB Lw_ahead) 43 = .ok (.aload 4, 2) := by decide +kernel
theorem dLw_ahead_45 : decode (mB Lw_ahead) 45 = .ok (.iconst 0, 1) := by decide +kernel
theorem dLw_ahead_46 : decode (mB Lw_ahead) 46 = .ok (.iaload, 1) := by decide +kernel
theorem dLw_ahead_47 : decode (mB Lw_ahead) 47 = .ok (.if_icmp .gt 34, 3) := by decide +kernel
theorem dLw_ahead_50 : decode (mB Lw_ahead) 50 = .ok (.iload 9, 2) := by decide +kernel
theorem dLw_ahead_52 : decode (mB Lw_ahead) 52 = .ok (.ifCond .ne 16, 3) := by decide +kernel
theorem dLw_ahead_55 : decode (mB Lw_ahead) 55 = .ok (.aload 4, 2) := by decide +kernel
theorem dLw_ahead_57 : decode (mB Lw_ahead) 57 = .ok (.iload 10, 2) := by decide +kernel
theorem dLw_ahead_59 : decode (mB Lw_ahead) 59 = .ok (.iaload, 1) := by decide +kernel
theorem dLw_ahead_60 : decode (mB Lw_ahead) 60 = .ok (.aload 5, 2) := by decide +kernel
theorem dLw_ahead_62 : decode (mB Lw_ahead) 62 = .ok (.iload 8, 2) := by decide +kernel
theorem dLw_ahead_64 : decode (mB Lw_ahead) 64 = .ok (.iaload, 1) := by decide +kernel
theorem dLw_ahead_65 : decode (mB Lw_ahead) 65 = .ok (.if_icmp .ne 7, 3) := by decide +kernel
theorem dLw_ahead_68 : decode (mB Lw_ahead) 68 = .ok (.iconst 1, 1) := by decide +kernel
theorem dLw_ahead_69 : decode (mB Lw_ahead) 69 = .ok (.goto 4, 3) := by decide +kernel
theorem dLw_ahead_72 : decode (mB Lw_ahead) 72 = .ok (.iconst 0, 1) := by decide +kernel
theorem dLw_ahead_73 : decode (mB Lw_ahead) 73 = .ok (.istore 9, 2) := by decide +kernel
theorem dLw_ahead_75 : decode (mB Lw_ahead) 75 = .ok (.iinc 10 1, 3) := by decide +kernel
theorem dLw_ahead_78 : decode (mB Lw_ahead) 78 = .ok (.goto (-37), 3) := by decide +kernel
theorem dLw_ahead_81 : decode (mB Lw_ahead) 81 = .ok (.iload 9, 2) := by decide +kernel
theorem dLw_ahead_83 : decode (mB Lw_ahead) 83 = .ok (.ifCond .eq 11, 3) := by decide +kernel
theorem dLw_ahead_86 : decode (mB Lw_ahead) 86 = .ok (.aload 5, 2) := by decide +kernel
theorem dLw_ahead_88 : decode (mB Lw_ahead) 88 = .ok (.iload 8, 2) := by decide +kernel
theorem dLw_ahead_90 : decode (mB Lw_ahead) 90 = .ok (.iaload, 1) := by decide +kernel
theorem dLw_ahead_91 : decode (mB Lw_ahead) 91 = .ok (.goto 5, 3) := by decide +kernel
theorem dLw_ahead_94 : decode (mB Lw_ahead) 94 = .ok (.iload 7, 2) := by decide +kernel
theorem dLw_ahead_96 : decode (mB Lw_ahead) 96 = .ok (.istore 7, 2) := by decide +kernel
theorem dLw_ahead_98 : decode (mB Lw_ahead) 98 = .ok (.iinc 8 1, 3) := by decide +kernel
theorem dLw_ahead_101 : decode (mB Lw_ahead) 101 = .ok (.goto (-79), 3) := by decide +kernel
theorem dLw_ahead_104 : decode (mB Lw_ahead) 104 = .ok (.iload 7, 2) := by decide +kernel
theorem dLw_ahead_106 : decode (mB Lw_ahead) 106 = .ok (.ireturn, 1) := by decide +kernel
def b_Lw_ahead_41 (R : Int32 → tpH → Prop) (K22 : Int32 → (Option Nat) → (Option Nat) → Int32 → Int32 → Int32 → tpH → Prop) (Y : Int32 → (Option Nat) → (Option Nat) → Int32 → Int32 → Int32 → Int32 → Int32 → tpH → Prop) (x3 : Int32) (x4 : Option Nat) (x5 : Option Nat) (x6 : Int32) (x7 : Int32) (x8 : Int32) (x9 : Int32) (x10 : Int32) (h : tpH) : Prop :=
  ∃ a1, x4 = some a1 ∧ hT h a1 = 15 ∧ (vp_in (0 : Int32) (hL h a1) ∧ (((hI h a1 (0 : Int32).toNatClampNeg) < x10 → ((x9 = 0 → (K22 x3 x4 x5 x6 x7 (x8 + (1 : Int32)) h)) ∧ (¬ x9 = 0 → (∃ a7, x5 = some a7 ∧ hT h a7 = 15 ∧ (vp_in x8 (hL h a7) ∧ (K22 x3 x4 x5 x6 (hI h a7 x8.toNatClampNeg) (x8 + (1 : Int32)) h)))))) ∧ (¬ (hI h a1 (0 : Int32).toNatClampNeg) < x10 → ((¬ x9 = 0 → (Y x3 x4 x5 x6 x7 x8 (1 : Int32) (x10 + (1 : Int32)) h)) ∧ (x9 = 0 → (vp_in x10 (hL h a1) ∧ (∃ a13, x5 = some a13 ∧ hT h a13 = 15 ∧ (vp_in x8 (hL h a13) ∧ ((¬ (hI h a1 x10.toNatClampNeg) = (hI h a13 x8.toNatClampNeg) → (Y x3 x4 x5 x6 x7 x8 (0 : Int32) (x10 + (1 : Int32)) h)) ∧ ((hI h a1 x10.toNatClampNeg) = (hI h a13 x8.toNatClampNeg) → (Y x3 x4 x5 x6 x7 x8 (1 : Int32) (x10 + (1 : Int32)) h)))))))))))
def w_Lw_ahead_41 (R : Int32 → tpH → Prop) (K22 : Int32 → (Option Nat) → (Option Nat) → Int32 → Int32 → Int32 → tpH → Prop) : Nat → Int32 → (Option Nat) → (Option Nat) → Int32 → Int32 → Int32 → Int32 → Int32 → tpH → Prop
  | 0 => fun _ _ _ _ _ _ _ _ _ => False
  | n + 1 => b_Lw_ahead_41 R K22 (w_Lw_ahead_41 R K22 n)
def b_Lw_ahead_22 (R : Int32 → tpH → Prop) (Y : Int32 → (Option Nat) → (Option Nat) → Int32 → Int32 → Int32 → tpH → Prop) (x3 : Int32) (x4 : Option Nat) (x5 : Option Nat) (x6 : Int32) (x7 : Int32) (x8 : Int32) (h : tpH) : Prop :=
  w_Lw_at x5 x6 x3 h (fun v2 h1 => (v2 ≤ x8 → (R x7 h1)) ∧ (¬ v2 ≤ x8 → (∃ n, w_Lw_ahead_41 R Y n x3 x4 x5 x6 x7 x8 (0 : Int32) (1 : Int32) h1)))
def w_Lw_ahead_22 (R : Int32 → tpH → Prop) : Nat → Int32 → (Option Nat) → (Option Nat) → Int32 → Int32 → Int32 → tpH → Prop
  | 0 => fun _ _ _ _ _ _ _ => False
  | n + 1 => b_Lw_ahead_22 R (w_Lw_ahead_22 R n)
def w_Lw_ahead (x0 : Option Nat) (x1 : Option Nat) (x2 : Int32) (x3 : Int32) (x4 : Option Nat) (h : tpH) (R : Int32 → tpH → Prop) : Prop :=
  ∀ a1 h2, a1 = hZ h → h2 = nC h 15 40 40 → (w_Lw_children x0 x1 x2 (some a1) h2 (fun v6 h5 => ∃ n, w_Lw_ahead_22 R n x3 x4 (some a1) v6 (-1 : Int32) (0 : Int32) h5))
theorem s_Lw_ahead_41 {h0 : tpH} {av : List tpV} {R : Int32 → tpH → Prop} {K22 : Int32 → (Option Nat) → (Option Nat) → Int32 → Int32 → Int32 → tpH → Prop} (k22 : ∀ (x3 : Int32) (x4 : Option Nat) (x5 : Option Nat) (x6 : Int32) (x7 : Int32) (x8 : Int32) (h : tpH), K22 x3 x4 x5 x6 x7 x8 h → tpR Lw_ahead 2 h0 av (tpOi R (fun _ _ => False)) 22 [none, none, none, some (vI x3), some (vR x4), some (vR x5), some (vI x6), some (vI x7), some (vI x8), none, none] [] h) : ∀ (n : Nat) (x3 : Int32) (x4 : Option Nat) (x5 : Option Nat) (x6 : Int32) (x7 : Int32) (x8 : Int32) (x9 : Int32) (x10 : Int32) (h : tpH), w_Lw_ahead_41 R K22 n x3 x4 x5 x6 x7 x8 x9 x10 h → tpR Lw_ahead 2 h0 av (tpOi R (fun _ _ => False)) 41 [none, none, none, some (vI x3), some (vR x4), some (vR x5), some (vI x6), some (vI x7), some (vI x8), some (vI x9), some (vI x10)] [] h := by
  intro n
  induction n with
  | zero => intro x3 x4 x5 x6 x7 x8 x9 x10 h hw; exact False.elim hw
  | succ n ih =>
    intro x3 x4 x5 x6 x7 x8 x9 x10 h hw
    change b_Lw_ahead_41 R K22 (w_Lw_ahead_41 R K22 n) x3 x4 x5 x6 x7 x8 x9 x10 h at hw
    unfold b_Lw_ahead_41 at hw
    refine tq_iload dLw_ahead_41 rfl ?_
    refine tq_aload dLw_ahead_43 rfl ?_
    refine tq_iconst (v := (0 : Int32)) dLw_ahead_45 tni_0 ?_
    obtain ⟨a1, e2, f3, hw⟩ := hw
    obtain ⟨f4, hw⟩ := hw
    refine te_iald dLw_ahead_46 e2 (Or.inl f3) f4 ?_
    refine tq_icmpgt (tgt := 81) dLw_ahead_47 (by decide) (fun c5 => ?_) (fun c5 => ?_)
    · have hw := hw.1 c5
      refine tq_iload dLw_ahead_81 rfl ?_
      refine tq_ifeq (tgt := 94) dLw_ahead_83 (by decide) (fun c6 => ?_) (fun c6 => ?_)
      · have hw := hw.1 c6
        refine tq_iload dLw_ahead_94 rfl ?_
        refine tq_istore (ls' := [none, none, none, some (vI x3), some (vR x4), some (vR x5), some (vI x6), some (vI x7), some (vI x8), some (vI x9), some (vI x10)]) dLw_ahead_96 (Nat.le_of_ble_eq_true rfl) rfl ?_
        refine tq_inc (k := (1 : Int32)) (ls' := [none, none, none, some (vI x3), some (vR x4), some (vR x5), some (vI x6), some (vI x7), some (vI (x8 + (1 : Int32))), some (vI x9), some (vI x10)]) dLw_ahead_98 rfl tni_1 (Nat.le_of_ble_eq_true rfl) rfl ?_
        refine tq_goto (tgt := 22) dLw_ahead_101 (by decide) ?_
        refine tpR.fo (ls' := [none, none, none, some (vI x3), some (vR x4), some (vR x5), some (vI x6), some (vI x7), some (vI (x8 + (1 : Int32))), none, none]) ?_ (And.intro rfl (And.intro rfl (And.intro rfl (And.intro rfl (And.intro rfl (And.intro rfl trivial))))))
        exact k22 _ _ _ _ _ _ _ hw
      · have hw := hw.2 c6
        refine tq_aload dLw_ahead_86 rfl ?_
        refine tq_iload dLw_ahead_88 rfl ?_
        obtain ⟨a7, e8, f9, hw⟩ := hw
        obtain ⟨f10, hw⟩ := hw
        refine te_iald dLw_ahead_90 e8 (Or.inl f9) f10 ?_
        refine tq_goto (tgt := 96) dLw_ahead_91 (by decide) ?_
        refine tq_istore (ls' := [none, none, none, some (vI x3), some (vR x4), some (vR x5), some (vI x6), some (vI (hI h a7 x8.toNatClampNeg)), some (vI x8), some (vI x9), some (vI x10)]) dLw_ahead_96 (Nat.le_of_ble_eq_true rfl) rfl ?_
        refine tq_inc (k := (1 : Int32)) (ls' := [none, none, none, some (vI x3), some (vR x4), some (vR x5), some (vI x6), some (vI (hI h a7 x8.toNatClampNeg)), some (vI (x8 + (1 : Int32))), some (vI x9), some (vI x10)]) dLw_ahead_98 rfl tni_1 (Nat.le_of_ble_eq_true rfl) rfl ?_
        refine tq_goto (tgt := 22) dLw_ahead_101 (by decide) ?_
        refine tpR.fo (ls' := [none, none, none, some (vI x3), some (vR x4), some (vR x5), some (vI x6), some (vI (hI h a7 x8.toNatClampNeg)), some (vI (x8 + (1 : Int32))), none, none]) ?_ (And.intro rfl (And.intro rfl (And.intro rfl (And.intro rfl (And.intro rfl (And.intro rfl trivial))))))
        exact k22 _ _ _ _ _ _ _ hw
    · have hw := hw.2 c5
      refine tq_iload dLw_ahead_50 rfl ?_
      refine tq_ifne (tgt := 68) dLw_ahead_52 (by decide) (fun c11 => ?_) (fun c11 => ?_)
      · have hw := hw.1 c11
        refine tq_iconst (v := (1 : Int32)) dLw_ahead_68 tni_1 ?_
        refine tq_goto (tgt := 73) dLw_ahead_69 (by decide) ?_
        refine tq_istore (ls' := [none, none, none, some (vI x3), some (vR x4), some (vR x5), some (vI x6), some (vI x7), some (vI x8), some (vI (1 : Int32)), some (vI x10)]) dLw_ahead_73 (Nat.le_of_ble_eq_true rfl) rfl ?_
        refine tq_inc (k := (1 : Int32)) (ls' := [none, none, none, some (vI x3), some (vR x4), some (vR x5), some (vI x6), some (vI x7), some (vI x8), some (vI (1 : Int32)), some (vI (x10 + (1 : Int32)))]) dLw_ahead_75 rfl tni_1 (Nat.le_of_ble_eq_true rfl) rfl ?_
        refine tq_goto (tgt := 41) dLw_ahead_78 (by decide) ?_
        refine tpR.fo (ls' := [none, none, none, some (vI x3), some (vR x4), some (vR x5), some (vI x6), some (vI x7), some (vI x8), some (vI (1 : Int32)), some (vI (x10 + (1 : Int32)))]) ?_ (And.intro rfl (And.intro rfl (And.intro rfl (And.intro rfl (And.intro rfl (And.intro rfl (And.intro rfl (And.intro rfl trivial))))))))
        exact ih _ _ _ _ _ _ _ _ _ hw
      · have hw := hw.2 c11
        refine tq_aload dLw_ahead_55 rfl ?_
        refine tq_iload dLw_ahead_57 rfl ?_
        obtain ⟨f12, hw⟩ := hw
        refine te_iald dLw_ahead_59 e2 (Or.inl f3) f12 ?_
        refine tq_aload dLw_ahead_60 rfl ?_
        refine tq_iload dLw_ahead_62 rfl ?_
        obtain ⟨a13, e14, f15, hw⟩ := hw
        obtain ⟨f16, hw⟩ := hw
        refine te_iald dLw_ahead_64 e14 (Or.inl f15) f16 ?_
        refine tq_icmpne (tgt := 72) dLw_ahead_65 (by decide) (fun c17 => ?_) (fun c17 => ?_)
        · have hw := hw.1 c17
          refine tq_iconst (v := (0 : Int32)) dLw_ahead_72 tni_0 ?_
          refine tq_istore (ls' := [none, none, none, some (vI x3), some (vR x4), some (vR x5), some (vI x6), some (vI x7), some (vI x8), some (vI (0 : Int32)), some (vI x10)]) dLw_ahead_73 (Nat.le_of_ble_eq_true rfl) rfl ?_
          refine tq_inc (k := (1 : Int32)) (ls' := [none, none, none, some (vI x3), some (vR x4), some (vR x5), some (vI x6), some (vI x7), some (vI x8), some (vI (0 : Int32)), some (vI (x10 + (1 : Int32)))]) dLw_ahead_75 rfl tni_1 (Nat.le_of_ble_eq_true rfl) rfl ?_
          refine tq_goto (tgt := 41) dLw_ahead_78 (by decide) ?_
          refine tpR.fo (ls' := [none, none, none, some (vI x3), some (vR x4), some (vR x5), some (vI x6), some (vI x7), some (vI x8), some (vI (0 : Int32)), some (vI (x10 + (1 : Int32)))]) ?_ (And.intro rfl (And.intro rfl (And.intro rfl (And.intro rfl (And.intro rfl (And.intro rfl (And.intro rfl (And.intro rfl trivial))))))))
          exact ih _ _ _ _ _ _ _ _ _ hw
        · have hw := hw.2 c17
          refine tq_iconst (v := (1 : Int32)) dLw_ahead_68 tni_1 ?_
          refine tq_goto (tgt := 73) dLw_ahead_69 (by decide) ?_
          refine tq_istore (ls' := [none, none, none, some (vI x3), some (vR x4), some (vR x5), some (vI x6), some (vI x7), some (vI x8), some (vI (1 : Int32)), some (vI x10)]) dLw_ahead_73 (Nat.le_of_ble_eq_true rfl) rfl ?_
          refine tq_inc (k := (1 : Int32)) (ls' := [none, none, none, some (vI x3), some (vR x4), some (vR x5), some (vI x6), some (vI x7), some (vI x8), some (vI (1 : Int32)), some (vI (x10 + (1 : Int32)))]) dLw_ahead_75 rfl tni_1 (Nat.le_of_ble_eq_true rfl) rfl ?_
          refine tq_goto (tgt := 41) dLw_ahead_78 (by decide) ?_
          refine tpR.fo (ls' := [none, none, none, some (vI x3), some (vR x4), some (vR x5), some (vI x6), some (vI x7), some (vI x8), some (vI (1 : Int32)), some (vI (x10 + (1 : Int32)))]) ?_ (And.intro rfl (And.intro rfl (And.intro rfl (And.intro rfl (And.intro rfl (And.intro rfl (And.intro rfl (And.intro rfl trivial))))))))
          exact ih _ _ _ _ _ _ _ _ _ hw
theorem s_Lw_ahead_22 {h0 : tpH} {av : List tpV} {R : Int32 → tpH → Prop} : ∀ (n : Nat) (x3 : Int32) (x4 : Option Nat) (x5 : Option Nat) (x6 : Int32) (x7 : Int32) (x8 : Int32) (h : tpH), w_Lw_ahead_22 R n x3 x4 x5 x6 x7 x8 h → tpR Lw_ahead 2 h0 av (tpOi R (fun _ _ => False)) 22 [none, none, none, some (vI x3), some (vR x4), some (vR x5), some (vI x6), some (vI x7), some (vI x8), none, none] [] h := by
  intro n
  induction n with
  | zero => intro x3 x4 x5 x6 x7 x8 h hw; exact False.elim hw
  | succ n ih =>
    intro x3 x4 x5 x6 x7 x8 h hw
    change b_Lw_ahead_22 R (w_Lw_ahead_22 R n) x3 x4 x5 x6 x7 x8 h at hw
    unfold b_Lw_ahead_22 at hw
    refine tq_iload dLw_ahead_22 rfl ?_
    refine tq_aload dLw_ahead_24 rfl ?_
    refine tq_iload dLw_ahead_26 rfl ?_
    refine tq_iload_n dLw_ahead_28 rfl rfl ?_
    refine tq_callS ms_Lw_at (dc := 0) (as := [vR x5, vI x6, vI x3]) (rest := [vI x8]) kLw_105 (Nat.le_of_ble_eq_true rfl) (Nat.le_of_ble_eq_true rfl) rfl rfl (Nat.le_of_ble_eq_true rfl) dLw_ahead_29 (s_Lw_at hw) (fun _ _ hx => False.elim hx) (tk_i fun v2 h1 hw => ?_)
    refine tq_icmpge (tgt := 104) dLw_ahead_32 (by decide) (fun c3 => ?_) (fun c3 => ?_)
    · have hw := hw.1 c3
      refine tq_iload dLw_ahead_104 rfl ?_
      exact tq_iret rfl rfl dLw_ahead_106 hw
    · have hw := hw.2 c3
      refine tq_iconst (v := (0 : Int32)) dLw_ahead_35 tni_0 ?_
      refine tq_istore (ls' := [none, none, none, some (vI x3), some (vR x4), some (vR x5), some (vI x6), some (vI x7), some (vI x8), some (vI (0 : Int32)), none]) dLw_ahead_36 (Nat.le_of_ble_eq_true rfl) rfl ?_
      refine tq_iconst (v := (1 : Int32)) dLw_ahead_38 tni_1 ?_
      refine tq_istore (ls' := [none, none, none, some (vI x3), some (vR x4), some (vR x5), some (vI x6), some (vI x7), some (vI x8), some (vI (0 : Int32)), some (vI (1 : Int32))]) dLw_ahead_39 (Nat.le_of_ble_eq_true rfl) rfl ?_
      refine tpR.fo (ls' := [none, none, none, some (vI x3), some (vR x4), some (vR x5), some (vI x6), some (vI x7), some (vI x8), some (vI (0 : Int32)), some (vI (1 : Int32))]) ?_ (And.intro rfl (And.intro rfl (And.intro rfl (And.intro rfl (And.intro rfl (And.intro rfl (And.intro rfl (And.intro rfl trivial))))))))
      obtain ⟨n, hw⟩ := hw
      exact s_Lw_ahead_41 ih n _ _ _ _ _ _ _ _ _ hw
theorem s_Lw_ahead {x0 : Option Nat} {x1 : Option Nat} {x2 : Int32} {x3 : Int32} {x4 : Option Nat} {h : tpH} {R : Int32 → tpH → Prop} (hw : w_Lw_ahead x0 x1 x2 x3 x4 h R) : tpC Lw_ahead 2 [vR x0, vR x1, vI x2, vI x3, vR x4] h (tpOi R (fun _ _ => False)) := by
  refine tpC_of ms_Lw_ahead.2.2.2.1 rfl rfl (Nat.le_of_ble_eq_true rfl) ?_
  show tpR Lw_ahead 2 h _ _ 0 [some (vR x0), some (vR x1), some (vI x2), some (vI x3), some (vR x4), none, none, none, none, none, none] [] h
  unfold w_Lw_ahead at hw
  refine tq_bipush (v := (40 : Int32)) dLw_ahead_0 tnb_40 ?_
  refine tq_newa tpN_int (N := 40) dLw_ahead_2 (by decide) (by decide) (Nat.le_of_ble_eq_true rfl) (fun a1 h2 e3 e4 => ?_)
  have hw := hw a1 h2 e3 e4
  refine tq_astore (ls' := [some (vR x0), some (vR x1), some (vI x2), some (vI x3), some (vR x4), some (vR (some a1)), none, none, none, none, none]) dLw_ahead_4 (Nat.le_of_ble_eq_true rfl) rfl ?_
  refine tq_aload_n dLw_ahead_6 rfl rfl ?_
  refine tq_aload_n dLw_ahead_7 rfl rfl ?_
  refine tq_iload_n dLw_ahead_8 rfl rfl ?_
  refine tq_aload dLw_ahead_9 rfl ?_
  refine tq_callS ms_Lw_children (dc := 1) (as := [vR x0, vR x1, vI x2, vR (some a1)]) (rest := []) kLw_36 (Nat.le_of_ble_eq_true rfl) (Nat.le_of_ble_eq_true rfl) rfl rfl (Nat.le_of_ble_eq_true rfl) dLw_ahead_11 (s_Lw_children hw) (fun _ _ hx => False.elim hx) (tk_i fun v6 h5 hw => ?_)
  refine tq_istore (ls' := [some (vR x0), some (vR x1), some (vI x2), some (vI x3), some (vR x4), some (vR (some a1)), some (vI v6), none, none, none, none]) dLw_ahead_14 (Nat.le_of_ble_eq_true rfl) rfl ?_
  refine tq_iconst (v := (-1 : Int32)) dLw_ahead_16 tni_m1 ?_
  refine tq_istore (ls' := [some (vR x0), some (vR x1), some (vI x2), some (vI x3), some (vR x4), some (vR (some a1)), some (vI v6), some (vI (-1 : Int32)), none, none, none]) dLw_ahead_17 (Nat.le_of_ble_eq_true rfl) rfl ?_
  refine tq_iconst (v := (0 : Int32)) dLw_ahead_19 tni_0 ?_
  refine tq_istore (ls' := [some (vR x0), some (vR x1), some (vI x2), some (vI x3), some (vR x4), some (vR (some a1)), some (vI v6), some (vI (-1 : Int32)), some (vI (0 : Int32)), none, none]) dLw_ahead_20 (Nat.le_of_ble_eq_true rfl) rfl ?_
  refine tpR.fo (ls' := [none, none, none, some (vI x3), some (vR x4), some (vR (some a1)), some (vI v6), some (vI (-1 : Int32)), some (vI (0 : Int32)), none, none]) ?_ (And.intro rfl (And.intro rfl (And.intro rfl (And.intro rfl (And.intro rfl (And.intro rfl trivial))))))
  obtain ⟨n, hw⟩ := hw
  exact s_Lw_ahead_22 n _ _ _ _ _ _ _ hw
/-! TLaw.putsBehind -/
theorem dLw_putsBehind_0 : decode (mB Lw_putsBehind) 0 = .ok (.iconst 1, 1) := by decide +kernel
theorem dLw_putsBehind_1 : decode (mB Lw_putsBehind) 1 = .ok (.istore_n 3, 1) := by decide +kernel
theorem dLw_putsBehind_2 : decode (mB Lw_putsBehind) 2 = .ok (.iconst 1, 1) := by decide +kernel
theorem dLw_putsBehind_3 : decode (mB Lw_putsBehind) 3 = .ok (.istore 4, 2) := by decide +kernel
theorem dLw_putsBehind_5 : decode (mB Lw_putsBehind) 5 = .ok (.iload 4, 2) := by decide +kernel
theorem dLw_putsBehind_7 : decode (mB Lw_putsBehind) 7 = .ok (.aload_n 0, 1) := by decide +kernel
theorem dLw_putsBehind_8 : decode (mB Lw_putsBehind) 8 = .ok (.iconst 0, 1) := by decide +kernel
theorem dLw_putsBehind_9 : decode (mB Lw_putsBehind) 9 = .ok (.iaload, 1) := by decide +kernel
theorem dLw_putsBehind_10 : decode (mB Lw_putsBehind) 10 = .ok (.if_icmp .gt 26, 3) := by decide +kernel
theorem dLw_putsBehind_13 : decode (mB Lw_putsBehind) 13 = .ok (.aload_n 0, 1) := by decide +kernel
theorem dLw_putsBehind_14 : decode (mB Lw_putsBehind) 14 = .ok (.iload 4, 2) := by decide +kernel
theorem dLw_putsBehind_16 : decode (mB Lw_putsBehind) 16 = .ok (.iaload, 1) := by decide +kernel
theorem dLw_putsBehind_17 : decode (mB Lw_putsBehind) 17 = .ok (.iload_n 2, 1) := by decide +kernel
theorem dLw_putsBehind_18 : decode (mB Lw_putsBehind) 18 = .ok (.if_icmp .ne 10, 3) := by decide +kernel
theorem dLw_putsBehind_21 : decode (mB Lw_putsBehind) 21 = .ok (.iload 4, 2) := by decide +kernel
theorem dLw_putsBehind_23 : decode (mB Lw_putsBehind) 23 = .ok (.iconst 1, 1) := by decide +kernel
theorem dLw_putsBehind_24 : decode (mB Lw_putsBehind) 24 = .ok (.iadd, 1) := by decide +kernel
theorem dLw_putsBehind_25 : decode (mB Lw_putsBehind) 25 = .ok (.goto 4, 3) := by decide +kernel
theorem dLw_putsBehind_28 : decode (mB Lw_putsBehind) 28 = .ok (.iload_n 3, 1) := by decide +kernel
theorem dLw_putsBehind_29 : decode (mB Lw_putsBehind) 29 = .ok (.istore_n 3, 1) := by decide +kernel
theorem dLw_putsBehind_30 : decode (mB Lw_putsBehind) 30 = .ok (.iinc 4 1, 3) := by decide +kernel
theorem dLw_putsBehind_33 : decode (mB Lw_putsBehind) 33 = .ok (.goto (-28), 3) := by decide +kernel
theorem dLw_putsBehind_36 : decode (mB Lw_putsBehind) 36 = .ok (.aload_n 0, 1) := by decide +kernel
theorem dLw_putsBehind_37 : decode (mB Lw_putsBehind) 37 = .ok (.iconst 0, 1) := by decide +kernel
theorem dLw_putsBehind_38 : decode (mB Lw_putsBehind) 38 = .ok (.iaload, 1) := by decide +kernel
theorem dLw_putsBehind_39 : decode (mB Lw_putsBehind) 39 = .ok (.istore 4, 2) := by decide +kernel
theorem dLw_putsBehind_41 : decode (mB Lw_putsBehind) 41 = .ok (.iload 4, 2) := by decide +kernel
theorem dLw_putsBehind_43 : decode (mB Lw_putsBehind) 43 = .ok (.iload_n 3, 1) := by decide +kernel
theorem dLw_putsBehind_44 : decode (mB Lw_putsBehind) 44 = .ok (.if_icmp .lt 19, 3) := by decide +kernel
theorem dLw_putsBehind_47 : decode (mB Lw_putsBehind) 47 = .ok (.aload_n 0, 1) := by decide +kernel
theorem dLw_putsBehind_48 : decode (mB Lw_putsBehind) 48 = .ok (.iload 4, 2) := by decide +kernel
theorem dLw_putsBehind_50 : decode (mB Lw_putsBehind) 50 = .ok (.iconst 1, 1) := by decide +kernel
theorem dLw_putsBehind_51 : decode (mB Lw_putsBehind) 51 = .ok (.iadd, 1) := by decide +kernel
theorem dLw_putsBehind_52 : decode (mB Lw_putsBehind) 52 = .ok (.aload_n 0, 1) := by decide +kernel
theorem dLw_putsBehind_53 : decode (mB Lw_putsBehind) 53 = .ok (.iload 4, 2) := by decide +kernel
theorem dLw_putsBehind_55 : decode (mB Lw_putsBehind) 55 = .ok (.iaload, 1) := by decide +kernel
theorem dLw_putsBehind_56 : decode (mB Lw_putsBehind) 56 = .ok (.iastore, 1) := by decide +kernel
theorem dLw_putsBehind_57 : decode (mB Lw_putsBehind) 57 = .ok (.iinc 4 (-1), 3) := by decide +kernel
theorem dLw_putsBehind_60 : decode (mB Lw_putsBehind) 60 = .ok (.goto (-19), 3) := by decide +kernel
theorem dLw_putsBehind_63 : decode (mB Lw_putsBehind) 63 = .ok (.aload_n 0, 1) := by decide +kernel
theorem dLw_putsBehind_64 : decode (mB Lw_putsBehind) 64 = .ok (.iload_n 3, 1) := by decide +kernel
theorem dLw_putsBehind_65 : decode (mB Lw_putsBehind) 65 = .ok (.iload_n 1, 1) := by decide +kernel
theorem dLw_putsBehind_66 : decode (mB Lw_putsBehind) 66 = .ok (.iastore, 1) := by decide +kernel
theorem dLw_putsBehind_67 : decode (mB Lw_putsBehind) 67 = .ok (.aload_n 0, 1) := by decide +kernel
theorem dLw_putsBehind_68 : decode (mB Lw_putsBehind) 68 = .ok (.iconst 0, 1) := by decide +kernel
theorem dLw_putsBehind_69 : decode (mB Lw_putsBehind) 69 = .ok (.dup2, 1) := by decide +kernel
theorem dLw_putsBehind_70 : decode (mB Lw_putsBehind) 70 = .ok (.iaload, 1) := by decide +kernel
theorem dLw_putsBehind_71 : decode (mB Lw_putsBehind) 71 = .ok (.iconst 1, 1) := by decide +kernel
theorem dLw_putsBehind_72 : decode (mB Lw_putsBehind) 72 = .ok (.iadd, 1) := by decide +kernel
theorem dLw_putsBehind_73 : decode (mB Lw_putsBehind) 73 = .ok (.iastore, 1) := by decide +kernel
theorem dLw_putsBehind_74 : decode (mB Lw_putsBehind) 74 = .ok (.return_, 1) := by decide +kernel
def b_Lw_putsBehind_41 (R : tpH → Prop) (Y : (Option Nat) → Int32 → Int32 → Int32 → tpH → Prop) (x0 : Option Nat) (x1 : Int32) (x3 : Int32) (x4 : Int32) (h : tpH) : Prop :=
  (x4 < x3 → (∃ a2, x0 = some a2 ∧ hT h a2 = 15 ∧ (vp_in x3 (hL h a2) ∧ (∀ h6, h6 = sI h a2 x3.toNatClampNeg x1 → (vp_in (0 : Int32) (hL h6 a2) ∧ (vp_in (0 : Int32) (hL h6 a2) ∧ (∀ h10, h10 = sI h6 a2 (0 : Int32).toNatClampNeg ((hI h6 a2 (0 : Int32).toNatClampNeg) + (1 : Int32)) → (R h10)))))))) ∧ (¬ x4 < x3 → (∃ a12, x0 = some a12 ∧ hT h a12 = 15 ∧ (vp_in x4 (hL h a12) ∧ (vp_in (x4 + (1 : Int32)) (hL h a12) ∧ (∀ h17, h17 = sI h a12 (x4 + (1 : Int32)).toNatClampNeg (hI h a12 x4.toNatClampNeg) → (Y x0 x1 x3 (x4 + (-1 : Int32)) h17))))))
def w_Lw_putsBehind_41 (R : tpH → Prop) : Nat → (Option Nat) → Int32 → Int32 → Int32 → tpH → Prop
  | 0 => fun _ _ _ _ _ => False
  | n + 1 => b_Lw_putsBehind_41 R (w_Lw_putsBehind_41 R n)
def b_Lw_putsBehind_5 (R : tpH → Prop) (Y : (Option Nat) → Int32 → Int32 → Int32 → Int32 → tpH → Prop) (x0 : Option Nat) (x1 : Int32) (x2 : Int32) (x3 : Int32) (x4 : Int32) (h : tpH) : Prop :=
  ∃ a1, x0 = some a1 ∧ hT h a1 = 15 ∧ (vp_in (0 : Int32) (hL h a1) ∧ (((hI h a1 (0 : Int32).toNatClampNeg) < x4 → (vp_in (0 : Int32) (hL h a1) ∧ (∃ n, w_Lw_putsBehind_41 R n x0 x1 x3 (hI h a1 (0 : Int32).toNatClampNeg) h))) ∧ (¬ (hI h a1 (0 : Int32).toNatClampNeg) < x4 → (vp_in x4 (hL h a1) ∧ ((¬ (hI h a1 x4.toNatClampNeg) = x2 → (Y x0 x1 x2 x3 (x4 + (1 : Int32)) h)) ∧ ((hI h a1 x4.toNatClampNeg) = x2 → (Y x0 x1 x2 (x4 + (1 : Int32)) (x4 + (1 : Int32)) h)))))))
def w_Lw_putsBehind_5 (R : tpH → Prop) : Nat → (Option Nat) → Int32 → Int32 → Int32 → Int32 → tpH → Prop
  | 0 => fun _ _ _ _ _ _ => False
  | n + 1 => b_Lw_putsBehind_5 R (w_Lw_putsBehind_5 R n)
def w_Lw_putsBehind (x0 : Option Nat) (x1 : Int32) (x2 : Int32) (h : tpH) (R : tpH → Prop) : Prop :=
  ∃ n, w_Lw_putsBehind_5 R n x0 x1 x2 (1 : Int32) (1 : Int32) h
theorem s_Lw_putsBehind_41 {h0 : tpH} {av : List tpV} {R : tpH → Prop} : ∀ (n : Nat) (x0 : Option Nat) (x1 : Int32) (x3 : Int32) (x4 : Int32) (h : tpH), w_Lw_putsBehind_41 R n x0 x1 x3 x4 h → tpR Lw_putsBehind 0 h0 av (tpOv R (fun _ _ => False)) 41 [some (vR x0), some (vI x1), none, some (vI x3), some (vI x4)] [] h := by
  intro n
  induction n with
  | zero => intro x0 x1 x3 x4 h hw; exact False.elim hw
  | succ n ih =>
    intro x0 x1 x3 x4 h hw
    change b_Lw_putsBehind_41 R (w_Lw_putsBehind_41 R n) x0 x1 x3 x4 h at hw
    unfold b_Lw_putsBehind_41 at hw
    refine tq_iload dLw_putsBehind_41 rfl ?_
    refine tq_iload_n dLw_putsBehind_43 rfl rfl ?_
    refine tq_icmplt (tgt := 63) dLw_putsBehind_44 (by decide) (fun c1 => ?_) (fun c1 => ?_)
    · have hw := hw.1 c1
      refine tq_aload_n dLw_putsBehind_63 rfl rfl ?_
      refine tq_iload_n dLw_putsBehind_64 rfl rfl ?_
      refine tq_iload_n dLw_putsBehind_65 rfl rfl ?_
      obtain ⟨a2, e3, f4, hw⟩ := hw
      obtain ⟨f5, hw⟩ := hw
      refine te_iast dLw_putsBehind_66 e3 f4 f5 (fun h6 e7 => ?_)
      have hw := hw h6 e7
      refine tq_aload_n dLw_putsBehind_67 rfl rfl ?_
      refine tq_iconst (v := (0 : Int32)) dLw_putsBehind_68 tni_0 ?_
      refine tq_dup2 dLw_putsBehind_69 rfl rfl ?_
      obtain ⟨f8, hw⟩ := hw
      refine te_iald dLw_putsBehind_70 e3 (Or.inl (by rw [e7]; exact f4)) f8 ?_
      refine tq_iconst (v := (1 : Int32)) dLw_putsBehind_71 tni_1 ?_
      refine tq_iadd dLw_putsBehind_72 ?_
      obtain ⟨f9, hw⟩ := hw
      refine te_iast dLw_putsBehind_73 e3 (by rw [e7]; exact f4) f9 (fun h10 e11 => ?_)
      have hw := hw h10 e11
      exact tq_vret rfl dLw_putsBehind_74 hw
    · have hw := hw.2 c1
      refine tq_aload_n dLw_putsBehind_47 rfl rfl ?_
      refine tq_iload dLw_putsBehind_48 rfl ?_
      refine tq_iconst (v := (1 : Int32)) dLw_putsBehind_50 tni_1 ?_
      refine tq_iadd dLw_putsBehind_51 ?_
      refine tq_aload_n dLw_putsBehind_52 rfl rfl ?_
      refine tq_iload dLw_putsBehind_53 rfl ?_
      obtain ⟨a12, e13, f14, hw⟩ := hw
      obtain ⟨f15, hw⟩ := hw
      refine te_iald dLw_putsBehind_55 e13 (Or.inl f14) f15 ?_
      obtain ⟨f16, hw⟩ := hw
      refine te_iast dLw_putsBehind_56 e13 f14 f16 (fun h17 e18 => ?_)
      have hw := hw h17 e18
      refine tq_inc (k := (-1 : Int32)) (ls' := [some (vR x0), some (vI x1), none, some (vI x3), some (vI (x4 + (-1 : Int32)))]) dLw_putsBehind_57 rfl tni_m1 (Nat.le_of_ble_eq_true rfl) rfl ?_
      refine tq_goto (tgt := 41) dLw_putsBehind_60 (by decide) ?_
      refine tpR.fo (ls' := [some (vR x0), some (vI x1), none, some (vI x3), some (vI (x4 + (-1 : Int32)))]) ?_ (And.intro rfl (And.intro rfl (And.intro rfl (And.intro rfl trivial))))
      exact ih _ _ _ _ _ hw
theorem s_Lw_putsBehind_5 {h0 : tpH} {av : List tpV} {R : tpH → Prop} : ∀ (n : Nat) (x0 : Option Nat) (x1 : Int32) (x2 : Int32) (x3 : Int32) (x4 : Int32) (h : tpH), w_Lw_putsBehind_5 R n x0 x1 x2 x3 x4 h → tpR Lw_putsBehind 0 h0 av (tpOv R (fun _ _ => False)) 5 [some (vR x0), some (vI x1), some (vI x2), some (vI x3), some (vI x4)] [] h := by
  intro n
  induction n with
  | zero => intro x0 x1 x2 x3 x4 h hw; exact False.elim hw
  | succ n ih =>
    intro x0 x1 x2 x3 x4 h hw
    change b_Lw_putsBehind_5 R (w_Lw_putsBehind_5 R n) x0 x1 x2 x3 x4 h at hw
    unfold b_Lw_putsBehind_5 at hw
    refine tq_iload dLw_putsBehind_5 rfl ?_
    refine tq_aload_n dLw_putsBehind_7 rfl rfl ?_
    refine tq_iconst (v := (0 : Int32)) dLw_putsBehind_8 tni_0 ?_
    obtain ⟨a1, e2, f3, hw⟩ := hw
    obtain ⟨f4, hw⟩ := hw
    refine te_iald dLw_putsBehind_9 e2 (Or.inl f3) f4 ?_
    refine tq_icmpgt (tgt := 36) dLw_putsBehind_10 (by decide) (fun c5 => ?_) (fun c5 => ?_)
    · have hw := hw.1 c5
      refine tq_aload_n dLw_putsBehind_36 rfl rfl ?_
      refine tq_iconst (v := (0 : Int32)) dLw_putsBehind_37 tni_0 ?_
      obtain ⟨f6, hw⟩ := hw
      refine te_iald dLw_putsBehind_38 e2 (Or.inl f3) f6 ?_
      refine tq_istore (ls' := [some (vR x0), some (vI x1), some (vI x2), some (vI x3), some (vI (hI h a1 (0 : Int32).toNatClampNeg))]) dLw_putsBehind_39 (Nat.le_of_ble_eq_true rfl) rfl ?_
      refine tpR.fo (ls' := [some (vR x0), some (vI x1), none, some (vI x3), some (vI (hI h a1 (0 : Int32).toNatClampNeg))]) ?_ (And.intro rfl (And.intro rfl (And.intro rfl (And.intro rfl trivial))))
      obtain ⟨n, hw⟩ := hw
      exact s_Lw_putsBehind_41 n _ _ _ _ _ hw
    · have hw := hw.2 c5
      refine tq_aload_n dLw_putsBehind_13 rfl rfl ?_
      refine tq_iload dLw_putsBehind_14 rfl ?_
      obtain ⟨f7, hw⟩ := hw
      refine te_iald dLw_putsBehind_16 e2 (Or.inl f3) f7 ?_
      refine tq_iload_n dLw_putsBehind_17 rfl rfl ?_
      refine tq_icmpne (tgt := 28) dLw_putsBehind_18 (by decide) (fun c8 => ?_) (fun c8 => ?_)
      · have hw := hw.1 c8
        refine tq_iload_n dLw_putsBehind_28 rfl rfl ?_
        refine tq_istore_n (ls' := [some (vR x0), some (vI x1), some (vI x2), some (vI x3), some (vI x4)]) dLw_putsBehind_29 rfl (Nat.le_of_ble_eq_true rfl) rfl ?_
        refine tq_inc (k := (1 : Int32)) (ls' := [some (vR x0), some (vI x1), some (vI x2), some (vI x3), some (vI (x4 + (1 : Int32)))]) dLw_putsBehind_30 rfl tni_1 (Nat.le_of_ble_eq_true rfl) rfl ?_
        refine tq_goto (tgt := 5) dLw_putsBehind_33 (by decide) ?_
        refine tpR.fo (ls' := [some (vR x0), some (vI x1), some (vI x2), some (vI x3), some (vI (x4 + (1 : Int32)))]) ?_ (And.intro rfl (And.intro rfl (And.intro rfl (And.intro rfl (And.intro rfl trivial)))))
        exact ih _ _ _ _ _ _ hw
      · have hw := hw.2 c8
        refine tq_iload dLw_putsBehind_21 rfl ?_
        refine tq_iconst (v := (1 : Int32)) dLw_putsBehind_23 tni_1 ?_
        refine tq_iadd dLw_putsBehind_24 ?_
        refine tq_goto (tgt := 29) dLw_putsBehind_25 (by decide) ?_
        refine tq_istore_n (ls' := [some (vR x0), some (vI x1), some (vI x2), some (vI (x4 + (1 : Int32))), some (vI x4)]) dLw_putsBehind_29 rfl (Nat.le_of_ble_eq_true rfl) rfl ?_
        refine tq_inc (k := (1 : Int32)) (ls' := [some (vR x0), some (vI x1), some (vI x2), some (vI (x4 + (1 : Int32))), some (vI (x4 + (1 : Int32)))]) dLw_putsBehind_30 rfl tni_1 (Nat.le_of_ble_eq_true rfl) rfl ?_
        refine tq_goto (tgt := 5) dLw_putsBehind_33 (by decide) ?_
        refine tpR.fo (ls' := [some (vR x0), some (vI x1), some (vI x2), some (vI (x4 + (1 : Int32))), some (vI (x4 + (1 : Int32)))]) ?_ (And.intro rfl (And.intro rfl (And.intro rfl (And.intro rfl (And.intro rfl trivial)))))
        exact ih _ _ _ _ _ _ hw
theorem s_Lw_putsBehind {x0 : Option Nat} {x1 : Int32} {x2 : Int32} {h : tpH} {R : tpH → Prop} (hw : w_Lw_putsBehind x0 x1 x2 h R) : tpC Lw_putsBehind 0 [vR x0, vI x1, vI x2] h (tpOv R (fun _ _ => False)) := by
  refine tpC_of ms_Lw_putsBehind.2.2.2.1 rfl rfl (Nat.le_of_ble_eq_true rfl) ?_
  show tpR Lw_putsBehind 0 h _ _ 0 [some (vR x0), some (vI x1), some (vI x2), none, none] [] h
  unfold w_Lw_putsBehind at hw
  refine tq_iconst (v := (1 : Int32)) dLw_putsBehind_0 tni_1 ?_
  refine tq_istore_n (ls' := [some (vR x0), some (vI x1), some (vI x2), some (vI (1 : Int32)), none]) dLw_putsBehind_1 rfl (Nat.le_of_ble_eq_true rfl) rfl ?_
  refine tq_iconst (v := (1 : Int32)) dLw_putsBehind_2 tni_1 ?_
  refine tq_istore (ls' := [some (vR x0), some (vI x1), some (vI x2), some (vI (1 : Int32)), some (vI (1 : Int32))]) dLw_putsBehind_3 (Nat.le_of_ble_eq_true rfl) rfl ?_
  refine tpR.fo (ls' := [some (vR x0), some (vI x1), some (vI x2), some (vI (1 : Int32)), some (vI (1 : Int32))]) ?_ (And.intro rfl (And.intro rfl (And.intro rfl (And.intro rfl (And.intro rfl trivial)))))
  obtain ⟨n, hw⟩ := hw
  exact s_Lw_putsBehind_5 n _ _ _ _ _ _ hw
