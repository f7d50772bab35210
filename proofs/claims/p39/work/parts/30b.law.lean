/-! TLaw.isTree -/
theorem dLw_isTree_0 : decode (mB Lw_isTree) 0 = .ok (.bipush 40, 2) := by decide +kernel
theorem dLw_isTree_2 : decode (mB Lw_isTree) 2 = .ok (.newarray .int, 2) := by decide +kernel
theorem dLw_isTree_4 : decode (mB Lw_isTree) 4 = .ok (.astore 4, 2) := by decide +kernel
theorem dLw_isTree_6 : decode (mB Lw_isTree) 6 = .ok (.bipush 40, 2) := by decide +kernel
theorem dLw_isTree_8 : decode (mB Lw_isTree) 8 = .ok (.newarray .int, 2) := by decide +kernel
theorem dLw_isTree_10 : decode (mB Lw_isTree) 10 = .ok (.astore 5, 2) := by decide +kernel
theorem dLw_isTree_12 : decode (mB Lw_isTree) 12 = .ok (.bipush 41, 2) := by decide +kernel
theorem dLw_isTree_14 : decode (mB Lw_isTree) 14 = .ok (.newarray .int, 2) := by decide +kernel
theorem dLw_isTree_16 : decode (mB Lw_isTree) 16 = .ok (.astore 6, 2) := by decide +kernel
theorem dLw_isTree_18 : decode (mB Lw_isTree) 18 = .ok (.aload_n 0, 1) := by decide +kernel
theorem dLw_isTree_19 : decode (mB Lw_isTree) 19 = .ok (.iload_n 1, 1) := by decide +kernel
theorem dLw_isTree_20 : decode (mB Lw_isTree) 20 = .ok (.invokevirtual 22, 3) := by decide +kernel
theorem dLw_isTree_23 : decode (mB Lw_isTree) 23 = .ok (.aload_n 2, 1) := by decide +kernel
theorem dLw_isTree_24 : decode (mB Lw_isTree) 24 = .ok (.iconst 0, 1) := by decide +kernel
theorem dLw_isTree_25 : decode (mB Lw_isTree) 25 = .ok (.iaload, 1) := by decide +kernel
theorem dLw_isTree_26 : decode (mB Lw_isTree) 26 = .ok (.if_icmp .ne 7, 3) := by decide +kernel
theorem dLw_isTree_29 : decode (mB Lw_isTree) 29 = .ok (.iconst 1, 1) := by decide +kernel
theorem dLw_isTree_30 : decode (mB Lw_isTree) 30 = .ok (.goto 4, 3) := by decide +kernel
theorem dLw_isTree_33 : decode (mB Lw_isTree) 33 = .ok (.iconst 0, 1) := by decide +kernel
theorem dLw_isTree_34 : decode (mB Lw_isTree) 34 = .ok (.istore 7, 2) := by decide +kernel
theorem dLw_isTree_36 : decode (mB Lw_isTree) 36 = .ok (.iload 7, 2) := by decide +kernel
theorem dLw_isTree_38 : decode (mB Lw_isTree) 38 = .ok (.ifCond .eq 10, 3) := by decide +kernel
theorem dLw_isTree_41 : decode (mB Lw_isTree) 41 = .ok (.aload_n 0, 1) := by decide +kernel
theorem dLw_isTree_42 : decode (mB Lw_isTree) 42 = .ok (.iload_n 1, 1) := by decide +kernel
theorem dLw_isTree_43 : decode (mB Lw_isTree) 43 = .ok (.aload 6, 2) := by decide +kernel
theorem dLw_isTree_45 : decode (mB Lw_isTree) 45 = .ok (.invokestatic 82, 3) := by decide +kernel
theorem dLw_isTree_48 : decode (mB Lw_isTree) 48 = .ok (.iconst 0, 1) := by decide +kernel
theorem dLw_isTree_49 : decode (mB Lw_isTree) 49 = .ok (.istore 8, 2) := by decide +kernel
theorem dLw_isTree_51 : decode (mB Lw_isTree) 51 = .ok (.iload 8, 2) := by decide +kernel
theorem dLw_isTree_53 : decode (mB Lw_isTree) 53 = .ok (.aload_n 2, 1) := by decide +kernel
theorem dLw_isTree_54 : decode (mB Lw_isTree) 54 = .ok (.iconst 0, 1) := by decide +kernel
theorem dLw_isTree_55 : decode (mB Lw_isTree) 55 = .ok (.iaload, 1) := by decide +kernel
theorem dLw_isTree_56 : decode (mB Lw_isTree) 56 = .ok (.if_icmp .ge 144, 3) := by decide +kernel
theorem dLw_isTree_59 : decode (mB Lw_isTree) 59 = .ok (.iload 7, 2) := by decide +kernel
theorem dLw_isTree_61 : decode (mB Lw_isTree) 61 = .ok (.ifCond .eq 139, 3) := by decide +kernel
theorem dLw_isTree_64 : decode (mB Lw_isTree) 64 = .ok (.aload_n 2, 1) := by decide +kernel
theorem dLw_isTree_65 : decode (mB Lw_isTree) 65 = .ok (.iload 8, 2) := by decide +kernel
theorem dLw_isTree_67 : decode (mB Lw_isTree) 67 = .ok (.invokestatic 7, 3) := by decide +kernel
theorem dLw_isTree_70 : decode (mB Lw_isTree) 70 = .ok (.istore 9, 2) := by decide +kernel
theorem dLw_isTree_72 : decode (mB Lw_isTree) 72 = .ok (.aload 6, 2) := by decide +kernel
theorem dLw_isTree_74 : decode (mB Lw_isTree) 74 = .ok (.iload 9, 2) := by decide +kernel
theorem dLw_isTree_76 : decode (mB Lw_isTree) 76 = .ok (.invokestatic 40, 3) := by decide +kernel
theorem dLw_isTree_79 : decode (mB Lw_isTree) 79 = .ok (.aload_n 2, 1) := by decide +kernel
theorem dLw_isTree_80 : decode (mB Lw_isTree) 80 = .ok (.iload 8, 2) := by decide +kernel
theorem dLw_isTree_82 : decode (mB Lw_isTree) 82 = .ok (.invokestatic 16, 3) := by decide +kernel
theorem dLw_isTree_85 : decode (mB Lw_isTree) 85 = .ok (.if_icmp .ne 23, 3) := by decide +kernel
theorem dLw_isTree_88 : decode (mB Lw_isTree) 88 = .ok (.aload 6, 2) := by decide +kernel
theorem dLw_isTree_90 : decode (mB Lw_isTree) 90 = .ok (.iload 9, 2) := by decide +kernel
theorem dLw_isTree_92 : decode (mB Lw_isTree) 92 = .ok (.invokestatic 86, 3) := by decide +kernel
theorem dLw_isTree_95 : decode (mB Lw_isTree) 95 = .ok (.aload_n 2, 1) := by decide +kernel
theorem dLw_isTree_96 : decode (mB Lw_isTree) 96 = .ok (.iload 8, 2) := by decide +kernel
theorem dLw_isTree_98 : decode (mB Lw_isTree) 98 = .ok (.invokestatic 19, 3) := by decide +kernel
theorem dLw_isTree_101 : decode (mB Lw_isTree) 101 = .ok (.if_icmp .ne 7, 3) := by decide +kernel
theorem dLw_isTree_104 : decode (mB Lw_isTree) 104 = .ok (.iconst 1, 1) := by decide +kernel
theorem dLw_isTree_105 : decode (mB Lw_isTree) 105 = .ok (.goto 4, 3) := by decide +kernel
theorem dLw_isTree_108 : decode (mB Lw_isTree) 108 = .ok (.iconst 0, 1) := by decide +kernel
theorem dLw_isTree_109 : decode (mB Lw_isTree) 109 = .ok (.istore 7, 2) := by decide +kernel
theorem dLw_isTree_111 : decode (mB Lw_isTree) 111 = .ok (.aload_n 2, 1) := by decide +kernel
theorem dLw_isTree_112 : decode (mB Lw_isTree) 112 = .ok (.aload_n 3, 1) := by decide +kernel
theorem dLw_isTree_113 : decode (mB Lw_isTree) 113 = .ok (.iload 9, 2) := by decide +kernel
theorem dLw_isTree_115 : decode (mB Lw_isTree) 115 = .ok (.aload 4, 2) := by decide +kernel
theorem dLw_isTree_117 : decode (mB Lw_isTree) 117 = .ok (.invokestatic 36, 3) := by decide +kernel
theorem dLw_isTree_120 : decode (mB Lw_isTree) 120 = .ok (.istore 10, 2) := by decide +kernel
theorem dLw_isTree_122 : decode (mB Lw_isTree) 122 = .ok (.aload 6, 2) := by decide +kernel
theorem dLw_isTree_124 : decode (mB Lw_isTree) 124 = .ok (.aload_n 3, 1) := by decide +kernel
theorem dLw_isTree_125 : decode (mB Lw_isTree) 125 = .ok (.iload 9, 2) := by decide +kernel
theorem dLw_isTree_127 : decode (mB Lw_isTree) 127 = .ok (.aload 5, 2) := by decide +kernel
theorem dLw_isTree_129 : decode (mB Lw_isTree) 129 = .ok (.invokestatic 36, 3) := by decide +kernel
theorem dLw_isTree_132 : decode (mB Lw_isTree) 132 = .ok (.istore 11, 2) := by decide +kernel
theorem dLw_isTree_134 : decode (mB Lw_isTree) 134 = .ok (.iload 7, 2) := by decide +kernel
theorem dLw_isTree_136 : decode (mB Lw_isTree) 136 = .ok (.ifCond .eq 14, 3) := by decide +kernel
theorem dLw_isTree_139 : decode (mB Lw_isTree) 139 = .ok (.iload 10, 2) := by decide +kernel
theorem dLw_isTree_141 : decode (mB Lw_isTree) 141 = .ok (.iload 11, 2) := by decide +kernel
theorem dLw_isTree_143 : decode (mB Lw_isTree) 143 = .ok (.if_icmp .ne 7, 3) := by decide +kernel
theorem dLw_isTree_146 : decode (mB Lw_isTree) 146 = .ok (.iconst 1, 1) := by decide +kernel
theorem dLw_isTree_147 : decode (mB Lw_isTree) 147 = .ok (.goto 4, 3) := by decide +kernel
theorem dLw_isTree_150 : decode (mB Lw_isTree) 150 = .ok (.iconst 0, 1) := by decide +kernel
theorem dLw_isTree_151 : decode (mB Lw_isTree) 151 = .ok (.istore 7, 2) := by decide +kernel
theorem dLw_isTree_153 : decode (mB Lw_isTree) 153 = .ok (.iconst 0, 1) := by decide +kernel
theorem dLw_isTree_154 : decode (mB Lw_isTree) 154 = .ok (.istore 12, 2) := by decide +kernel
theorem dLw_isTree_156 : decode (mB Lw_isTree) 156 = .ok (.iload 12, 2) := by decide +kernel
theorem dLw_isTree_158 : decode (mB Lw_isTree) 158 = .ok (.iload 10, 2) := by decide +kernel
theorem dLw_isTree_160 : decode (mB Lw_isTree) 160 = .ok (.if_icmp .ge 34, 3) := by decide +kernel
theorem dLw_isTree_163 : decode (mB Lw_isTree) 163 = .ok (.iload 7, 2) := by decide +kernel
theorem dLw_isTree_165 : decode (mB Lw_isTree) 165 = .ok (.ifCond .eq 29, 3) := by decide +kernel
theorem dLw_isTree_168 : decode (mB Lw_isTree) 168 = .ok (.aload 4, 2) := by decide +kernel
theorem dLw_isTree_170 : decode (mB Lw_isTree) 170 = .ok (.iload 12, 2) := by decide +kernel
theorem dLw_isTree_172 : decode (mB Lw_isTree) 172 = .ok (.iaload, 1) := by decide +kernel
theorem dLw_isTree_173 : decode (mB Lw_isTree) 173 = .ok (.aload 5, 2) := by decide +kernel
theorem dLw_isTree_175 : decode (mB Lw_isTree) 175 = .ok (.iload 12, 2) := by decide +kernel
theorem dLw_isTree_177 : decode (mB Lw_isTree) 177 = .ok (.iaload, 1) := by decide +kernel
theorem dLw_isTree_178 : decode (mB Lw_isTree) 178 = .ok (.if_icmp .ne 7, 3) := by decide +kernel
theorem dLw_isTree_181 : decode (mB Lw_isTree) 181 = .ok (.iconst 1, 1) := by decide +kernel
theorem dLw_isTree_182 : decode (mB Lw_isTree) 182 = .ok (.goto 4, 3) := by decide +kernel
theorem dLw_isTree_185 : decode (mB Lw_isTree) 185 = .ok (.iconst 0, 1) := by decide +kernel
theorem dLw_isTree_186 : decode (mB Lw_isTree) 186 = .ok (.istore 7, 2) := by decide +kernel
theorem dLw_isTree_188 : decode (mB Lw_isTree) 188 = .ok (.iinc 12 1, 3) := by decide +kernel
theorem dLw_isTree_191 : decode (mB Lw_isTree) 191 = .ok (.goto (-35), 3) := by decide +kernel
theorem dLw_isTree_194 : decode (mB Lw_isTree) 194 = .ok (.iinc 8 1, 3) := by decide +kernel
theorem dLw_isTree_197 : decode (mB Lw_isTree) 197 = .ok (.goto (-146), 3) := by decide +kernel
theorem dLw_isTree_200 : decode (mB Lw_isTree) 200 = .ok (.iconst 1, 1) := by decide +kernel
theorem dLw_isTree_201 : decode (mB Lw_isTree) 201 = .ok (.istore 8, 2) := by decide +kernel
theorem dLw_isTree_203 : decode (mB Lw_isTree) 203 = .ok (.iload 8, 2) := by decide +kernel
theorem dLw_isTree_205 : decode (mB Lw_isTree) 205 = .ok (.aload_n 2, 1) := by decide +kernel
theorem dLw_isTree_206 : decode (mB Lw_isTree) 206 = .ok (.iconst 0, 1) := by decide +kernel
theorem dLw_isTree_207 : decode (mB Lw_isTree) 207 = .ok (.iaload, 1) := by decide +kernel
theorem dLw_isTree_208 : decode (mB Lw_isTree) 208 = .ok (.if_icmp .ge 38, 3) := by decide +kernel
theorem dLw_isTree_211 : decode (mB Lw_isTree) 211 = .ok (.iload 7, 2) := by decide +kernel
theorem dLw_isTree_213 : decode (mB Lw_isTree) 213 = .ok (.ifCond .eq 33, 3) := by decide +kernel
theorem dLw_isTree_216 : decode (mB Lw_isTree) 216 = .ok (.aload 6, 2) := by decide +kernel
theorem dLw_isTree_218 : decode (mB Lw_isTree) 218 = .ok (.aload 6, 2) := by decide +kernel
theorem dLw_isTree_220 : decode (mB Lw_isTree) 220 = .ok (.iload 8, 2) := by decide +kernel
theorem dLw_isTree_222 : decode (mB Lw_isTree) 222 = .ok (.invokestatic 16, 3) := by decide +kernel
theorem dLw_isTree_225 : decode (mB Lw_isTree) 225 = .ok (.invokestatic 13, 3) := by decide +kernel
theorem dLw_isTree_228 : decode (mB Lw_isTree) 228 = .ok (.iload 8, 2) := by decide +kernel
theorem dLw_isTree_230 : decode (mB Lw_isTree) 230 = .ok (.if_icmp .ge 7, 3) := by decide +kernel
theorem dLw_isTree_233 : decode (mB Lw_isTree) 233 = .ok (.iconst 1, 1) := by decide +kernel
theorem dLw_isTree_234 : decode (mB Lw_isTree) 234 = .ok (.goto 4, 3) := by decide +kernel
theorem dLw_isTree_237 : decode (mB Lw_isTree) 237 = .ok (.iconst 0, 1) := by decide +kernel
theorem dLw_isTree_238 : decode (mB Lw_isTree) 238 = .ok (.istore 7, 2) := by decide +kernel
theorem dLw_isTree_240 : decode (mB Lw_isTree) 240 = .ok (.iinc 8 1, 3) := by decide +kernel
theorem dLw_isTree_243 : decode (mB Lw_isTree) 243 = .ok (.goto (-40), 3) := by decide +kernel
theorem dLw_isTree_246 : decode (mB Lw_isTree) 246 = .ok (.iload 7, 2) := by decide +kernel
theorem dLw_isTree_248 : decode (mB Lw_isTree) 248 = .ok (.ireturn, 1) := by decide +kernel
def b_Lw_isTree_156 (R : Int32 → tpH → Prop) (X : String → tpH → Prop) (K51 : (Option Nat) → (Option Nat) → (Option Nat) → (Option Nat) → (Option Nat) → Int32 → Int32 → tpH → Prop) (Y : (Option Nat) → (Option Nat) → (Option Nat) → (Option Nat) → (Option Nat) → Int32 → Int32 → Int32 → Int32 → tpH → Prop) (x2 : Option Nat) (x3 : Option Nat) (x4 : Option Nat) (x5 : Option Nat) (x6 : Option Nat) (x7 : Int32) (x8 : Int32) (x10 : Int32) (x12 : Int32) (h : tpH) : Prop :=
  (x10 ≤ x12 → (K51 x2 x3 x4 x5 x6 x7 (x8 + (1 : Int32)) h)) ∧ (¬ x10 ≤ x12 → ((x7 = 0 → (K51 x2 x3 x4 x5 x6 x7 (x8 + (1 : Int32)) h)) ∧ (¬ x7 = 0 → (∃ a3, x4 = some a3 ∧ hT h a3 = 15 ∧ (vp_in x12 (hL h a3) ∧ (∃ a7, x5 = some a7 ∧ hT h a7 = 15 ∧ (vp_in x12 (hL h a7) ∧ ((¬ (hI h a3 x12.toNatClampNeg) = (hI h a7 x12.toNatClampNeg) → (Y x2 x3 x4 x5 x6 (0 : Int32) x8 x10 (x12 + (1 : Int32)) h)) ∧ ((hI h a3 x12.toNatClampNeg) = (hI h a7 x12.toNatClampNeg) → (Y x2 x3 x4 x5 x6 (1 : Int32) x8 x10 (x12 + (1 : Int32)) h))))))))))
def w_Lw_isTree_156 (R : Int32 → tpH → Prop) (X : String → tpH → Prop) (K51 : (Option Nat) → (Option Nat) → (Option Nat) → (Option Nat) → (Option Nat) → Int32 → Int32 → tpH → Prop) : Nat → (Option Nat) → (Option Nat) → (Option Nat) → (Option Nat) → (Option Nat) → Int32 → Int32 → Int32 → Int32 → tpH → Prop
  | 0 => fun _ _ _ _ _ _ _ _ _ _ => False
  | n + 1 => b_Lw_isTree_156 R X K51 (w_Lw_isTree_156 R X K51 n)
def w_Lw_isTree_109 (R : Int32 → tpH → Prop) (X : String → tpH → Prop) (K51 : (Option Nat) → (Option Nat) → (Option Nat) → (Option Nat) → (Option Nat) → Int32 → Int32 → tpH → Prop) (x2 : Option Nat) (x3 : Option Nat) (x4 : Option Nat) (x5 : Option Nat) (x6 : Option Nat) (x8 : Int32) (x9 : Int32) (t0 : Int32) (h : tpH) : Prop :=
  w_Lw_children x2 x3 x9 x4 h (fun v2 h1 => w_Lw_children x6 x3 x9 x5 h1 (fun v4 h3 => (t0 = 0 → (∃ n, w_Lw_isTree_156 R X K51 n x2 x3 x4 x5 x6 (0 : Int32) x8 v2 (0 : Int32) h3)) ∧ (¬ t0 = 0 → ((¬ v2 = v4 → (∃ n, w_Lw_isTree_156 R X K51 n x2 x3 x4 x5 x6 (0 : Int32) x8 v2 (0 : Int32) h3)) ∧ (v2 = v4 → (∃ n, w_Lw_isTree_156 R X K51 n x2 x3 x4 x5 x6 (1 : Int32) x8 v2 (0 : Int32) h3))))))
def b_Lw_isTree_203 (R : Int32 → tpH → Prop) (X : String → tpH → Prop) (Y : (Option Nat) → (Option Nat) → Int32 → Int32 → tpH → Prop) (x2 : Option Nat) (x6 : Option Nat) (x7 : Int32) (x8 : Int32) (h : tpH) : Prop :=
  ∃ a1, x2 = some a1 ∧ hT h a1 = 15 ∧ (vp_in (0 : Int32) (hL h a1) ∧ (((hI h a1 (0 : Int32).toNatClampNeg) ≤ x8 → (tpB x7 ∧ (R x7 h))) ∧ (¬ (hI h a1 (0 : Int32).toNatClampNeg) ≤ x8 → ((x7 = 0 → (tpB x7 ∧ (R x7 h))) ∧ (¬ x7 = 0 → (w_Lw_parent x6 x8 h (fun v10 h9 => w_Lw_place x6 v10 h9 (fun v12 h11 => (x8 ≤ v12 → (Y x2 x6 (0 : Int32) (x8 + (1 : Int32)) h11)) ∧ (¬ x8 ≤ v12 → (Y x2 x6 (1 : Int32) (x8 + (1 : Int32)) h11))))))))))
def w_Lw_isTree_203 (R : Int32 → tpH → Prop) (X : String → tpH → Prop) : Nat → (Option Nat) → (Option Nat) → Int32 → Int32 → tpH → Prop
  | 0 => fun _ _ _ _ _ => False
  | n + 1 => b_Lw_isTree_203 R X (w_Lw_isTree_203 R X n)
def b_Lw_isTree_51 (R : Int32 → tpH → Prop) (X : String → tpH → Prop) (Y : (Option Nat) → (Option Nat) → (Option Nat) → (Option Nat) → (Option Nat) → Int32 → Int32 → tpH → Prop) (x2 : Option Nat) (x3 : Option Nat) (x4 : Option Nat) (x5 : Option Nat) (x6 : Option Nat) (x7 : Int32) (x8 : Int32) (h : tpH) : Prop :=
  ∃ a1, x2 = some a1 ∧ hT h a1 = 15 ∧ (vp_in (0 : Int32) (hL h a1) ∧ (((hI h a1 (0 : Int32).toNatClampNeg) ≤ x8 → (∃ n, w_Lw_isTree_203 R X n x2 x6 x7 (1 : Int32) h)) ∧ (¬ (hI h a1 (0 : Int32).toNatClampNeg) ≤ x8 → ((x7 = 0 → (∃ n, w_Lw_isTree_203 R X n x2 x6 x7 (1 : Int32) h)) ∧ (¬ x7 = 0 → (w_Lw_mark x2 x8 h (fun v8 h7 => w_Lw_parentOf x6 v8 h7 (fun v10 h9 => w_Lw_parent x2 x8 h9 (fun v12 h11 => (¬ v10 = v12 → (w_Lw_isTree_109 R X Y x2 x3 x4 x5 x6 x8 v8 (0 : Int32) h11)) ∧ (v10 = v12 → (w_Lw_valueOf x6 v8 h11 (fun v15 h14 => w_Lw_value x2 x8 h14 (fun v17 h16 => (¬ v15 = v17 → (w_Lw_isTree_109 R X Y x2 x3 x4 x5 x6 x8 v8 (0 : Int32) h16)) ∧ (v15 = v17 → (w_Lw_isTree_109 R X Y x2 x3 x4 x5 x6 x8 v8 (1 : Int32) h16)))))))))))))))
def w_Lw_isTree_51 (R : Int32 → tpH → Prop) (X : String → tpH → Prop) : Nat → (Option Nat) → (Option Nat) → (Option Nat) → (Option Nat) → (Option Nat) → Int32 → Int32 → tpH → Prop
  | 0 => fun _ _ _ _ _ _ _ _ => False
  | n + 1 => b_Lw_isTree_51 R X (w_Lw_isTree_51 R X n)
def w_Lw_isTree_34 (R : Int32 → tpH → Prop) (X : String → tpH → Prop) (x0 : Option Nat) (x1 : Int32) (x2 : Option Nat) (x3 : Option Nat) (x4 : Option Nat) (x5 : Option Nat) (x6 : Option Nat) (t0 : Int32) (h : tpH) : Prop :=
  (t0 = 0 → (∃ n, w_Lw_isTree_51 R X n x2 x3 x4 x5 x6 t0 (0 : Int32) h)) ∧ (¬ t0 = 0 → (w_Lw_reads x0 x1 x6 h X (fun h2 => ∃ n, w_Lw_isTree_51 R X n x2 x3 x4 x5 x6 t0 (0 : Int32) h2)))
def w_Lw_isTree (x0 : Option Nat) (x1 : Int32) (x2 : Option Nat) (x3 : Option Nat) (h : tpH) (X : String → tpH → Prop) (R : Int32 → tpH → Prop) : Prop :=
  ∀ a1 h2, a1 = hZ h → h2 = nC h 15 40 40 → (∀ a5 h6, a5 = hZ h2 → h6 = nC h2 15 40 40 → (∀ a9 h10, a9 = hZ h6 → h10 = nC h6 15 41 41 → (∃ a13, x0 = some a13 ∧ hT h10 a13 = 13 ∧ (w_TP_size a13 x1 h10 X (fun v17 h16 => ∃ a18, x2 = some a18 ∧ hT h16 a18 = 15 ∧ (vp_in (0 : Int32) (hL h16 a18) ∧ ((¬ v17 = (hI h16 a18 (0 : Int32).toNatClampNeg) → (w_Lw_isTree_34 R X x0 x1 x2 x3 (some a1) (some a5) (some a9) (0 : Int32) h16)) ∧ (v17 = (hI h16 a18 (0 : Int32).toNatClampNeg) → (w_Lw_isTree_34 R X x0 x1 x2 x3 (some a1) (some a5) (some a9) (1 : Int32) h16)))))))))
theorem s_Lw_isTree_156 {h0 : tpH} {av : List tpV} {R : Int32 → tpH → Prop} {X : String → tpH → Prop} {K51 : (Option Nat) → (Option Nat) → (Option Nat) → (Option Nat) → (Option Nat) → Int32 → Int32 → tpH → Prop} (k51 : ∀ (x2 : Option Nat) (x3 : Option Nat) (x4 : Option Nat) (x5 : Option Nat) (x6 : Option Nat) (x7 : Int32) (x8 : Int32) (h : tpH), K51 x2 x3 x4 x5 x6 x7 x8 h → tpR Lw_isTree 9 h0 av (tpOi R X) 51 [none, none, some (vR x2), some (vR x3), some (vR x4), some (vR x5), some (vR x6), some (vI x7), some (vI x8), none, none, none, none] [] h) : ∀ (n : Nat) (x2 : Option Nat) (x3 : Option Nat) (x4 : Option Nat) (x5 : Option Nat) (x6 : Option Nat) (x7 : Int32) (x8 : Int32) (x10 : Int32) (x12 : Int32) (h : tpH), w_Lw_isTree_156 R X K51 n x2 x3 x4 x5 x6 x7 x8 x10 x12 h → tpR Lw_isTree 9 h0 av (tpOi R X) 156 [none, none, some (vR x2), some (vR x3), some (vR x4), some (vR x5), some (vR x6), some (vI x7), some (vI x8), none, some (vI x10), none, some (vI x12)] [] h := by
  intro n
  induction n with
  | zero => intro x2 x3 x4 x5 x6 x7 x8 x10 x12 h hw; exact False.elim hw
  | succ n ih =>
    intro x2 x3 x4 x5 x6 x7 x8 x10 x12 h hw
    change b_Lw_isTree_156 R X K51 (w_Lw_isTree_156 R X K51 n) x2 x3 x4 x5 x6 x7 x8 x10 x12 h at hw
    unfold b_Lw_isTree_156 at hw
    refine tq_iload dLw_isTree_156 rfl ?_
    refine tq_iload dLw_isTree_158 rfl ?_
    refine tq_icmpge (tgt := 194) dLw_isTree_160 (by decide) (fun c1 => ?_) (fun c1 => ?_)
    · have hw := hw.1 c1
      refine tq_inc (k := (1 : Int32)) (ls' := [none, none, some (vR x2), some (vR x3), some (vR x4), some (vR x5), some (vR x6), some (vI x7), some (vI (x8 + (1 : Int32))), none, some (vI x10), none, some (vI x12)]) dLw_isTree_194 rfl tni_1 (Nat.le_of_ble_eq_true rfl) rfl ?_
      refine tq_goto (tgt := 51) dLw_isTree_197 (by decide) ?_
      refine tpR.fo (ls' := [none, none, some (vR x2), some (vR x3), some (vR x4), some (vR x5), some (vR x6), some (vI x7), some (vI (x8 + (1 : Int32))), none, none, none, none]) ?_ (And.intro rfl (And.intro rfl (And.intro rfl (And.intro rfl (And.intro rfl (And.intro rfl (And.intro rfl trivial)))))))
      exact k51 _ _ _ _ _ _ _ _ hw
    · have hw := hw.2 c1
      refine tq_iload dLw_isTree_163 rfl ?_
      refine tq_ifeq (tgt := 194) dLw_isTree_165 (by decide) (fun c2 => ?_) (fun c2 => ?_)
      · have hw := hw.1 c2
        refine tq_inc (k := (1 : Int32)) (ls' := [none, none, some (vR x2), some (vR x3), some (vR x4), some (vR x5), some (vR x6), some (vI x7), some (vI (x8 + (1 : Int32))), none, some (vI x10), none, some (vI x12)]) dLw_isTree_194 rfl tni_1 (Nat.le_of_ble_eq_true rfl) rfl ?_
        refine tq_goto (tgt := 51) dLw_isTree_197 (by decide) ?_
        refine tpR.fo (ls' := [none, none, some (vR x2), some (vR x3), some (vR x4), some (vR x5), some (vR x6), some (vI x7), some (vI (x8 + (1 : Int32))), none, none, none, none]) ?_ (And.intro rfl (And.intro rfl (And.intro rfl (And.intro rfl (And.intro rfl (And.intro rfl (And.intro rfl trivial)))))))
        exact k51 _ _ _ _ _ _ _ _ hw
      · have hw := hw.2 c2
        refine tq_aload dLw_isTree_168 rfl ?_
        refine tq_iload dLw_isTree_170 rfl ?_
        obtain ⟨a3, e4, f5, hw⟩ := hw
        obtain ⟨f6, hw⟩ := hw
        refine te_iald dLw_isTree_172 e4 (Or.inl f5) f6 ?_
        refine tq_aload dLw_isTree_173 rfl ?_
        refine tq_iload dLw_isTree_175 rfl ?_
        obtain ⟨a7, e8, f9, hw⟩ := hw
        obtain ⟨f10, hw⟩ := hw
        refine te_iald dLw_isTree_177 e8 (Or.inl f9) f10 ?_
        refine tq_icmpne (tgt := 185) dLw_isTree_178 (by decide) (fun c11 => ?_) (fun c11 => ?_)
        · have hw := hw.1 c11
          refine tq_iconst (v := (0 : Int32)) dLw_isTree_185 tni_0 ?_
          refine tq_istore (ls' := [none, none, some (vR x2), some (vR x3), some (vR x4), some (vR x5), some (vR x6), some (vI (0 : Int32)), some (vI x8), none, some (vI x10), none, some (vI x12)]) dLw_isTree_186 (Nat.le_of_ble_eq_true rfl) rfl ?_
          refine tq_inc (k := (1 : Int32)) (ls' := [none, none, some (vR x2), some (vR x3), some (vR x4), some (vR x5), some (vR x6), some (vI (0 : Int32)), some (vI x8), none, some (vI x10), none, some (vI (x12 + (1 : Int32)))]) dLw_isTree_188 rfl tni_1 (Nat.le_of_ble_eq_true rfl) rfl ?_
          refine tq_goto (tgt := 156) dLw_isTree_191 (by decide) ?_
          refine tpR.fo (ls' := [none, none, some (vR x2), some (vR x3), some (vR x4), some (vR x5), some (vR x6), some (vI (0 : Int32)), some (vI x8), none, some (vI x10), none, some (vI (x12 + (1 : Int32)))]) ?_ (And.intro rfl (And.intro rfl (And.intro rfl (And.intro rfl (And.intro rfl (And.intro rfl (And.intro rfl (And.intro rfl (And.intro rfl trivial)))))))))
          exact ih _ _ _ _ _ _ _ _ _ _ hw
        · have hw := hw.2 c11
          refine tq_iconst (v := (1 : Int32)) dLw_isTree_181 tni_1 ?_
          refine tq_goto (tgt := 186) dLw_isTree_182 (by decide) ?_
          refine tq_istore (ls' := [none, none, some (vR x2), some (vR x3), some (vR x4), some (vR x5), some (vR x6), some (vI (1 : Int32)), some (vI x8), none, some (vI x10), none, some (vI x12)]) dLw_isTree_186 (Nat.le_of_ble_eq_true rfl) rfl ?_
          refine tq_inc (k := (1 : Int32)) (ls' := [none, none, some (vR x2), some (vR x3), some (vR x4), some (vR x5), some (vR x6), some (vI (1 : Int32)), some (vI x8), none, some (vI x10), none, some (vI (x12 + (1 : Int32)))]) dLw_isTree_188 rfl tni_1 (Nat.le_of_ble_eq_true rfl) rfl ?_
          refine tq_goto (tgt := 156) dLw_isTree_191 (by decide) ?_
          refine tpR.fo (ls' := [none, none, some (vR x2), some (vR x3), some (vR x4), some (vR x5), some (vR x6), some (vI (1 : Int32)), some (vI x8), none, some (vI x10), none, some (vI (x12 + (1 : Int32)))]) ?_ (And.intro rfl (And.intro rfl (And.intro rfl (And.intro rfl (And.intro rfl (And.intro rfl (And.intro rfl (And.intro rfl (And.intro rfl trivial)))))))))
          exact ih _ _ _ _ _ _ _ _ _ _ hw
theorem s_Lw_isTree_109 {h0 : tpH} {av : List tpV} {R : Int32 → tpH → Prop} {X : String → tpH → Prop} {K51 : (Option Nat) → (Option Nat) → (Option Nat) → (Option Nat) → (Option Nat) → Int32 → Int32 → tpH → Prop} (k51 : ∀ (x2 : Option Nat) (x3 : Option Nat) (x4 : Option Nat) (x5 : Option Nat) (x6 : Option Nat) (x7 : Int32) (x8 : Int32) (h : tpH), K51 x2 x3 x4 x5 x6 x7 x8 h → tpR Lw_isTree 9 h0 av (tpOi R X) 51 [none, none, some (vR x2), some (vR x3), some (vR x4), some (vR x5), some (vR x6), some (vI x7), some (vI x8), none, none, none, none] [] h) : ∀ (x2 : Option Nat) (x3 : Option Nat) (x4 : Option Nat) (x5 : Option Nat) (x6 : Option Nat) (x8 : Int32) (x9 : Int32) (t0 : Int32) (h : tpH), w_Lw_isTree_109 R X K51 x2 x3 x4 x5 x6 x8 x9 t0 h → tpR Lw_isTree 9 h0 av (tpOi R X) 109 [none, none, some (vR x2), some (vR x3), some (vR x4), some (vR x5), some (vR x6), none, some (vI x8), some (vI x9), none, none, none] [vI t0] h := by
  intro x2 x3 x4 x5 x6 x8 x9 t0 h hw
  unfold w_Lw_isTree_109 at hw
  refine tq_istore (ls' := [none, none, some (vR x2), some (vR x3), some (vR x4), some (vR x5), some (vR x6), some (vI t0), some (vI x8), some (vI x9), none, none, none]) dLw_isTree_109 (Nat.le_of_ble_eq_true rfl) rfl ?_
  refine tq_aload_n dLw_isTree_111 rfl rfl ?_
  refine tq_aload_n dLw_isTree_112 rfl rfl ?_
  refine tq_iload dLw_isTree_113 rfl ?_
  refine tq_aload dLw_isTree_115 rfl ?_
  refine tq_callS ms_Lw_children (dc := 1) (as := [vR x2, vR x3, vI x9, vR x4]) (rest := []) kLw_36 (Nat.le_of_ble_eq_true rfl) (Nat.le_of_ble_eq_true rfl) rfl rfl (Nat.le_of_ble_eq_true rfl) dLw_isTree_117 (s_Lw_children hw) (fun _ _ hx => False.elim hx) (tk_i fun v2 h1 hw => ?_)
  refine tq_istore (ls' := [none, none, some (vR x2), some (vR x3), some (vR x4), some (vR x5), some (vR x6), some (vI t0), some (vI x8), some (vI x9), some (vI v2), none, none]) dLw_isTree_120 (Nat.le_of_ble_eq_true rfl) rfl ?_
  refine tq_aload dLw_isTree_122 rfl ?_
  refine tq_aload_n dLw_isTree_124 rfl rfl ?_
  refine tq_iload dLw_isTree_125 rfl ?_
  refine tq_aload dLw_isTree_127 rfl ?_
  refine tq_callS ms_Lw_children (dc := 1) (as := [vR x6, vR x3, vI x9, vR x5]) (rest := []) kLw_36 (Nat.le_of_ble_eq_true rfl) (Nat.le_of_ble_eq_true rfl) rfl rfl (Nat.le_of_ble_eq_true rfl) dLw_isTree_129 (s_Lw_children hw) (fun _ _ hx => False.elim hx) (tk_i fun v4 h3 hw => ?_)
  refine tq_istore (ls' := [none, none, some (vR x2), some (vR x3), some (vR x4), some (vR x5), some (vR x6), some (vI t0), some (vI x8), some (vI x9), some (vI v2), some (vI v4), none]) dLw_isTree_132 (Nat.le_of_ble_eq_true rfl) rfl ?_
  refine tq_iload dLw_isTree_134 rfl ?_
  refine tq_ifeq (tgt := 150) dLw_isTree_136 (by decide) (fun c5 => ?_) (fun c5 => ?_)
  · have hw := hw.1 c5
    refine tq_iconst (v := (0 : Int32)) dLw_isTree_150 tni_0 ?_
    refine tq_istore (ls' := [none, none, some (vR x2), some (vR x3), some (vR x4), some (vR x5), some (vR x6), some (vI (0 : Int32)), some (vI x8), some (vI x9), some (vI v2), some (vI v4), none]) dLw_isTree_151 (Nat.le_of_ble_eq_true rfl) rfl ?_
    refine tq_iconst (v := (0 : Int32)) dLw_isTree_153 tni_0 ?_
    refine tq_istore (ls' := [none, none, some (vR x2), some (vR x3), some (vR x4), some (vR x5), some (vR x6), some (vI (0 : Int32)), some (vI x8), some (vI x9), some (vI v2), some (vI v4), some (vI (0 : Int32))]) dLw_isTree_154 (Nat.le_of_ble_eq_true rfl) rfl ?_
    refine tpR.fo (ls' := [none, none, some (vR x2), some (vR x3), some (vR x4), some (vR x5), some (vR x6), some (vI (0 : Int32)), some (vI x8), none, some (vI v2), none, some (vI (0 : Int32))]) ?_ (And.intro rfl (And.intro rfl (And.intro rfl (And.intro rfl (And.intro rfl (And.intro rfl (And.intro rfl (And.intro rfl (And.intro rfl trivial)))))))))
    obtain ⟨n, hw⟩ := hw
    exact s_Lw_isTree_156 k51 n _ _ _ _ _ _ _ _ _ _ hw
  · have hw := hw.2 c5
    refine tq_iload dLw_isTree_139 rfl ?_
    refine tq_iload dLw_isTree_141 rfl ?_
    refine tq_icmpne (tgt := 150) dLw_isTree_143 (by decide) (fun c6 => ?_) (fun c6 => ?_)
    · have hw := hw.1 c6
      refine tq_iconst (v := (0 : Int32)) dLw_isTree_150 tni_0 ?_
      refine tq_istore (ls' := [none, none, some (vR x2), some (vR x3), some (vR x4), some (vR x5), some (vR x6), some (vI (0 : Int32)), some (vI x8), some (vI x9), some (vI v2), some (vI v4), none]) dLw_isTree_151 (Nat.le_of_ble_eq_true rfl) rfl ?_
      refine tq_iconst (v := (0 : Int32)) dLw_isTree_153 tni_0 ?_
      refine tq_istore (ls' := [none, none, some (vR x2), some (vR x3), some (vR x4), some (vR x5), some (vR x6), some (vI (0 : Int32)), some (vI x8), some (vI x9), some (vI v2), some (vI v4), some (vI (0 : Int32))]) dLw_isTree_154 (Nat.le_of_ble_eq_true rfl) rfl ?_
      refine tpR.fo (ls' := [none, none, some (vR x2), some (vR x3), some (vR x4), some (vR x5), some (vR x6), some (vI (0 : Int32)), some (vI x8), none, some (vI v2), none, some (vI (0 : Int32))]) ?_ (And.intro rfl (And.intro rfl (And.intro rfl (And.intro rfl (And.intro rfl (And.intro rfl (And.intro rfl (And.intro rfl (And.intro rfl trivial)))))))))
      obtain ⟨n, hw⟩ := hw
      exact s_Lw_isTree_156 k51 n _ _ _ _ _ _ _ _ _ _ hw
    · have hw := hw.2 c6
      refine tq_iconst (v := (1 : Int32)) dLw_isTree_146 tni_1 ?_
      refine tq_goto (tgt := 151) dLw_isTree_147 (by decide) ?_
      refine tq_istore (ls' := [none, none, some (vR x2), some (vR x3), some (vR x4), some (vR x5), some (vR x6), some (vI (1 : Int32)), some (vI x8), some (vI x9), some (vI v2), some (vI v4), none]) dLw_isTree_151 (Nat.le_of_ble_eq_true rfl) rfl ?_
      refine tq_iconst (v := (0 : Int32)) dLw_isTree_153 tni_0 ?_
      refine tq_istore (ls' := [none, none, some (vR x2), some (vR x3), some (vR x4), some (vR x5), some (vR x6), some (vI (1 : Int32)), some (vI x8), some (vI x9), some (vI v2), some (vI v4), some (vI (0 : Int32))]) dLw_isTree_154 (Nat.le_of_ble_eq_true rfl) rfl ?_
      refine tpR.fo (ls' := [none, none, some (vR x2), some (vR x3), some (vR x4), some (vR x5), some (vR x6), some (vI (1 : Int32)), some (vI x8), none, some (vI v2), none, some (vI (0 : Int32))]) ?_ (And.intro rfl (And.intro rfl (And.intro rfl (And.intro rfl (And.intro rfl (And.intro rfl (And.intro rfl (And.intro rfl (And.intro rfl trivial)))))))))
      obtain ⟨n, hw⟩ := hw
      exact s_Lw_isTree_156 k51 n _ _ _ _ _ _ _ _ _ _ hw
theorem s_Lw_isTree_203 {h0 : tpH} {av : List tpV} {R : Int32 → tpH → Prop} {X : String → tpH → Prop} : ∀ (n : Nat) (x2 : Option Nat) (x6 : Option Nat) (x7 : Int32) (x8 : Int32) (h : tpH), w_Lw_isTree_203 R X n x2 x6 x7 x8 h → tpR Lw_isTree 9 h0 av (tpOi R X) 203 [none, none, some (vR x2), none, none, none, some (vR x6), some (vI x7), some (vI x8), none, none, none, none] [] h := by
  intro n
  induction n with
  | zero => intro x2 x6 x7 x8 h hw; exact False.elim hw
  | succ n ih =>
    intro x2 x6 x7 x8 h hw
    change b_Lw_isTree_203 R X (w_Lw_isTree_203 R X n) x2 x6 x7 x8 h at hw
    unfold b_Lw_isTree_203 at hw
    refine tq_iload dLw_isTree_203 rfl ?_
    refine tq_aload_n dLw_isTree_205 rfl rfl ?_
    refine tq_iconst (v := (0 : Int32)) dLw_isTree_206 tni_0 ?_
    obtain ⟨a1, e2, f3, hw⟩ := hw
    obtain ⟨f4, hw⟩ := hw
    refine te_iald dLw_isTree_207 e2 (Or.inl f3) f4 ?_
    refine tq_icmpge (tgt := 246) dLw_isTree_208 (by decide) (fun c5 => ?_) (fun c5 => ?_)
    · have hw := hw.1 c5
      refine tq_iload dLw_isTree_246 rfl ?_
      obtain ⟨f6, hw⟩ := hw
      exact tq_iret rfl (tpB_n f6) dLw_isTree_248 hw
    · have hw := hw.2 c5
      refine tq_iload dLw_isTree_211 rfl ?_
      refine tq_ifeq (tgt := 246) dLw_isTree_213 (by decide) (fun c7 => ?_) (fun c7 => ?_)
      · have hw := hw.1 c7
        refine tq_iload dLw_isTree_246 rfl ?_
        obtain ⟨f8, hw⟩ := hw
        exact tq_iret rfl (tpB_n f8) dLw_isTree_248 hw
      · have hw := hw.2 c7
        refine tq_aload dLw_isTree_216 rfl ?_
        refine tq_aload dLw_isTree_218 rfl ?_
        refine tq_iload dLw_isTree_220 rfl ?_
        refine tq_callS ms_Lw_parent (dc := 0) (as := [vR x6, vI x8]) (rest := [vR x6]) kLw_16 (Nat.le_of_ble_eq_true rfl) (Nat.le_of_ble_eq_true rfl) rfl rfl (Nat.le_of_ble_eq_true rfl) dLw_isTree_222 (s_Lw_parent hw) (fun _ _ hx => False.elim hx) (tk_i fun v10 h9 hw => ?_)
        refine tq_callS ms_Lw_place (dc := 1) (as := [vR x6, vI v10]) (rest := []) kLw_13 (Nat.le_of_ble_eq_true rfl) (Nat.le_of_ble_eq_true rfl) rfl rfl (Nat.le_of_ble_eq_true rfl) dLw_isTree_225 (s_Lw_place hw) (fun _ _ hx => False.elim hx) (tk_i fun v12 h11 hw => ?_)
        refine tq_iload dLw_isTree_228 rfl ?_
        refine tq_icmpge (tgt := 237) dLw_isTree_230 (by decide) (fun c13 => ?_) (fun c13 => ?_)
        · have hw := hw.1 c13
          refine tq_iconst (v := (0 : Int32)) dLw_isTree_237 tni_0 ?_
          refine tq_istore (ls' := [none, none, some (vR x2), none, none, none, some (vR x6), some (vI (0 : Int32)), some (vI x8), none, none, none, none]) dLw_isTree_238 (Nat.le_of_ble_eq_true rfl) rfl ?_
          refine tq_inc (k := (1 : Int32)) (ls' := [none, none, some (vR x2), none, none, none, some (vR x6), some (vI (0 : Int32)), some (vI (x8 + (1 : Int32))), none, none, none, none]) dLw_isTree_240 rfl tni_1 (Nat.le_of_ble_eq_true rfl) rfl ?_
          refine tq_goto (tgt := 203) dLw_isTree_243 (by decide) ?_
          refine tpR.fo (ls' := [none, none, some (vR x2), none, none, none, some (vR x6), some (vI (0 : Int32)), some (vI (x8 + (1 : Int32))), none, none, none, none]) ?_ (And.intro rfl (And.intro rfl (And.intro rfl (And.intro rfl trivial))))
          exact ih _ _ _ _ _ hw
        · have hw := hw.2 c13
          refine tq_iconst (v := (1 : Int32)) dLw_isTree_233 tni_1 ?_
          refine tq_goto (tgt := 238) dLw_isTree_234 (by decide) ?_
          refine tq_istore (ls' := [none, none, some (vR x2), none, none, none, some (vR x6), some (vI (1 : Int32)), some (vI x8), none, none, none, none]) dLw_isTree_238 (Nat.le_of_ble_eq_true rfl) rfl ?_
          refine tq_inc (k := (1 : Int32)) (ls' := [none, none, some (vR x2), none, none, none, some (vR x6), some (vI (1 : Int32)), some (vI (x8 + (1 : Int32))), none, none, none, none]) dLw_isTree_240 rfl tni_1 (Nat.le_of_ble_eq_true rfl) rfl ?_
          refine tq_goto (tgt := 203) dLw_isTree_243 (by decide) ?_
          refine tpR.fo (ls' := [none, none, some (vR x2), none, none, none, some (vR x6), some (vI (1 : Int32)), some (vI (x8 + (1 : Int32))), none, none, none, none]) ?_ (And.intro rfl (And.intro rfl (And.intro rfl (And.intro rfl trivial))))
          exact ih _ _ _ _ _ hw
theorem s_Lw_isTree_51 {h0 : tpH} {av : List tpV} {R : Int32 → tpH → Prop} {X : String → tpH → Prop} : ∀ (n : Nat) (x2 : Option Nat) (x3 : Option Nat) (x4 : Option Nat) (x5 : Option Nat) (x6 : Option Nat) (x7 : Int32) (x8 : Int32) (h : tpH), w_Lw_isTree_51 R X n x2 x3 x4 x5 x6 x7 x8 h → tpR Lw_isTree 9 h0 av (tpOi R X) 51 [none, none, some (vR x2), some (vR x3), some (vR x4), some (vR x5), some (vR x6), some (vI x7), some (vI x8), none, none, none, none] [] h := by
  intro n
  induction n with
  | zero => intro x2 x3 x4 x5 x6 x7 x8 h hw; exact False.elim hw
  | succ n ih =>
    intro x2 x3 x4 x5 x6 x7 x8 h hw
    change b_Lw_isTree_51 R X (w_Lw_isTree_51 R X n) x2 x3 x4 x5 x6 x7 x8 h at hw
    unfold b_Lw_isTree_51 at hw
    refine tq_iload dLw_isTree_51 rfl ?_
    refine tq_aload_n dLw_isTree_53 rfl rfl ?_
    refine tq_iconst (v := (0 : Int32)) dLw_isTree_54 tni_0 ?_
    obtain ⟨a1, e2, f3, hw⟩ := hw
    obtain ⟨f4, hw⟩ := hw
    refine te_iald dLw_isTree_55 e2 (Or.inl f3) f4 ?_
    refine tq_icmpge (tgt := 200) dLw_isTree_56 (by decide) (fun c5 => ?_) (fun c5 => ?_)
    · have hw := hw.1 c5
      refine tq_iconst (v := (1 : Int32)) dLw_isTree_200 tni_1 ?_
      refine tq_istore (ls' := [none, none, some (vR x2), some (vR x3), some (vR x4), some (vR x5), some (vR x6), some (vI x7), some (vI (1 : Int32)), none, none, none, none]) dLw_isTree_201 (Nat.le_of_ble_eq_true rfl) rfl ?_
      refine tpR.fo (ls' := [none, none, some (vR x2), none, none, none, some (vR x6), some (vI x7), some (vI (1 : Int32)), none, none, none, none]) ?_ (And.intro rfl (And.intro rfl (And.intro rfl (And.intro rfl trivial))))
      obtain ⟨n, hw⟩ := hw
      exact s_Lw_isTree_203 n _ _ _ _ _ hw
    · have hw := hw.2 c5
      refine tq_iload dLw_isTree_59 rfl ?_
      refine tq_ifeq (tgt := 200) dLw_isTree_61 (by decide) (fun c6 => ?_) (fun c6 => ?_)
      · have hw := hw.1 c6
        refine tq_iconst (v := (1 : Int32)) dLw_isTree_200 tni_1 ?_
        refine tq_istore (ls' := [none, none, some (vR x2), some (vR x3), some (vR x4), some (vR x5), some (vR x6), some (vI x7), some (vI (1 : Int32)), none, none, none, none]) dLw_isTree_201 (Nat.le_of_ble_eq_true rfl) rfl ?_
        refine tpR.fo (ls' := [none, none, some (vR x2), none, none, none, some (vR x6), some (vI x7), some (vI (1 : Int32)), none, none, none, none]) ?_ (And.intro rfl (And.intro rfl (And.intro rfl (And.intro rfl trivial))))
        obtain ⟨n, hw⟩ := hw
        exact s_Lw_isTree_203 n _ _ _ _ _ hw
      · have hw := hw.2 c6
        refine tq_aload_n dLw_isTree_64 rfl rfl ?_
        refine tq_iload dLw_isTree_65 rfl ?_
        refine tq_callS ms_Lw_mark (dc := 0) (as := [vR x2, vI x8]) (rest := []) kLw_7 (Nat.le_of_ble_eq_true rfl) (Nat.le_of_ble_eq_true rfl) rfl rfl (Nat.le_of_ble_eq_true rfl) dLw_isTree_67 (s_Lw_mark hw) (fun _ _ hx => False.elim hx) (tk_i fun v8 h7 hw => ?_)
        refine tq_istore (ls' := [none, none, some (vR x2), some (vR x3), some (vR x4), some (vR x5), some (vR x6), some (vI x7), some (vI x8), some (vI v8), none, none, none]) dLw_isTree_70 (Nat.le_of_ble_eq_true rfl) rfl ?_
        refine tq_aload dLw_isTree_72 rfl ?_
        refine tq_iload dLw_isTree_74 rfl ?_
        refine tq_callS ms_Lw_parentOf (dc := 2) (as := [vR x6, vI v8]) (rest := []) kLw_40 (Nat.le_of_ble_eq_true rfl) (Nat.le_of_ble_eq_true rfl) rfl rfl (Nat.le_of_ble_eq_true rfl) dLw_isTree_76 (s_Lw_parentOf hw) (fun _ _ hx => False.elim hx) (tk_i fun v10 h9 hw => ?_)
        refine tq_aload_n dLw_isTree_79 rfl rfl ?_
        refine tq_iload dLw_isTree_80 rfl ?_
        refine tq_callS ms_Lw_parent (dc := 0) (as := [vR x2, vI x8]) (rest := [vI v10]) kLw_16 (Nat.le_of_ble_eq_true rfl) (Nat.le_of_ble_eq_true rfl) rfl rfl (Nat.le_of_ble_eq_true rfl) dLw_isTree_82 (s_Lw_parent hw) (fun _ _ hx => False.elim hx) (tk_i fun v12 h11 hw => ?_)
        refine tq_icmpne (tgt := 108) dLw_isTree_85 (by decide) (fun c13 => ?_) (fun c13 => ?_)
        · have hw := hw.1 c13
          refine tq_iconst (v := (0 : Int32)) dLw_isTree_108 tni_0 ?_
          refine tpR.fo (ls' := [none, none, some (vR x2), some (vR x3), some (vR x4), some (vR x5), some (vR x6), none, some (vI x8), some (vI v8), none, none, none]) ?_ (And.intro rfl (And.intro rfl (And.intro rfl (And.intro rfl (And.intro rfl (And.intro rfl (And.intro rfl trivial)))))))
          exact s_Lw_isTree_109 ih _ _ _ _ _ _ _ _ _ hw
        · have hw := hw.2 c13
          refine tq_aload dLw_isTree_88 rfl ?_
          refine tq_iload dLw_isTree_90 rfl ?_
          refine tq_callS ms_Lw_valueOf (dc := 2) (as := [vR x6, vI v8]) (rest := []) kLw_86 (Nat.le_of_ble_eq_true rfl) (Nat.le_of_ble_eq_true rfl) rfl rfl (Nat.le_of_ble_eq_true rfl) dLw_isTree_92 (s_Lw_valueOf hw) (fun _ _ hx => False.elim hx) (tk_i fun v15 h14 hw => ?_)
          refine tq_aload_n dLw_isTree_95 rfl rfl ?_
          refine tq_iload dLw_isTree_96 rfl ?_
          refine tq_callS ms_Lw_value (dc := 0) (as := [vR x2, vI x8]) (rest := [vI v15]) kLw_19 (Nat.le_of_ble_eq_true rfl) (Nat.le_of_ble_eq_true rfl) rfl rfl (Nat.le_of_ble_eq_true rfl) dLw_isTree_98 (s_Lw_value hw) (fun _ _ hx => False.elim hx) (tk_i fun v17 h16 hw => ?_)
          refine tq_icmpne (tgt := 108) dLw_isTree_101 (by decide) (fun c18 => ?_) (fun c18 => ?_)
          · have hw := hw.1 c18
            refine tq_iconst (v := (0 : Int32)) dLw_isTree_108 tni_0 ?_
            refine tpR.fo (ls' := [none, none, some (vR x2), some (vR x3), some (vR x4), some (vR x5), some (vR x6), none, some (vI x8), some (vI v8), none, none, none]) ?_ (And.intro rfl (And.intro rfl (And.intro rfl (And.intro rfl (And.intro rfl (And.intro rfl (And.intro rfl trivial)))))))
            exact s_Lw_isTree_109 ih _ _ _ _ _ _ _ _ _ hw
          · have hw := hw.2 c18
            refine tq_iconst (v := (1 : Int32)) dLw_isTree_104 tni_1 ?_
            refine tq_goto (tgt := 109) dLw_isTree_105 (by decide) ?_
            refine tpR.fo (ls' := [none, none, some (vR x2), some (vR x3), some (vR x4), some (vR x5), some (vR x6), none, some (vI x8), some (vI v8), none, none, none]) ?_ (And.intro rfl (And.intro rfl (And.intro rfl (And.intro rfl (And.intro rfl (And.intro rfl (And.intro rfl trivial)))))))
            exact s_Lw_isTree_109 ih _ _ _ _ _ _ _ _ _ hw
theorem s_Lw_isTree_34 {h0 : tpH} {av : List tpV} {R : Int32 → tpH → Prop} {X : String → tpH → Prop} : ∀ (x0 : Option Nat) (x1 : Int32) (x2 : Option Nat) (x3 : Option Nat) (x4 : Option Nat) (x5 : Option Nat) (x6 : Option Nat) (t0 : Int32) (h : tpH), w_Lw_isTree_34 R X x0 x1 x2 x3 x4 x5 x6 t0 h → tpR Lw_isTree 9 h0 av (tpOi R X) 34 [some (vR x0), some (vI x1), some (vR x2), some (vR x3), some (vR x4), some (vR x5), some (vR x6), none, none, none, none, none, none] [vI t0] h := by
  intro x0 x1 x2 x3 x4 x5 x6 t0 h hw
  unfold w_Lw_isTree_34 at hw
  refine tq_istore (ls' := [some (vR x0), some (vI x1), some (vR x2), some (vR x3), some (vR x4), some (vR x5), some (vR x6), some (vI t0), none, none, none, none, none]) dLw_isTree_34 (Nat.le_of_ble_eq_true rfl) rfl ?_
  refine tq_iload dLw_isTree_36 rfl ?_
  refine tq_ifeq (tgt := 48) dLw_isTree_38 (by decide) (fun c1 => ?_) (fun c1 => ?_)
  · have hw := hw.1 c1
    refine tq_iconst (v := (0 : Int32)) dLw_isTree_48 tni_0 ?_
    refine tq_istore (ls' := [some (vR x0), some (vI x1), some (vR x2), some (vR x3), some (vR x4), some (vR x5), some (vR x6), some (vI t0), some (vI (0 : Int32)), none, none, none, none]) dLw_isTree_49 (Nat.le_of_ble_eq_true rfl) rfl ?_
    refine tpR.fo (ls' := [none, none, some (vR x2), some (vR x3), some (vR x4), some (vR x5), some (vR x6), some (vI t0), some (vI (0 : Int32)), none, none, none, none]) ?_ (And.intro rfl (And.intro rfl (And.intro rfl (And.intro rfl (And.intro rfl (And.intro rfl (And.intro rfl trivial)))))))
    obtain ⟨n, hw⟩ := hw
    exact s_Lw_isTree_51 n _ _ _ _ _ _ _ _ hw
  · have hw := hw.2 c1
    refine tq_aload_n dLw_isTree_41 rfl rfl ?_
    refine tq_iload_n dLw_isTree_42 rfl rfl ?_
    refine tq_aload dLw_isTree_43 rfl ?_
    refine tq_callS ms_Lw_reads (dc := 8) (as := [vR x0, vI x1, vR x6]) (rest := []) kLw_82 (Nat.le_of_ble_eq_true rfl) (Nat.le_of_ble_eq_true rfl) rfl rfl (Nat.le_of_ble_eq_true rfl) dLw_isTree_45 (s_Lw_reads hw) (fun _ _ hx => tpXx.out rfl hx) (tk_v fun h2 hw => ?_)
    refine tq_iconst (v := (0 : Int32)) dLw_isTree_48 tni_0 ?_
    refine tq_istore (ls' := [some (vR x0), some (vI x1), some (vR x2), some (vR x3), some (vR x4), some (vR x5), some (vR x6), some (vI t0), some (vI (0 : Int32)), none, none, none, none]) dLw_isTree_49 (Nat.le_of_ble_eq_true rfl) rfl ?_
    refine tpR.fo (ls' := [none, none, some (vR x2), some (vR x3), some (vR x4), some (vR x5), some (vR x6), some (vI t0), some (vI (0 : Int32)), none, none, none, none]) ?_ (And.intro rfl (And.intro rfl (And.intro rfl (And.intro rfl (And.intro rfl (And.intro rfl (And.intro rfl trivial)))))))
    obtain ⟨n, hw⟩ := hw
    exact s_Lw_isTree_51 n _ _ _ _ _ _ _ _ hw
theorem s_Lw_isTree {x0 : Option Nat} {x1 : Int32} {x2 : Option Nat} {x3 : Option Nat} {h : tpH} {R : Int32 → tpH → Prop} {X : String → tpH → Prop} (hw : w_Lw_isTree x0 x1 x2 x3 h X R) : tpC Lw_isTree 9 [vR x0, vI x1, vR x2, vR x3] h (tpOi R X) := by
  refine tpC_of ms_Lw_isTree.2.2.2.1 rfl rfl (Nat.le_of_ble_eq_true rfl) ?_
  show tpR Lw_isTree 9 h _ _ 0 [some (vR x0), some (vI x1), some (vR x2), some (vR x3), none, none, none, none, none, none, none, none, none] [] h
  unfold w_Lw_isTree at hw
  refine tq_bipush (v := (40 : Int32)) dLw_isTree_0 tnb_40 ?_
  refine tq_newa tpN_int (N := 40) dLw_isTree_2 (by decide) (by decide) (Nat.le_of_ble_eq_true rfl) (fun a1 h2 e3 e4 => ?_)
  have hw := hw a1 h2 e3 e4
  refine tq_astore (ls' := [some (vR x0), some (vI x1), some (vR x2), some (vR x3), some (vR (some a1)), none, none, none, none, none, none, none, none]) dLw_isTree_4 (Nat.le_of_ble_eq_true rfl) rfl ?_
  refine tq_bipush (v := (40 : Int32)) dLw_isTree_6 tnb_40 ?_
  refine tq_newa tpN_int (N := 40) dLw_isTree_8 (by decide) (by decide) (Nat.le_of_ble_eq_true rfl) (fun a5 h6 e7 e8 => ?_)
  have hw := hw a5 h6 e7 e8
  refine tq_astore (ls' := [some (vR x0), some (vI x1), some (vR x2), some (vR x3), some (vR (some a1)), some (vR (some a5)), none, none, none, none, none, none, none]) dLw_isTree_10 (Nat.le_of_ble_eq_true rfl) rfl ?_
  refine tq_bipush (v := (41 : Int32)) dLw_isTree_12 tnb_41 ?_
  refine tq_newa tpN_int (N := 41) dLw_isTree_14 (by decide) (by decide) (Nat.le_of_ble_eq_true rfl) (fun a9 h10 e11 e12 => ?_)
  have hw := hw a9 h10 e11 e12
  refine tq_astore (ls' := [some (vR x0), some (vI x1), some (vR x2), some (vR x3), some (vR (some a1)), some (vR (some a5)), some (vR (some a9)), none, none, none, none, none, none]) dLw_isTree_16 (Nat.le_of_ble_eq_true rfl) rfl ?_
  refine tq_aload_n dLw_isTree_18 rfl rfl ?_
  refine tq_iload_n dLw_isTree_19 rfl rfl ?_
  obtain ⟨a13, e14, f15, hw⟩ := hw
  refine te_callV mv_TP_size (ci := 12) (dc := 7) (as := [vI x1]) (rest := []) kLw_22 rfl (Nat.le_of_ble_eq_true rfl) (Nat.le_of_ble_eq_true rfl) rfl rfl e14 f15 (Nat.le_of_ble_eq_true rfl) dLw_isTree_20 (s_TP_size hw) (fun _ _ hx => tpXx.out rfl hx) (tk_i fun v17 h16 hw => ?_)
  refine tq_aload_n dLw_isTree_23 rfl rfl ?_
  refine tq_iconst (v := (0 : Int32)) dLw_isTree_24 tni_0 ?_
  obtain ⟨a18, e19, f20, hw⟩ := hw
  obtain ⟨f21, hw⟩ := hw
  refine te_iald dLw_isTree_25 e19 (Or.inl f20) f21 ?_
  refine tq_icmpne (tgt := 33) dLw_isTree_26 (by decide) (fun c22 => ?_) (fun c22 => ?_)
  · have hw := hw.1 c22
    refine tq_iconst (v := (0 : Int32)) dLw_isTree_33 tni_0 ?_
    refine tpR.fo (ls' := [some (vR x0), some (vI x1), some (vR x2), some (vR x3), some (vR (some a1)), some (vR (some a5)), some (vR (some a9)), none, none, none, none, none, none]) ?_ (And.intro rfl (And.intro rfl (And.intro rfl (And.intro rfl (And.intro rfl (And.intro rfl (And.intro rfl trivial)))))))
    exact s_Lw_isTree_34 _ _ _ _ _ _ _ _ _ hw
  · have hw := hw.2 c22
    refine tq_iconst (v := (1 : Int32)) dLw_isTree_29 tni_1 ?_
    refine tq_goto (tgt := 34) dLw_isTree_30 (by decide) ?_
    refine tpR.fo (ls' := [some (vR x0), some (vI x1), some (vR x2), some (vR x3), some (vR (some a1)), some (vR (some a5)), some (vR (some a9)), none, none, none, none, none, none]) ?_ (And.intro rfl (And.intro rfl (And.intro rfl (And.intro rfl (And.intro rfl (And.intro rfl (And.intro rfl trivial)))))))
    exact s_Lw_isTree_34 _ _ _ _ _ _ _ _ _ hw
/-! TLaw.adds -/
theorem dLw_adds_0 : decode (mB Lw_adds) 0 = .ok (.aload_n 0, 1) := by decide +kernel
theorem dLw_adds_1 : decode (mB Lw_adds) 1 = .ok (.iconst 0, 1) := by decide +kernel
theorem dLw_adds_2 : decode (mB Lw_adds) 2 = .ok (.dup2, 1) := by decide +kernel
theorem dLw_adds_3 : decode (mB Lw_adds) 3 = .ok (.iaload, 1) := by decide +kernel
theorem dLw_adds_4 : decode (mB Lw_adds) 4 = .ok (.iconst 1, 1) := by decide +kernel
theorem dLw_adds_5 : decode (mB Lw_adds) 5 = .ok (.iadd, 1) := by decide +kernel
theorem dLw_adds_6 : decode (mB Lw_adds) 6 = .ok (.iastore, 1) := by decide +kernel
theorem dLw_adds_7 : decode (mB Lw_adds) 7 = .ok (.aload_n 0, 1) := by decide +kernel
theorem dLw_adds_8 : decode (mB Lw_adds) 8 = .ok (.iconst 0, 1) := by decide +kernel
theorem dLw_adds_9 : decode (mB Lw_adds) 9 = .ok (.iaload, 1) := by decide +kernel
theorem dLw_adds_10 : decode (mB Lw_adds) 10 = .ok (.bipush 64, 2) := by decide +kernel
theorem dLw_adds_12 : decode (mB Lw_adds) 12 = .ok (.if_icmp .ge 9, 3) := by decide +kernel
theorem dLw_adds_15 : decode (mB Lw_adds) 15 = .ok (.aload_n 0, 1) := by decide +kernel
theorem dLw_adds_16 : decode (mB Lw_adds) 16 = .ok (.aload_n 0, 1) := by decide +kernel
theorem dLw_adds_17 : decode (mB Lw_adds) 17 = .ok (.iconst 0, 1) := by decide +kernel
theorem dLw_adds_18 : decode (mB Lw_adds) 18 = .ok (.iaload, 1) := by decide +kernel
theorem dLw_adds_19 : decode (mB Lw_adds) 19 = .ok (.iload_n 1, 1) := by decide +kernel
theorem dLw_adds_20 : decode (mB Lw_adds) 20 = .ok (.iastore, 1) := by decide +kernel
theorem dLw_adds_21 : decode (mB Lw_adds) 21 = .ok (.return_, 1) := by decide +kernel
def w_Lw_adds (x0 : Option Nat) (x1 : Int32) (h : tpH) (R : tpH → Prop) : Prop :=
  ∃ a1, x0 = some a1 ∧ hT h a1 = 15 ∧ (vp_in (0 : Int32) (hL h a1) ∧ (vp_in (0 : Int32) (hL h a1) ∧ (∀ h6, h6 = sI h a1 (0 : Int32).toNatClampNeg ((hI h a1 (0 : Int32).toNatClampNeg) + (1 : Int32)) → (vp_in (0 : Int32) (hL h6 a1) ∧ (((64 : Int32) ≤ (hI h6 a1 (0 : Int32).toNatClampNeg) → (R h6)) ∧ (¬ (64 : Int32) ≤ (hI h6 a1 (0 : Int32).toNatClampNeg) → (vp_in (0 : Int32) (hL h6 a1) ∧ (vp_in (hI h6 a1 (0 : Int32).toNatClampNeg) (hL h6 a1) ∧ (∀ h12, h12 = sI h6 a1 (hI h6 a1 (0 : Int32).toNatClampNeg).toNatClampNeg x1 → (R h12))))))))))
theorem s_Lw_adds {x0 : Option Nat} {x1 : Int32} {h : tpH} {R : tpH → Prop} (hw : w_Lw_adds x0 x1 h R) : tpC Lw_adds 0 [vR x0, vI x1] h (tpOv R (fun _ _ => False)) := by
  refine tpC_of ms_Lw_adds.2.2.2.1 rfl rfl (Nat.le_of_ble_eq_true rfl) ?_
  show tpR Lw_adds 0 h _ _ 0 [some (vR x0), some (vI x1)] [] h
  unfold w_Lw_adds at hw
  refine tq_aload_n dLw_adds_0 rfl rfl ?_
  refine tq_iconst (v := (0 : Int32)) dLw_adds_1 tni_0 ?_
  refine tq_dup2 dLw_adds_2 rfl rfl ?_
  obtain ⟨a1, e2, f3, hw⟩ := hw
  obtain ⟨f4, hw⟩ := hw
  refine te_iald dLw_adds_3 e2 (Or.inl f3) f4 ?_
  refine tq_iconst (v := (1 : Int32)) dLw_adds_4 tni_1 ?_
  refine tq_iadd dLw_adds_5 ?_
  obtain ⟨f5, hw⟩ := hw
  refine te_iast dLw_adds_6 e2 f3 f5 (fun h6 e7 => ?_)
  have hw := hw h6 e7
  refine tq_aload_n dLw_adds_7 rfl rfl ?_
  refine tq_iconst (v := (0 : Int32)) dLw_adds_8 tni_0 ?_
  obtain ⟨f8, hw⟩ := hw
  refine te_iald dLw_adds_9 e2 (Or.inl (by rw [e7]; exact f3)) f8 ?_
  refine tq_bipush (v := (64 : Int32)) dLw_adds_10 tnb_64 ?_
  refine tq_icmpge (tgt := 21) dLw_adds_12 (by decide) (fun c9 => ?_) (fun c9 => ?_)
  · have hw := hw.1 c9
    exact tq_vret rfl dLw_adds_21 hw
  · have hw := hw.2 c9
    refine tq_aload_n dLw_adds_15 rfl rfl ?_
    refine tq_aload_n dLw_adds_16 rfl rfl ?_
    refine tq_iconst (v := (0 : Int32)) dLw_adds_17 tni_0 ?_
    obtain ⟨f10, hw⟩ := hw
    refine te_iald dLw_adds_18 e2 (Or.inl (by rw [e7]; exact f3)) f10 ?_
    refine tq_iload_n dLw_adds_19 rfl rfl ?_
    obtain ⟨f11, hw⟩ := hw
    refine te_iast dLw_adds_20 e2 (by rw [e7]; exact f3) f11 (fun h12 e13 => ?_)
    have hw := hw h12 e13
    exact tq_vret rfl dLw_adds_21 hw
/-! TLaw.decided -/
theorem dLw_decided_0 : decode (mB Lw_decided) 0 = .ok (.iload 5, 2) := by decide +kernel
theorem dLw_decided_2 : decode (mB Lw_decided) 2 = .ok (.iload 6, 2) := by decide +kernel
theorem dLw_decided_4 : decode (mB Lw_decided) 4 = .ok (.if_icmp .eq 17, 3) := by decide +kernel
theorem dLw_decided_7 : decode (mB Lw_decided) 7 = .ok (.iload 4, 2) := by decide +kernel
theorem dLw_decided_9 : decode (mB Lw_decided) 9 = .ok (.iload 7, 2) := by decide +kernel
theorem dLw_decided_11 : decode (mB Lw_decided) 11 = .ok (.if_icmp .eq 13, 3) := by decide +kernel
theorem dLw_decided_14 : decode (mB Lw_decided) 14 = .ok (.iload 6, 2) := by decide +kernel
theorem dLw_decided_16 : decode (mB Lw_decided) 16 = .ok (.iload 4, 2) := by decide +kernel
theorem dLw_decided_18 : decode (mB Lw_decided) 18 = .ok (.if_icmp .ne 6, 3) := by decide +kernel
theorem dLw_decided_21 : decode (mB Lw_decided) 21 = .ok (.iload 5, 2) := by decide +kernel
theorem dLw_decided_23 : decode (mB Lw_decided) 23 = .ok (.ireturn, 1) := by decide +kernel
theorem dLw_decided_24 : decode (mB Lw_decided) 24 = .ok (.iload 4, 2) := by decide +kernel
theorem dLw_decided_26 : decode (mB Lw_decided) 26 = .ok (.iload 7, 2) := by decide +kernel
theorem dLw_decided_28 : decode (mB Lw_decided) 28 = .ok (.if_icmp .eq 13, 3) := by decide +kernel
theorem dLw_decided_31 : decode (mB Lw_decided) 31 = .ok (.iload 5, 2) := by decide +kernel
theorem dLw_decided_33 : decode (mB Lw_decided) 33 = .ok (.iload 4, 2) := by decide +kernel
theorem dLw_decided_35 : decode (mB Lw_decided) 35 = .ok (.if_icmp .ne 6, 3) := by decide +kernel
theorem dLw_decided_38 : decode (mB Lw_decided) 38 = .ok (.iload 6, 2) := by decide +kernel
theorem dLw_decided_40 : decode (mB Lw_decided) 40 = .ok (.ireturn, 1) := by decide +kernel
theorem dLw_decided_41 : decode (mB Lw_decided) 41 = .ok (.aload_n 0, 1) := by decide +kernel
theorem dLw_decided_42 : decode (mB Lw_decided) 42 = .ok (.bipush 8, 2) := by decide +kernel
theorem dLw_decided_44 : decode (mB Lw_decided) 44 = .ok (.iload_n 3, 1) := by decide +kernel
theorem dLw_decided_45 : decode (mB Lw_decided) 45 = .ok (.imul, 1) := by decide +kernel
theorem dLw_decided_46 : decode (mB Lw_decided) 46 = .ok (.iload_n 2, 1) := by decide +kernel
theorem dLw_decided_47 : decode (mB Lw_decided) 47 = .ok (.iadd, 1) := by decide +kernel
theorem dLw_decided_48 : decode (mB Lw_decided) 48 = .ok (.invokestatic 89, 3) := by decide +kernel
theorem dLw_decided_51 : decode (mB Lw_decided) 51 = .ok (.aload_n 1, 1) := by decide +kernel
theorem dLw_decided_52 : decode (mB Lw_decided) 52 = .ok (.iload_n 2, 1) := by decide +kernel
theorem dLw_decided_53 : decode (mB Lw_decided) 53 = .ok (.iaload, 1) := by decide +kernel
theorem dLw_decided_54 : decode (mB Lw_decided) 54 = .ok (.iconst 2, 1) := by decide +kernel
theorem dLw_decided_55 : decode (mB Lw_decided) 55 = .ok (.if_icmp .ne 8, 3) := by decide +kernel
theorem dLw_decided_58 : decode (mB Lw_decided) 58 = .ok (.iload 6, 2) := by decide +kernel
theorem dLw_decided_60 : decode (mB Lw_decided) 60 = .ok (.goto 24, 3) := by decide +kernel
theorem dLw_decided_63 : decode (mB Lw_decided) 63 = .ok (.aload_n 1, 1) := by decide +kernel
theorem dLw_decided_64 : decode (mB Lw_decided) 64 = .ok (.iload_n 2, 1) := by decide +kernel
theorem dLw_decided_65 : decode (mB Lw_decided) 65 = .ok (.iaload, 1) := by decide +kernel
theorem dLw_decided_66 : decode (mB Lw_decided) 66 = .ok (.iconst 1, 1) := by decide +kernel
theorem dLw_decided_67 : decode (mB Lw_decided) 67 = .ok (.if_icmp .eq 10, 3) := by decide +kernel
theorem dLw_decided_70 : decode (mB Lw_decided) 70 = .ok (.iload 4, 2) := by decide +kernel
theorem dLw_decided_72 : decode (mB Lw_decided) 72 = .ok (.iload 7, 2) := by decide +kernel
theorem dLw_decided_74 : decode (mB Lw_decided) 74 = .ok (.if_icmp .ne 8, 3) := by decide +kernel
theorem dLw_decided_77 : decode (mB Lw_decided) 77 = .ok (.iload 5, 2) := by decide +kernel
theorem dLw_decided_79 : decode (mB Lw_decided) 79 = .ok (.goto 5, 3) := by decide +kernel
theorem dLw_decided_82 : decode (mB Lw_decided) 82 = .ok (.iload 4, 2) := by decide +kernel
theorem dLw_decided_84 : decode (mB Lw_decided) 84 = .ok (.ireturn, 1) := by decide +kernel
def w_Lw_decided_41 (R : Int32 → tpH → Prop) (x0 : Option Nat) (x1 : Option Nat) (x2 : Int32) (x3 : Int32) (x4 : Int32) (x5 : Int32) (x6 : Int32) (x7 : Int32) (h : tpH) : Prop :=
  w_Lw_adds x0 (((8 : Int32) * x3) + x2) h (fun h1 => ∃ a2, x1 = some a2 ∧ hT h1 a2 = 15 ∧ (vp_in x2 (hL h1 a2) ∧ ((¬ (hI h1 a2 x2.toNatClampNeg) = (2 : Int32) → (vp_in x2 (hL h1 a2) ∧ (((hI h1 a2 x2.toNatClampNeg) = (1 : Int32) → (R x5 h1)) ∧ (¬ (hI h1 a2 x2.toNatClampNeg) = (1 : Int32) → ((¬ x4 = x7 → (R x4 h1)) ∧ (x4 = x7 → (R x5 h1))))))) ∧ ((hI h1 a2 x2.toNatClampNeg) = (2 : Int32) → (R x6 h1)))))
def w_Lw_decided_24 (R : Int32 → tpH → Prop) (x0 : Option Nat) (x1 : Option Nat) (x2 : Int32) (x3 : Int32) (x4 : Int32) (x5 : Int32) (x6 : Int32) (x7 : Int32) (h : tpH) : Prop :=
  (x4 = x7 → (w_Lw_decided_41 R x0 x1 x2 x3 x4 x5 x6 x7 h)) ∧ (¬ x4 = x7 → ((¬ x5 = x4 → (w_Lw_decided_41 R x0 x1 x2 x3 x4 x5 x6 x7 h)) ∧ (x5 = x4 → (R x6 h))))
def w_Lw_decided (x0 : Option Nat) (x1 : Option Nat) (x2 : Int32) (x3 : Int32) (x4 : Int32) (x5 : Int32) (x6 : Int32) (x7 : Int32) (h : tpH) (R : Int32 → tpH → Prop) : Prop :=
  (x5 = x6 → (R x5 h)) ∧ (¬ x5 = x6 → ((x4 = x7 → (w_Lw_decided_24 R x0 x1 x2 x3 x4 x5 x6 x7 h)) ∧ (¬ x4 = x7 → ((¬ x6 = x4 → (w_Lw_decided_24 R x0 x1 x2 x3 x4 x5 x6 x7 h)) ∧ (x6 = x4 → (R x5 h))))))
theorem s_Lw_decided_41 {h0 : tpH} {av : List tpV} {R : Int32 → tpH → Prop} : ∀ (x0 : Option Nat) (x1 : Option Nat) (x2 : Int32) (x3 : Int32) (x4 : Int32) (x5 : Int32) (x6 : Int32) (x7 : Int32) (h : tpH), w_Lw_decided_41 R x0 x1 x2 x3 x4 x5 x6 x7 h → tpR Lw_decided 1 h0 av (tpOi R (fun _ _ => False)) 41 [some (vR x0), some (vR x1), some (vI x2), some (vI x3), some (vI x4), some (vI x5), some (vI x6), some (vI x7)] [] h := by
  intro x0 x1 x2 x3 x4 x5 x6 x7 h hw
  unfold w_Lw_decided_41 at hw
  refine tq_aload_n dLw_decided_41 rfl rfl ?_
  refine tq_bipush (v := (8 : Int32)) dLw_decided_42 tnb_8 ?_
  refine tq_iload_n dLw_decided_44 rfl rfl ?_
  refine tq_imul dLw_decided_45 ?_
  refine tq_iload_n dLw_decided_46 rfl rfl ?_
  refine tq_iadd dLw_decided_47 ?_
  refine tq_callS ms_Lw_adds (dc := 0) (as := [vR x0, vI (((8 : Int32) * x3) + x2)]) (rest := []) kLw_89 (Nat.le_of_ble_eq_true rfl) (Nat.le_of_ble_eq_true rfl) rfl rfl (Nat.le_of_ble_eq_true rfl) dLw_decided_48 (s_Lw_adds hw) (fun _ _ hx => False.elim hx) (tk_v fun h1 hw => ?_)
  refine tq_aload_n dLw_decided_51 rfl rfl ?_
  refine tq_iload_n dLw_decided_52 rfl rfl ?_
  obtain ⟨a2, e3, f4, hw⟩ := hw
  obtain ⟨f5, hw⟩ := hw
  refine te_iald dLw_decided_53 e3 (Or.inl f4) f5 ?_
  refine tq_iconst (v := (2 : Int32)) dLw_decided_54 tni_2 ?_
  refine tq_icmpne (tgt := 63) dLw_decided_55 (by decide) (fun c6 => ?_) (fun c6 => ?_)
  · have hw := hw.1 c6
    refine tq_aload_n dLw_decided_63 rfl rfl ?_
    refine tq_iload_n dLw_decided_64 rfl rfl ?_
    obtain ⟨f7, hw⟩ := hw
    refine te_iald dLw_decided_65 e3 (Or.inl f4) f7 ?_
    refine tq_iconst (v := (1 : Int32)) dLw_decided_66 tni_1 ?_
    refine tq_icmpeq (tgt := 77) dLw_decided_67 (by decide) (fun c8 => ?_) (fun c8 => ?_)
    · have hw := hw.1 c8
      refine tq_iload dLw_decided_77 rfl ?_
      refine tq_goto (tgt := 84) dLw_decided_79 (by decide) ?_
      exact tq_iret rfl rfl dLw_decided_84 hw
    · have hw := hw.2 c8
      refine tq_iload dLw_decided_70 rfl ?_
      refine tq_iload dLw_decided_72 rfl ?_
      refine tq_icmpne (tgt := 82) dLw_decided_74 (by decide) (fun c9 => ?_) (fun c9 => ?_)
      · have hw := hw.1 c9
        refine tq_iload dLw_decided_82 rfl ?_
        exact tq_iret rfl rfl dLw_decided_84 hw
      · have hw := hw.2 c9
        refine tq_iload dLw_decided_77 rfl ?_
        refine tq_goto (tgt := 84) dLw_decided_79 (by decide) ?_
        exact tq_iret rfl rfl dLw_decided_84 hw
  · have hw := hw.2 c6
    refine tq_iload dLw_decided_58 rfl ?_
    refine tq_goto (tgt := 84) dLw_decided_60 (by decide) ?_
    exact tq_iret rfl rfl dLw_decided_84 hw
theorem s_Lw_decided_24 {h0 : tpH} {av : List tpV} {R : Int32 → tpH → Prop} : ∀ (x0 : Option Nat) (x1 : Option Nat) (x2 : Int32) (x3 : Int32) (x4 : Int32) (x5 : Int32) (x6 : Int32) (x7 : Int32) (h : tpH), w_Lw_decided_24 R x0 x1 x2 x3 x4 x5 x6 x7 h → tpR Lw_decided 1 h0 av (tpOi R (fun _ _ => False)) 24 [some (vR x0), some (vR x1), some (vI x2), some (vI x3), some (vI x4), some (vI x5), some (vI x6), some (vI x7)] [] h := by
  intro x0 x1 x2 x3 x4 x5 x6 x7 h hw
  unfold w_Lw_decided_24 at hw
  refine tq_iload dLw_decided_24 rfl ?_
  refine tq_iload dLw_decided_26 rfl ?_
  refine tq_icmpeq (tgt := 41) dLw_decided_28 (by decide) (fun c1 => ?_) (fun c1 => ?_)
  · have hw := hw.1 c1
    refine tpR.fo (ls' := [some (vR x0), some (vR x1), some (vI x2), some (vI x3), some (vI x4), some (vI x5), some (vI x6), some (vI x7)]) ?_ (And.intro rfl (And.intro rfl (And.intro rfl (And.intro rfl (And.intro rfl (And.intro rfl (And.intro rfl (And.intro rfl trivial))))))))
    exact s_Lw_decided_41 _ _ _ _ _ _ _ _ _ hw
  · have hw := hw.2 c1
    refine tq_iload dLw_decided_31 rfl ?_
    refine tq_iload dLw_decided_33 rfl ?_
    refine tq_icmpne (tgt := 41) dLw_decided_35 (by decide) (fun c2 => ?_) (fun c2 => ?_)
    · have hw := hw.1 c2
      refine tpR.fo (ls' := [some (vR x0), some (vR x1), some (vI x2), some (vI x3), some (vI x4), some (vI x5), some (vI x6), some (vI x7)]) ?_ (And.intro rfl (And.intro rfl (And.intro rfl (And.intro rfl (And.intro rfl (And.intro rfl (And.intro rfl (And.intro rfl trivial))))))))
      exact s_Lw_decided_41 _ _ _ _ _ _ _ _ _ hw
    · have hw := hw.2 c2
      refine tq_iload dLw_decided_38 rfl ?_
      exact tq_iret rfl rfl dLw_decided_40 hw
theorem s_Lw_decided {x0 : Option Nat} {x1 : Option Nat} {x2 : Int32} {x3 : Int32} {x4 : Int32} {x5 : Int32} {x6 : Int32} {x7 : Int32} {h : tpH} {R : Int32 → tpH → Prop} (hw : w_Lw_decided x0 x1 x2 x3 x4 x5 x6 x7 h R) : tpC Lw_decided 1 [vR x0, vR x1, vI x2, vI x3, vI x4, vI x5, vI x6, vI x7] h (tpOi R (fun _ _ => False)) := by
  refine tpC_of ms_Lw_decided.2.2.2.1 rfl rfl (Nat.le_of_ble_eq_true rfl) ?_
  show tpR Lw_decided 1 h _ _ 0 [some (vR x0), some (vR x1), some (vI x2), some (vI x3), some (vI x4), some (vI x5), some (vI x6), some (vI x7)] [] h
  unfold w_Lw_decided at hw
  refine tq_iload dLw_decided_0 rfl ?_
  refine tq_iload dLw_decided_2 rfl ?_
  refine tq_icmpeq (tgt := 21) dLw_decided_4 (by decide) (fun c1 => ?_) (fun c1 => ?_)
  · have hw := hw.1 c1
    refine tq_iload dLw_decided_21 rfl ?_
    exact tq_iret rfl rfl dLw_decided_23 hw
  · have hw := hw.2 c1
    refine tq_iload dLw_decided_7 rfl ?_
    refine tq_iload dLw_decided_9 rfl ?_
    refine tq_icmpeq (tgt := 24) dLw_decided_11 (by decide) (fun c2 => ?_) (fun c2 => ?_)
    · have hw := hw.1 c2
      refine tpR.fo (ls' := [some (vR x0), some (vR x1), some (vI x2), some (vI x3), some (vI x4), some (vI x5), some (vI x6), some (vI x7)]) ?_ (And.intro rfl (And.intro rfl (And.intro rfl (And.intro rfl (And.intro rfl (And.intro rfl (And.intro rfl (And.intro rfl trivial))))))))
      exact s_Lw_decided_24 _ _ _ _ _ _ _ _ _ hw
    · have hw := hw.2 c2
      refine tq_iload dLw_decided_14 rfl ?_
      refine tq_iload dLw_decided_16 rfl ?_
      refine tq_icmpne (tgt := 24) dLw_decided_18 (by decide) (fun c3 => ?_) (fun c3 => ?_)
      · have hw := hw.1 c3
        refine tpR.fo (ls' := [some (vR x0), some (vR x1), some (vI x2), some (vI x3), some (vI x4), some (vI x5), some (vI x6), some (vI x7)]) ?_ (And.intro rfl (And.intro rfl (And.intro rfl (And.intro rfl (And.intro rfl (And.intro rfl (And.intro rfl (And.intro rfl trivial))))))))
        exact s_Lw_decided_24 _ _ _ _ _ _ _ _ _ hw
      · have hw := hw.2 c3
        refine tq_iload dLw_decided_21 rfl ?_
        exact tq_iret rfl rfl dLw_decided_23 hw
/-! TLaw.isTouched -/
theorem dLw_isTouched_0 : decode (mB Lw_isTouched) 0 = .ok (.aload_n 0, 1) := by decide +kernel
theorem dLw_isTouched_1 : decode (mB Lw_isTouched) 1 = .ok (.iload_n 2, 1) := by decide +kernel
theorem dLw_isTouched_2 : decode (mB Lw_isTouched) 2 = .ok (.invokestatic 86, 3) := by decide +kernel
theorem dLw_isTouched_5 : decode (mB Lw_isTouched) 5 = .ok (.aload_n 1, 1) := by decide +kernel
theorem dLw_isTouched_6 : decode (mB Lw_isTouched) 6 = .ok (.iload_n 2, 1) := by decide +kernel
theorem dLw_isTouched_7 : decode (mB Lw_isTouched) 7 = .ok (.invokestatic 86, 3) := by decide +kernel
theorem dLw_isTouched_10 : decode (mB Lw_isTouched) 10 = .ok (.if_icmp .ne 16, 3) := by decide +kernel
theorem dLw_isTouched_13 : decode (mB Lw_isTouched) 13 = .ok (.aload_n 0, 1) := by decide +kernel
theorem dLw_isTouched_14 : decode (mB Lw_isTouched) 14 = .ok (.iload_n 2, 1) := by decide +kernel
theorem dLw_isTouched_15 : decode (mB Lw_isTouched) 15 = .ok (.invokestatic 40, 3) := by decide +kernel
theorem dLw_isTouched_18 : decode (mB Lw_isTouched) 18 = .ok (.aload_n 1, 1) := by decide +kernel
theorem dLw_isTouched_19 : decode (mB Lw_isTouched) 19 = .ok (.iload_n 2, 1) := by decide +kernel
theorem dLw_isTouched_20 : decode (mB Lw_isTouched) 20 = .ok (.invokestatic 40, 3) := by decide +kernel
theorem dLw_isTouched_23 : decode (mB Lw_isTouched) 23 = .ok (.if_icmp .eq 7, 3) := by decide +kernel
theorem dLw_isTouched_26 : decode (mB Lw_isTouched) 26 = .ok (.iconst 1, 1) := by decide +kernel
theorem dLw_isTouched_27 : decode (mB Lw_isTouched) 27 = .ok (.goto 4, 3) := by decide +kernel
theorem dLw_isTouched_30 : decode (mB Lw_isTouched) 30 = .ok (.iconst 0, 1) := by decide +kernel
theorem dLw_isTouched_31 : decode (mB Lw_isTouched) 31 = .ok (.istore_n 3, 1) := by decide +kernel
theorem dLw_isTouched_32 : decode (mB Lw_isTouched) 32 = .ok (.iconst 0, 1) := by decide +kernel
theorem dLw_isTouched_33 : decode (mB Lw_isTouched) 33 = .ok (.istore 4, 2) := by decide +kernel
theorem dLw_isTouched_35 : decode (mB Lw_isTouched) 35 = .ok (.iload 4, 2) := by decide +kernel
theorem dLw_isTouched_37 : decode (mB Lw_isTouched) 37 = .ok (.aload_n 1, 1) := by decide +kernel
theorem dLw_isTouched_38 : decode (mB Lw_isTouched) 38 = .ok (.iconst 0, 1) := by decide +kernel
theorem dLw_isTouched_39 : decode (mB Lw_isTouched) 39 = .ok (.iaload, 1) := by decide +kernel
theorem dLw_isTouched_40 : decode (mB Lw_isTouched) 40 = .ok (.if_icmp .ge 43, 3) := by decide +kernel
theorem dLw_isTouched_43 : decode (mB Lw_isTouched) 43 = .ok (.iload_n 3, 1) := by decide +kernel
theorem dLw_isTouched_44 : decode (mB Lw_isTouched) 44 = .ok (.ifCond .ne 27, 3) := by decide +kernel
theorem dLw_isTouched_47 : decode (mB Lw_isTouched) 47 = .ok (.aload_n 1, 1) := by decide +kernel
theorem dLw_isTouched_48 : decode (mB Lw_isTouched) 48 = .ok (.iload 4, 2) := by decide +kernel
theorem dLw_isTouched_50 : decode (mB Lw_isTouched) 50 = .ok (.invokestatic 16, 3) := by decide +kernel
theorem dLw_isTouched_53 : decode (mB Lw_isTouched) 53 = .ok (.iload_n 2, 1) := by decide +kernel
theorem dLw_isTouched_54 : decode (mB Lw_isTouched) 54 = .ok (.if_icmp .ne 21, 3) := by decide +kernel
theorem dLw_isTouched_57 : decode (mB Lw_isTouched) 57 = .ok (.aload_n 0, 1) := by decide +kernel
theorem dLw_isTouched_58 : decode (mB Lw_isTouched) 58 = .ok (.aload_n 1, 1) := by decide +kernel
theorem dLw_isTouched_59 : decode (mB Lw_isTouched) 59 = .ok (.iload 4, 2) := by decide +kernel
theorem dLw_isTouched_61 : decode (mB Lw_isTouched) 61 = .ok (.invokestatic 7, 3) := by decide +kernel
theorem dLw_isTouched_64 : decode (mB Lw_isTouched) 64 = .ok (.invokestatic 40, 3) := by decide +kernel
theorem dLw_isTouched_67 : decode (mB Lw_isTouched) 67 = .ok (.iload_n 2, 1) := by decide +kernel
theorem dLw_isTouched_68 : decode (mB Lw_isTouched) 68 = .ok (.if_icmp .eq 7, 3) := by decide +kernel
theorem dLw_isTouched_71 : decode (mB Lw_isTouched) 71 = .ok (.iconst 1, 1) := by decide +kernel
theorem dLw_isTouched_72 : decode (mB Lw_isTouched) 72 = .ok (.goto 4, 3) := by decide +kernel
theorem dLw_isTouched_75 : decode (mB Lw_isTouched) 75 = .ok (.iconst 0, 1) := by decide +kernel
theorem dLw_isTouched_76 : decode (mB Lw_isTouched) 76 = .ok (.istore_n 3, 1) := by decide +kernel
theorem dLw_isTouched_77 : decode (mB Lw_isTouched) 77 = .ok (.iinc 4 1, 3) := by decide +kernel
theorem dLw_isTouched_80 : decode (mB Lw_isTouched) 80 = .ok (.goto (-45), 3) := by decide +kernel
theorem dLw_isTouched_83 : decode (mB Lw_isTouched) 83 = .ok (.iload_n 3, 1) := by decide +kernel
theorem dLw_isTouched_84 : decode (mB Lw_isTouched) 84 = .ok (.ireturn, 1) := by decide +kernel
def b_Lw_isTouched_35 (R : Int32 → tpH → Prop) (Y : (Option Nat) → (Option Nat) → Int32 → Int32 → Int32 → tpH → Prop) (x0 : Option Nat) (x1 : Option Nat) (x2 : Int32) (x3 : Int32) (x4 : Int32) (h : tpH) : Prop :=
  ∃ a1, x1 = some a1 ∧ hT h a1 = 15 ∧ (vp_in (0 : Int32) (hL h a1) ∧ (((hI h a1 (0 : Int32).toNatClampNeg) ≤ x4 → (tpB x3 ∧ (R x3 h))) ∧ (¬ (hI h a1 (0 : Int32).toNatClampNeg) ≤ x4 → ((¬ x3 = 0 → (Y x0 x1 x2 (1 : Int32) (x4 + (1 : Int32)) h)) ∧ (x3 = 0 → (w_Lw_parent x1 x4 h (fun v9 h8 => (¬ v9 = x2 → (Y x0 x1 x2 (0 : Int32) (x4 + (1 : Int32)) h8)) ∧ (v9 = x2 → (w_Lw_mark x1 x4 h8 (fun v12 h11 => w_Lw_parentOf x0 v12 h11 (fun v14 h13 => (v14 = x2 → (Y x0 x1 x2 (0 : Int32) (x4 + (1 : Int32)) h13)) ∧ (¬ v14 = x2 → (Y x0 x1 x2 (1 : Int32) (x4 + (1 : Int32)) h13)))))))))))))
def w_Lw_isTouched_35 (R : Int32 → tpH → Prop) : Nat → (Option Nat) → (Option Nat) → Int32 → Int32 → Int32 → tpH → Prop
  | 0 => fun _ _ _ _ _ _ => False
  | n + 1 => b_Lw_isTouched_35 R (w_Lw_isTouched_35 R n)
def w_Lw_isTouched (x0 : Option Nat) (x1 : Option Nat) (x2 : Int32) (h : tpH) (R : Int32 → tpH → Prop) : Prop :=
  w_Lw_valueOf x0 x2 h (fun v2 h1 => w_Lw_valueOf x1 x2 h1 (fun v4 h3 => (¬ v2 = v4 → (∃ n, w_Lw_isTouched_35 R n x0 x1 x2 (1 : Int32) (0 : Int32) h3)) ∧ (v2 = v4 → (w_Lw_parentOf x0 x2 h3 (fun v7 h6 => w_Lw_parentOf x1 x2 h6 (fun v9 h8 => (v7 = v9 → (∃ n, w_Lw_isTouched_35 R n x0 x1 x2 (0 : Int32) (0 : Int32) h8)) ∧ (¬ v7 = v9 → (∃ n, w_Lw_isTouched_35 R n x0 x1 x2 (1 : Int32) (0 : Int32) h8))))))))
theorem s_Lw_isTouched_35 {h0 : tpH} {av : List tpV} {R : Int32 → tpH → Prop} : ∀ (n : Nat) (x0 : Option Nat) (x1 : Option Nat) (x2 : Int32) (x3 : Int32) (x4 : Int32) (h : tpH), w_Lw_isTouched_35 R n x0 x1 x2 x3 x4 h → tpR Lw_isTouched 3 h0 av (tpOi R (fun _ _ => False)) 35 [some (vR x0), some (vR x1), some (vI x2), some (vI x3), some (vI x4)] [] h := by
  intro n
  induction n with
  | zero => intro x0 x1 x2 x3 x4 h hw; exact False.elim hw
  | succ n ih =>
    intro x0 x1 x2 x3 x4 h hw
    change b_Lw_isTouched_35 R (w_Lw_isTouched_35 R n) x0 x1 x2 x3 x4 h at hw
    unfold b_Lw_isTouched_35 at hw
    refine tq_iload dLw_isTouched_35 rfl ?_
    refine tq_aload_n dLw_isTouched_37 rfl rfl ?_
    refine tq_iconst (v := (0 : Int32)) dLw_isTouched_38 tni_0 ?_
    obtain ⟨a1, e2, f3, hw⟩ := hw
    obtain ⟨f4, hw⟩ := hw
    refine te_iald dLw_isTouched_39 e2 (Or.inl f3) f4 ?_
    refine tq_icmpge (tgt := 83) dLw_isTouched_40 (by decide) (fun c5 => ?_) (fun c5 => ?_)
    · have hw := hw.1 c5
      refine tq_iload_n dLw_isTouched_83 rfl rfl ?_
      obtain ⟨f6, hw⟩ := hw
      exact tq_iret rfl (tpB_n f6) dLw_isTouched_84 hw
    · have hw := hw.2 c5
      refine tq_iload_n dLw_isTouched_43 rfl rfl ?_
      refine tq_ifne (tgt := 71) dLw_isTouched_44 (by decide) (fun c7 => ?_) (fun c7 => ?_)
      · have hw := hw.1 c7
        refine tq_iconst (v := (1 : Int32)) dLw_isTouched_71 tni_1 ?_
        refine tq_goto (tgt := 76) dLw_isTouched_72 (by decide) ?_
        refine tq_istore_n (ls' := [some (vR x0), some (vR x1), some (vI x2), some (vI (1 : Int32)), some (vI x4)]) dLw_isTouched_76 rfl (Nat.le_of_ble_eq_true rfl) rfl ?_
        refine tq_inc (k := (1 : Int32)) (ls' := [some (vR x0), some (vR x1), some (vI x2), some (vI (1 : Int32)), some (vI (x4 + (1 : Int32)))]) dLw_isTouched_77 rfl tni_1 (Nat.le_of_ble_eq_true rfl) rfl ?_
        refine tq_goto (tgt := 35) dLw_isTouched_80 (by decide) ?_
        refine tpR.fo (ls' := [some (vR x0), some (vR x1), some (vI x2), some (vI (1 : Int32)), some (vI (x4 + (1 : Int32)))]) ?_ (And.intro rfl (And.intro rfl (And.intro rfl (And.intro rfl (And.intro rfl trivial)))))
        exact ih _ _ _ _ _ _ hw
      · have hw := hw.2 c7
        refine tq_aload_n dLw_isTouched_47 rfl rfl ?_
        refine tq_iload dLw_isTouched_48 rfl ?_
        refine tq_callS ms_Lw_parent (dc := 0) (as := [vR x1, vI x4]) (rest := []) kLw_16 (Nat.le_of_ble_eq_true rfl) (Nat.le_of_ble_eq_true rfl) rfl rfl (Nat.le_of_ble_eq_true rfl) dLw_isTouched_50 (s_Lw_parent hw) (fun _ _ hx => False.elim hx) (tk_i fun v9 h8 hw => ?_)
        refine tq_iload_n dLw_isTouched_53 rfl rfl ?_
        refine tq_icmpne (tgt := 75) dLw_isTouched_54 (by decide) (fun c10 => ?_) (fun c10 => ?_)
        · have hw := hw.1 c10
          refine tq_iconst (v := (0 : Int32)) dLw_isTouched_75 tni_0 ?_
          refine tq_istore_n (ls' := [some (vR x0), some (vR x1), some (vI x2), some (vI (0 : Int32)), some (vI x4)]) dLw_isTouched_76 rfl (Nat.le_of_ble_eq_true rfl) rfl ?_
          refine tq_inc (k := (1 : Int32)) (ls' := [some (vR x0), some (vR x1), some (vI x2), some (vI (0 : Int32)), some (vI (x4 + (1 : Int32)))]) dLw_isTouched_77 rfl tni_1 (Nat.le_of_ble_eq_true rfl) rfl ?_
          refine tq_goto (tgt := 35) dLw_isTouched_80 (by decide) ?_
          refine tpR.fo (ls' := [some (vR x0), some (vR x1), some (vI x2), some (vI (0 : Int32)), some (vI (x4 + (1 : Int32)))]) ?_ (And.intro rfl (And.intro rfl (And.intro rfl (And.intro rfl (And.intro rfl trivial)))))
          exact ih _ _ _ _ _ _ hw
        · have hw := hw.2 c10
          refine tq_aload_n dLw_isTouched_57 rfl rfl ?_
          refine tq_aload_n dLw_isTouched_58 rfl rfl ?_
          refine tq_iload dLw_isTouched_59 rfl ?_
          refine tq_callS ms_Lw_mark (dc := 0) (as := [vR x1, vI x4]) (rest := [vR x0]) kLw_7 (Nat.le_of_ble_eq_true rfl) (Nat.le_of_ble_eq_true rfl) rfl rfl (Nat.le_of_ble_eq_true rfl) dLw_isTouched_61 (s_Lw_mark hw) (fun _ _ hx => False.elim hx) (tk_i fun v12 h11 hw => ?_)
          refine tq_callS ms_Lw_parentOf (dc := 2) (as := [vR x0, vI v12]) (rest := []) kLw_40 (Nat.le_of_ble_eq_true rfl) (Nat.le_of_ble_eq_true rfl) rfl rfl (Nat.le_of_ble_eq_true rfl) dLw_isTouched_64 (s_Lw_parentOf hw) (fun _ _ hx => False.elim hx) (tk_i fun v14 h13 hw => ?_)
          refine tq_iload_n dLw_isTouched_67 rfl rfl ?_
          refine tq_icmpeq (tgt := 75) dLw_isTouched_68 (by decide) (fun c15 => ?_) (fun c15 => ?_)
          · have hw := hw.1 c15
            refine tq_iconst (v := (0 : Int32)) dLw_isTouched_75 tni_0 ?_
            refine tq_istore_n (ls' := [some (vR x0), some (vR x1), some (vI x2), some (vI (0 : Int32)), some (vI x4)]) dLw_isTouched_76 rfl (Nat.le_of_ble_eq_true rfl) rfl ?_
            refine tq_inc (k := (1 : Int32)) (ls' := [some (vR x0), some (vR x1), some (vI x2), some (vI (0 : Int32)), some (vI (x4 + (1 : Int32)))]) dLw_isTouched_77 rfl tni_1 (Nat.le_of_ble_eq_true rfl) rfl ?_
            refine tq_goto (tgt := 35) dLw_isTouched_80 (by decide) ?_
            refine tpR.fo (ls' := [some (vR x0), some (vR x1), some (vI x2), some (vI (0 : Int32)), some (vI (x4 + (1 : Int32)))]) ?_ (And.intro rfl (And.intro rfl (And.intro rfl (And.intro rfl (And.intro rfl trivial)))))
            exact ih _ _ _ _ _ _ hw
          · have hw := hw.2 c15
            refine tq_iconst (v := (1 : Int32)) dLw_isTouched_71 tni_1 ?_
            refine tq_goto (tgt := 76) dLw_isTouched_72 (by decide) ?_
            refine tq_istore_n (ls' := [some (vR x0), some (vR x1), some (vI x2), some (vI (1 : Int32)), some (vI x4)]) dLw_isTouched_76 rfl (Nat.le_of_ble_eq_true rfl) rfl ?_
            refine tq_inc (k := (1 : Int32)) (ls' := [some (vR x0), some (vR x1), some (vI x2), some (vI (1 : Int32)), some (vI (x4 + (1 : Int32)))]) dLw_isTouched_77 rfl tni_1 (Nat.le_of_ble_eq_true rfl) rfl ?_
            refine tq_goto (tgt := 35) dLw_isTouched_80 (by decide) ?_
            refine tpR.fo (ls' := [some (vR x0), some (vR x1), some (vI x2), some (vI (1 : Int32)), some (vI (x4 + (1 : Int32)))]) ?_ (And.intro rfl (And.intro rfl (And.intro rfl (And.intro rfl (And.intro rfl trivial)))))
            exact ih _ _ _ _ _ _ hw
theorem s_Lw_isTouched {x0 : Option Nat} {x1 : Option Nat} {x2 : Int32} {h : tpH} {R : Int32 → tpH → Prop} (hw : w_Lw_isTouched x0 x1 x2 h R) : tpC Lw_isTouched 3 [vR x0, vR x1, vI x2] h (tpOi R (fun _ _ => False)) := by
  refine tpC_of ms_Lw_isTouched.2.2.2.1 rfl rfl (Nat.le_of_ble_eq_true rfl) ?_
  show tpR Lw_isTouched 3 h _ _ 0 [some (vR x0), some (vR x1), some (vI x2), none, none] [] h
  unfold w_Lw_isTouched at hw
  refine tq_aload_n dLw_isTouched_0 rfl rfl ?_
  refine tq_iload_n dLw_isTouched_1 rfl rfl ?_
  refine tq_callS ms_Lw_valueOf (dc := 2) (as := [vR x0, vI x2]) (rest := []) kLw_86 (Nat.le_of_ble_eq_true rfl) (Nat.le_of_ble_eq_true rfl) rfl rfl (Nat.le_of_ble_eq_true rfl) dLw_isTouched_2 (s_Lw_valueOf hw) (fun _ _ hx => False.elim hx) (tk_i fun v2 h1 hw => ?_)
  refine tq_aload_n dLw_isTouched_5 rfl rfl ?_
  refine tq_iload_n dLw_isTouched_6 rfl rfl ?_
  refine tq_callS ms_Lw_valueOf (dc := 2) (as := [vR x1, vI x2]) (rest := [vI v2]) kLw_86 (Nat.le_of_ble_eq_true rfl) (Nat.le_of_ble_eq_true rfl) rfl rfl (Nat.le_of_ble_eq_true rfl) dLw_isTouched_7 (s_Lw_valueOf hw) (fun _ _ hx => False.elim hx) (tk_i fun v4 h3 hw => ?_)
  refine tq_icmpne (tgt := 26) dLw_isTouched_10 (by decide) (fun c5 => ?_) (fun c5 => ?_)
  · have hw := hw.1 c5
    refine tq_iconst (v := (1 : Int32)) dLw_isTouched_26 tni_1 ?_
    refine tq_goto (tgt := 31) dLw_isTouched_27 (by decide) ?_
    refine tq_istore_n (ls' := [some (vR x0), some (vR x1), some (vI x2), some (vI (1 : Int32)), none]) dLw_isTouched_31 rfl (Nat.le_of_ble_eq_true rfl) rfl ?_
    refine tq_iconst (v := (0 : Int32)) dLw_isTouched_32 tni_0 ?_
    refine tq_istore (ls' := [some (vR x0), some (vR x1), some (vI x2), some (vI (1 : Int32)), some (vI (0 : Int32))]) dLw_isTouched_33 (Nat.le_of_ble_eq_true rfl) rfl ?_
    refine tpR.fo (ls' := [some (vR x0), some (vR x1), some (vI x2), some (vI (1 : Int32)), some (vI (0 : Int32))]) ?_ (And.intro rfl (And.intro rfl (And.intro rfl (And.intro rfl (And.intro rfl trivial)))))
    obtain ⟨n, hw⟩ := hw
    exact s_Lw_isTouched_35 n _ _ _ _ _ _ hw
  · have hw := hw.2 c5
    refine tq_aload_n dLw_isTouched_13 rfl rfl ?_
    refine tq_iload_n dLw_isTouched_14 rfl rfl ?_
    refine tq_callS ms_Lw_parentOf (dc := 2) (as := [vR x0, vI x2]) (rest := []) kLw_40 (Nat.le_of_ble_eq_true rfl) (Nat.le_of_ble_eq_true rfl) rfl rfl (Nat.le_of_ble_eq_true rfl) dLw_isTouched_15 (s_Lw_parentOf hw) (fun _ _ hx => False.elim hx) (tk_i fun v7 h6 hw => ?_)
    refine tq_aload_n dLw_isTouched_18 rfl rfl ?_
    refine tq_iload_n dLw_isTouched_19 rfl rfl ?_
    refine tq_callS ms_Lw_parentOf (dc := 2) (as := [vR x1, vI x2]) (rest := [vI v7]) kLw_40 (Nat.le_of_ble_eq_true rfl) (Nat.le_of_ble_eq_true rfl) rfl rfl (Nat.le_of_ble_eq_true rfl) dLw_isTouched_20 (s_Lw_parentOf hw) (fun _ _ hx => False.elim hx) (tk_i fun v9 h8 hw => ?_)
    refine tq_icmpeq (tgt := 30) dLw_isTouched_23 (by decide) (fun c10 => ?_) (fun c10 => ?_)
    · have hw := hw.1 c10
      refine tq_iconst (v := (0 : Int32)) dLw_isTouched_30 tni_0 ?_
      refine tq_istore_n (ls' := [some (vR x0), some (vR x1), some (vI x2), some (vI (0 : Int32)), none]) dLw_isTouched_31 rfl (Nat.le_of_ble_eq_true rfl) rfl ?_
      refine tq_iconst (v := (0 : Int32)) dLw_isTouched_32 tni_0 ?_
      refine tq_istore (ls' := [some (vR x0), some (vR x1), some (vI x2), some (vI (0 : Int32)), some (vI (0 : Int32))]) dLw_isTouched_33 (Nat.le_of_ble_eq_true rfl) rfl ?_
      refine tpR.fo (ls' := [some (vR x0), some (vR x1), some (vI x2), some (vI (0 : Int32)), some (vI (0 : Int32))]) ?_ (And.intro rfl (And.intro rfl (And.intro rfl (And.intro rfl (And.intro rfl trivial)))))
      obtain ⟨n, hw⟩ := hw
      exact s_Lw_isTouched_35 n _ _ _ _ _ _ hw
    · have hw := hw.2 c10
      refine tq_iconst (v := (1 : Int32)) dLw_isTouched_26 tni_1 ?_
      refine tq_goto (tgt := 31) dLw_isTouched_27 (by decide) ?_
      refine tq_istore_n (ls' := [some (vR x0), some (vR x1), some (vI x2), some (vI (1 : Int32)), none]) dLw_isTouched_31 rfl (Nat.le_of_ble_eq_true rfl) rfl ?_
      refine tq_iconst (v := (0 : Int32)) dLw_isTouched_32 tni_0 ?_
      refine tq_istore (ls' := [some (vR x0), some (vR x1), some (vI x2), some (vI (1 : Int32)), some (vI (0 : Int32))]) dLw_isTouched_33 (Nat.le_of_ble_eq_true rfl) rfl ?_
      refine tpR.fo (ls' := [some (vR x0), some (vR x1), some (vI x2), some (vI (1 : Int32)), some (vI (0 : Int32))]) ?_ (And.intro rfl (And.intro rfl (And.intro rfl (And.intro rfl (And.intro rfl trivial)))))
      obtain ⟨n, hw⟩ := hw
      exact s_Lw_isTouched_35 n _ _ _ _ _ _ hw
/-! TLaw.comes -/
theorem dLw_comes_0 : decode (mB Lw_comes) 0 = .ok (.aload_n 0, 1) := by decide +kernel
theorem dLw_comes_1 : decode (mB Lw_comes) 1 = .ok (.iload 5, 2) := by decide +kernel
theorem dLw_comes_3 : decode (mB Lw_comes) 3 = .ok (.invokestatic 13, 3) := by decide +kernel
theorem dLw_comes_6 : decode (mB Lw_comes) 6 = .ok (.ifCond .lt 7, 3) := by decide +kernel
theorem dLw_comes_9 : decode (mB Lw_comes) 9 = .ok (.iconst 1, 1) := by decide +kernel
theorem dLw_comes_10 : decode (mB Lw_comes) 10 = .ok (.goto 4, 3) := by decide +kernel
theorem dLw_comes_13 : decode (mB Lw_comes) 13 = .ok (.iconst 0, 1) := by decide +kernel
theorem dLw_comes_14 : decode (mB Lw_comes) 14 = .ok (.istore 6, 2) := by decide +kernel
theorem dLw_comes_16 : decode (mB Lw_comes) 16 = .ok (.aload_n 1, 1) := by decide +kernel
theorem dLw_comes_17 : decode (mB Lw_comes) 17 = .ok (.iload 5, 2) := by decide +kernel
theorem dLw_comes_19 : decode (mB Lw_comes) 19 = .ok (.invokestatic 13, 3) := by decide +kernel
theorem dLw_comes_22 : decode (mB Lw_comes) 22 = .ok (.ifCond .lt 7, 3) := by decide +kernel
theorem dLw_comes_25 : decode (mB Lw_comes) 25 = .ok (.iconst 1, 1) := by decide +kernel
theorem dLw_comes_26 : decode (mB Lw_comes) 26 = .ok (.goto 4, 3) := by decide +kernel
theorem dLw_comes_29 : decode (mB Lw_comes) 29 = .ok (.iconst 0, 1) := by decide +kernel
theorem dLw_comes_30 : decode (mB Lw_comes) 30 = .ok (.istore 7, 2) := by decide +kernel
theorem dLw_comes_32 : decode (mB Lw_comes) 32 = .ok (.aload_n 2, 1) := by decide +kernel
theorem dLw_comes_33 : decode (mB Lw_comes) 33 = .ok (.iload 5, 2) := by decide +kernel
theorem dLw_comes_35 : decode (mB Lw_comes) 35 = .ok (.invokestatic 13, 3) := by decide +kernel
theorem dLw_comes_38 : decode (mB Lw_comes) 38 = .ok (.ifCond .lt 7, 3) := by decide +kernel
theorem dLw_comes_41 : decode (mB Lw_comes) 41 = .ok (.iconst 1, 1) := by decide +kernel
theorem dLw_comes_42 : decode (mB Lw_comes) 42 = .ok (.goto 4, 3) := by decide +kernel
theorem dLw_comes_45 : decode (mB Lw_comes) 45 = .ok (.iconst 0, 1) := by decide +kernel
theorem dLw_comes_46 : decode (mB Lw_comes) 46 = .ok (.istore 8, 2) := by decide +kernel
theorem dLw_comes_48 : decode (mB Lw_comes) 48 = .ok (.iload 7, 2) := by decide +kernel
theorem dLw_comes_50 : decode (mB Lw_comes) 50 = .ok (.ifCond .ne 10, 3) := by decide +kernel
theorem dLw_comes_53 : decode (mB Lw_comes) 53 = .ok (.iload 8, 2) := by decide +kernel
theorem dLw_comes_55 : decode (mB Lw_comes) 55 = .ok (.ifCond .ne 5, 3) := by decide +kernel
theorem dLw_comes_58 : decode (mB Lw_comes) 58 = .ok (.iconst (-1), 1) := by decide +kernel
theorem dLw_comes_59 : decode (mB Lw_comes) 59 = .ok (.ireturn, 1) := by decide +kernel
theorem dLw_comes_60 : decode (mB Lw_comes) 60 = .ok (.iload 7, 2) := by decide +kernel
theorem dLw_comes_62 : decode (mB Lw_comes) 62 = .ok (.ifCond .eq 87, 3) := by decide +kernel
theorem dLw_comes_65 : decode (mB Lw_comes) 65 = .ok (.iload 8, 2) := by decide +kernel
theorem dLw_comes_67 : decode (mB Lw_comes) 67 = .ok (.ifCond .eq 82, 3) := by decide +kernel
theorem dLw_comes_70 : decode (mB Lw_comes) 70 = .ok (.aload_n 3, 1) := by decide +kernel
theorem dLw_comes_71 : decode (mB Lw_comes) 71 = .ok (.aload 4, 2) := by decide +kernel
theorem dLw_comes_73 : decode (mB Lw_comes) 73 = .ok (.iconst 1, 1) := by decide +kernel
theorem dLw_comes_74 : decode (mB Lw_comes) 74 = .ok (.iload 5, 2) := by decide +kernel
theorem dLw_comes_76 : decode (mB Lw_comes) 76 = .ok (.aload_n 0, 1) := by decide +kernel
theorem dLw_comes_77 : decode (mB Lw_comes) 77 = .ok (.iload 5, 2) := by decide +kernel
theorem dLw_comes_79 : decode (mB Lw_comes) 79 = .ok (.invokestatic 86, 3) := by decide +kernel
theorem dLw_comes_82 : decode (mB Lw_comes) 82 = .ok (.aload_n 1, 1) := by decide +kernel
theorem dLw_comes_83 : decode (mB Lw_comes) 83 = .ok (.iload 5, 2) := by decide +kernel
theorem dLw_comes_85 : decode (mB Lw_comes) 85 = .ok (.invokestatic 86, 3) := by decide +kernel
theorem dLw_comes_88 : decode (mB Lw_comes) 88 = .ok (.aload_n 2, 1) := by decide +kernel
theorem dLw_comes_89 : decode (mB Lw_comes) 89 = .ok (.iload 5, 2) := by decide +kernel
theorem dLw_comes_91 : decode (mB Lw_comes) 91 = .ok (.invokestatic 86, 3) := by decide +kernel
theorem dLw_comes_94 : decode (mB Lw_comes) 94 = .ok (.iconst (-1), 1) := by decide +kernel
theorem dLw_comes_95 : decode (mB Lw_comes) 95 = .ok (.invokestatic 93, 3) := by decide +kernel
theorem dLw_comes_98 : decode (mB Lw_comes) 98 = .ok (.istore 9, 2) := by decide +kernel
theorem dLw_comes_100 : decode (mB Lw_comes) 100 = .ok (.aload_n 3, 1) := by decide +kernel
theorem dLw_comes_101 : decode (mB Lw_comes) 101 = .ok (.aload 4, 2) := by decide +kernel
theorem dLw_comes_103 : decode (mB Lw_comes) 103 = .ok (.iconst 2, 1) := by decide +kernel
theorem dLw_comes_104 : decode (mB Lw_comes) 104 = .ok (.iload 5, 2) := by decide +kernel
theorem dLw_comes_106 : decode (mB Lw_comes) 106 = .ok (.aload_n 0, 1) := by decide +kernel
theorem dLw_comes_107 : decode (mB Lw_comes) 107 = .ok (.iload 5, 2) := by decide +kernel
theorem dLw_comes_109 : decode (mB Lw_comes) 109 = .ok (.invokestatic 40, 3) := by decide +kernel
theorem dLw_comes_112 : decode (mB Lw_comes) 112 = .ok (.aload_n 1, 1) := by decide +kernel
theorem dLw_comes_113 : decode (mB Lw_comes) 113 = .ok (.iload 5, 2) := by decide +kernel
theorem dLw_comes_115 : decode (mB Lw_comes) 115 = .ok (.invokestatic 40, 3) := by decide +kernel
theorem dLw_comes_118 : decode (mB Lw_comes) 118 = .ok (.aload_n 2, 1) := by decide +kernel
theorem dLw_comes_119 : decode (mB Lw_comes) 119 = .ok (.iload 5, 2) := by decide +kernel
theorem dLw_comes_121 : decode (mB Lw_comes) 121 = .ok (.invokestatic 40, 3) := by decide +kernel
theorem dLw_comes_124 : decode (mB Lw_comes) 124 = .ok (.bipush (-2), 2) := by decide +kernel
theorem dLw_comes_126 : decode (mB Lw_comes) 126 = .ok (.invokestatic 93, 3) := by decide +kernel
theorem dLw_comes_129 : decode (mB Lw_comes) 129 = .ok (.istore 10, 2) := by decide +kernel
theorem dLw_comes_131 : decode (mB Lw_comes) 131 = .ok (.iload 5, 2) := by decide +kernel
theorem dLw_comes_133 : decode (mB Lw_comes) 133 = .ok (.bipush 64, 2) := by decide +kernel
theorem dLw_comes_135 : decode (mB Lw_comes) 135 = .ok (.iload 9, 2) := by decide +kernel
theorem dLw_comes_137 : decode (mB Lw_comes) 137 = .ok (.imul, 1) := by decide +kernel
theorem dLw_comes_138 : decode (mB Lw_comes) 138 = .ok (.iadd, 1) := by decide +kernel
theorem dLw_comes_139 : decode (mB Lw_comes) 139 = .ok (.sipush 8192, 3) := by decide +kernel
theorem dLw_comes_142 : decode (mB Lw_comes) 142 = .ok (.iload 10, 2) := by decide +kernel
theorem dLw_comes_144 : decode (mB Lw_comes) 144 = .ok (.iconst 1, 1) := by decide +kernel
theorem dLw_comes_145 : decode (mB Lw_comes) 145 = .ok (.iadd, 1) := by decide +kernel
theorem dLw_comes_146 : decode (mB Lw_comes) 146 = .ok (.imul, 1) := by decide +kernel
theorem dLw_comes_147 : decode (mB Lw_comes) 147 = .ok (.iadd, 1) := by decide +kernel
theorem dLw_comes_148 : decode (mB Lw_comes) 148 = .ok (.ireturn, 1) := by decide +kernel
theorem dLw_comes_149 : decode (mB Lw_comes) 149 = .ok (.iload 6, 2) := by decide +kernel
theorem dLw_comes_151 : decode (mB Lw_comes) 151 = .ok (.ifCond .eq 60, 3) := by decide +kernel
theorem dLw_comes_154 : decode (mB Lw_comes) 154 = .ok (.aload_n 0, 1) := by decide +kernel
theorem dLw_comes_155 : decode (mB Lw_comes) 155 = .ok (.iload 7, 2) := by decide +kernel
theorem dLw_comes_157 : decode (mB Lw_comes) 157 = .ok (.ifCond .eq 7, 3) := by decide +kernel
theorem dLw_comes_160 : decode (mB Lw_comes) 160 = .ok (.aload_n 1, 1) := by decide +kernel
theorem dLw_comes_161 : decode (mB Lw_comes) 161 = .ok (.goto 4, 3) := by decide +kernel
theorem dLw_comes_164 : decode (mB Lw_comes) 164 = .ok (.aload_n 2, 1) := by decide +kernel
theorem dLw_comes_165 : decode (mB Lw_comes) 165 = .ok (.iload 5, 2) := by decide +kernel
theorem dLw_comes_167 : decode (mB Lw_comes) 167 = .ok (.invokestatic 97, 3) := by decide +kernel
theorem dLw_comes_170 : decode (mB Lw_comes) 170 = .ok (.ifCond .ne 5, 3) := by decide +kernel
theorem dLw_comes_173 : decode (mB Lw_comes) 173 = .ok (.iconst (-1), 1) := by decide +kernel
theorem dLw_comes_174 : decode (mB Lw_comes) 174 = .ok (.ireturn, 1) := by decide +kernel
theorem dLw_comes_175 : decode (mB Lw_comes) 175 = .ok (.aload_n 3, 1) := by decide +kernel
theorem dLw_comes_176 : decode (mB Lw_comes) 176 = .ok (.bipush 8, 2) := by decide +kernel
theorem dLw_comes_178 : decode (mB Lw_comes) 178 = .ok (.iload 5, 2) := by decide +kernel
theorem dLw_comes_180 : decode (mB Lw_comes) 180 = .ok (.imul, 1) := by decide +kernel
theorem dLw_comes_181 : decode (mB Lw_comes) 181 = .ok (.invokestatic 89, 3) := by decide +kernel
theorem dLw_comes_184 : decode (mB Lw_comes) 184 = .ok (.aload 4, 2) := by decide +kernel
theorem dLw_comes_186 : decode (mB Lw_comes) 186 = .ok (.iconst 0, 1) := by decide +kernel
theorem dLw_comes_187 : decode (mB Lw_comes) 187 = .ok (.iaload, 1) := by decide +kernel
theorem dLw_comes_188 : decode (mB Lw_comes) 188 = .ok (.ifCond .eq 23, 3) := by decide +kernel
theorem dLw_comes_191 : decode (mB Lw_comes) 191 = .ok (.aload 4, 2) := by decide +kernel
theorem dLw_comes_193 : decode (mB Lw_comes) 193 = .ok (.iconst 0, 1) := by decide +kernel
theorem dLw_comes_194 : decode (mB Lw_comes) 194 = .ok (.iaload, 1) := by decide +kernel
theorem dLw_comes_195 : decode (mB Lw_comes) 195 = .ok (.iconst 1, 1) := by decide +kernel
theorem dLw_comes_196 : decode (mB Lw_comes) 196 = .ok (.if_icmp .ne 7, 3) := by decide +kernel
theorem dLw_comes_199 : decode (mB Lw_comes) 199 = .ok (.iconst 1, 1) := by decide +kernel
theorem dLw_comes_200 : decode (mB Lw_comes) 200 = .ok (.goto 4, 3) := by decide +kernel
theorem dLw_comes_203 : decode (mB Lw_comes) 203 = .ok (.iconst 0, 1) := by decide +kernel
theorem dLw_comes_204 : decode (mB Lw_comes) 204 = .ok (.iload 7, 2) := by decide +kernel
theorem dLw_comes_206 : decode (mB Lw_comes) 206 = .ok (.if_icmp .eq 5, 3) := by decide +kernel
theorem dLw_comes_209 : decode (mB Lw_comes) 209 = .ok (.iconst (-1), 1) := by decide +kernel
theorem dLw_comes_210 : decode (mB Lw_comes) 210 = .ok (.ireturn, 1) := by decide +kernel
theorem dLw_comes_211 : decode (mB Lw_comes) 211 = .ok (.iload 5, 2) := by decide +kernel
theorem dLw_comes_213 : decode (mB Lw_comes) 213 = .ok (.bipush 64, 2) := by decide +kernel
theorem dLw_comes_215 : decode (mB Lw_comes) 215 = .ok (.iload 7, 2) := by decide +kernel
theorem dLw_comes_217 : decode (mB Lw_comes) 217 = .ok (.ifCond .eq 7, 3) := by decide +kernel
theorem dLw_comes_220 : decode (mB Lw_comes) 220 = .ok (.aload_n 1, 1) := by decide +kernel
theorem dLw_comes_221 : decode (mB Lw_comes) 221 = .ok (.goto 4, 3) := by decide +kernel
theorem dLw_comes_224 : decode (mB Lw_comes) 224 = .ok (.aload_n 2, 1) := by decide +kernel
theorem dLw_comes_225 : decode (mB Lw_comes) 225 = .ok (.iload 5, 2) := by decide +kernel
theorem dLw_comes_227 : decode (mB Lw_comes) 227 = .ok (.invokestatic 86, 3) := by decide +kernel
theorem dLw_comes_230 : decode (mB Lw_comes) 230 = .ok (.imul, 1) := by decide +kernel
theorem dLw_comes_231 : decode (mB Lw_comes) 231 = .ok (.iadd, 1) := by decide +kernel
theorem dLw_comes_232 : decode (mB Lw_comes) 232 = .ok (.sipush 8192, 3) := by decide +kernel
theorem dLw_comes_235 : decode (mB Lw_comes) 235 = .ok (.iload 7, 2) := by decide +kernel
theorem dLw_comes_237 : decode (mB Lw_comes) 237 = .ok (.ifCond .eq 7, 3) := by decide +kernel
theorem dLw_comes_240 : decode (mB Lw_comes) 240 = .ok (.aload_n 1, 1) := by decide +kernel
theorem dLw_comes_241 : decode (mB Lw_comes) 241 = .ok (.goto 4, 3) := by decide +kernel
theorem dLw_comes_244 : decode (mB Lw_comes) 244 = .ok (.aload_n 2, 1) := by decide +kernel
theorem dLw_comes_245 : decode (mB Lw_comes) 245 = .ok (.iload 5, 2) := by decide +kernel
theorem dLw_comes_247 : decode (mB Lw_comes) 247 = .ok (.invokestatic 40, 3) := by decide +kernel
theorem dLw_comes_250 : decode (mB Lw_comes) 250 = .ok (.iconst 1, 1) := by decide +kernel
theorem dLw_comes_251 : decode (mB Lw_comes) 251 = .ok (.iadd, 1) := by decide +kernel
theorem dLw_comes_252 : decode (mB Lw_comes) 252 = .ok (.imul, 1) := by decide +kernel
theorem dLw_comes_253 : decode (mB Lw_comes) 253 = .ok (.iadd, 1) := by decide +kernel
theorem dLw_comes_254 : decode (mB Lw_comes) 254 = .ok (.ireturn, 1) := by decide +kernel
def w_Lw_comes_204 (R : Int32 → tpH → Prop) (K211 : (Option Nat) → (Option Nat) → Int32 → Int32 → tpH → Prop) (x1 : Option Nat) (x2 : Option Nat) (x5 : Int32) (x7 : Int32) (t0 : Int32) (h : tpH) : Prop :=
  (t0 = x7 → (K211 x1 x2 x5 x7 h)) ∧ (¬ t0 = x7 → (R (-1 : Int32) h))
def w_Lw_comes_165 (R : Int32 → tpH → Prop) (K211 : (Option Nat) → (Option Nat) → Int32 → Int32 → tpH → Prop) (x1 : Option Nat) (x2 : Option Nat) (x3 : Option Nat) (x4 : Option Nat) (x5 : Int32) (x7 : Int32) (t0 : Option Nat) (t1 : Option Nat) (h : tpH) : Prop :=
  w_Lw_isTouched t1 t0 x5 h (fun v2 h1 => (¬ v2 = 0 → (w_Lw_adds x3 ((8 : Int32) * x5) h1 (fun h4 => ∃ a5, x4 = some a5 ∧ hT h4 a5 = 15 ∧ (vp_in (0 : Int32) (hL h4 a5) ∧ (((hI h4 a5 (0 : Int32).toNatClampNeg) = 0 → (K211 x1 x2 x5 x7 h4)) ∧ (¬ (hI h4 a5 (0 : Int32).toNatClampNeg) = 0 → (vp_in (0 : Int32) (hL h4 a5) ∧ ((¬ (hI h4 a5 (0 : Int32).toNatClampNeg) = (1 : Int32) → (w_Lw_comes_204 R K211 x1 x2 x5 x7 (0 : Int32) h4)) ∧ ((hI h4 a5 (0 : Int32).toNatClampNeg) = (1 : Int32) → (w_Lw_comes_204 R K211 x1 x2 x5 x7 (1 : Int32) h4)))))))))) ∧ (v2 = 0 → (R (-1 : Int32) h1)))
def w_Lw_comes_245 (R : Int32 → tpH → Prop) (x5 : Int32) (t0 : Option Nat) (t1 : Int32) (t2 : Int32) (h : tpH) : Prop :=
  w_Lw_parentOf t0 x5 h (fun v2 h1 => R (t2 + (t1 * (v2 + (1 : Int32)))) h1)
def w_Lw_comes_225 (R : Int32 → tpH → Prop) (x1 : Option Nat) (x2 : Option Nat) (x5 : Int32) (x7 : Int32) (t0 : Option Nat) (t1 : Int32) (t2 : Int32) (h : tpH) : Prop :=
  w_Lw_valueOf t0 x5 h (fun v2 h1 => (x7 = 0 → (w_Lw_comes_245 R x5 x2 (8192 : Int32) (t2 + (t1 * v2)) h1)) ∧ (¬ x7 = 0 → (w_Lw_comes_245 R x5 x1 (8192 : Int32) (t2 + (t1 * v2)) h1)))
def w_Lw_comes_211 (R : Int32 → tpH → Prop) (x1 : Option Nat) (x2 : Option Nat) (x5 : Int32) (x7 : Int32) (h : tpH) : Prop :=
  (x7 = 0 → (w_Lw_comes_225 R x1 x2 x5 x7 x2 (64 : Int32) x5 h)) ∧ (¬ x7 = 0 → (w_Lw_comes_225 R x1 x2 x5 x7 x1 (64 : Int32) x5 h))
def w_Lw_comes_149 (R : Int32 → tpH → Prop) (x0 : Option Nat) (x1 : Option Nat) (x2 : Option Nat) (x3 : Option Nat) (x4 : Option Nat) (x5 : Int32) (x6 : Int32) (x7 : Int32) (h : tpH) : Prop :=
  (x6 = 0 → (w_Lw_comes_211 R x1 x2 x5 x7 h)) ∧ (¬ x6 = 0 → ((x7 = 0 → (w_Lw_comes_165 R (w_Lw_comes_211 R) x1 x2 x3 x4 x5 x7 x2 x0 h)) ∧ (¬ x7 = 0 → (w_Lw_comes_165 R (w_Lw_comes_211 R) x1 x2 x3 x4 x5 x7 x1 x0 h))))
def w_Lw_comes_60 (R : Int32 → tpH → Prop) (x0 : Option Nat) (x1 : Option Nat) (x2 : Option Nat) (x3 : Option Nat) (x4 : Option Nat) (x5 : Int32) (x6 : Int32) (x7 : Int32) (x8 : Int32) (h : tpH) : Prop :=
  (x7 = 0 → (w_Lw_comes_149 R x0 x1 x2 x3 x4 x5 x6 x7 h)) ∧ (¬ x7 = 0 → ((x8 = 0 → (w_Lw_comes_149 R x0 x1 x2 x3 x4 x5 x6 x7 h)) ∧ (¬ x8 = 0 → (w_Lw_valueOf x0 x5 h (fun v4 h3 => w_Lw_valueOf x1 x5 h3 (fun v6 h5 => w_Lw_valueOf x2 x5 h5 (fun v8 h7 => w_Lw_decided x3 x4 (1 : Int32) x5 v4 v6 v8 (-1 : Int32) h7 (fun v10 h9 => w_Lw_parentOf x0 x5 h9 (fun v12 h11 => w_Lw_parentOf x1 x5 h11 (fun v14 h13 => w_Lw_parentOf x2 x5 h13 (fun v16 h15 => w_Lw_decided x3 x4 (2 : Int32) x5 v12 v14 v16 (-2 : Int32) h15 (fun v18 h17 => R ((x5 + ((64 : Int32) * v10)) + ((8192 : Int32) * (v18 + (1 : Int32)))) h17))))))))))))
def w_Lw_comes_46 (R : Int32 → tpH → Prop) (x0 : Option Nat) (x1 : Option Nat) (x2 : Option Nat) (x3 : Option Nat) (x4 : Option Nat) (x5 : Int32) (x6 : Int32) (x7 : Int32) (t0 : Int32) (h : tpH) : Prop :=
  (¬ x7 = 0 → (w_Lw_comes_60 R x0 x1 x2 x3 x4 x5 x6 x7 t0 h)) ∧ (x7 = 0 → ((¬ t0 = 0 → (w_Lw_comes_60 R x0 x1 x2 x3 x4 x5 x6 x7 t0 h)) ∧ (t0 = 0 → (R (-1 : Int32) h))))
def w_Lw_comes_30 (R : Int32 → tpH → Prop) (x0 : Option Nat) (x1 : Option Nat) (x2 : Option Nat) (x3 : Option Nat) (x4 : Option Nat) (x5 : Int32) (x6 : Int32) (t0 : Int32) (h : tpH) : Prop :=
  w_Lw_place x2 x5 h (fun v2 h1 => (v2 < 0 → (w_Lw_comes_46 R x0 x1 x2 x3 x4 x5 x6 t0 (0 : Int32) h1)) ∧ (¬ v2 < 0 → (w_Lw_comes_46 R x0 x1 x2 x3 x4 x5 x6 t0 (1 : Int32) h1)))
def w_Lw_comes_14 (R : Int32 → tpH → Prop) (x0 : Option Nat) (x1 : Option Nat) (x2 : Option Nat) (x3 : Option Nat) (x4 : Option Nat) (x5 : Int32) (t0 : Int32) (h : tpH) : Prop :=
  w_Lw_place x1 x5 h (fun v2 h1 => (v2 < 0 → (w_Lw_comes_30 R x0 x1 x2 x3 x4 x5 t0 (0 : Int32) h1)) ∧ (¬ v2 < 0 → (w_Lw_comes_30 R x0 x1 x2 x3 x4 x5 t0 (1 : Int32) h1)))
def w_Lw_comes (x0 : Option Nat) (x1 : Option Nat) (x2 : Option Nat) (x3 : Option Nat) (x4 : Option Nat) (x5 : Int32) (h : tpH) (R : Int32 → tpH → Prop) : Prop :=
  w_Lw_place x0 x5 h (fun v2 h1 => (v2 < 0 → (w_Lw_comes_14 R x0 x1 x2 x3 x4 x5 (0 : Int32) h1)) ∧ (¬ v2 < 0 → (w_Lw_comes_14 R x0 x1 x2 x3 x4 x5 (1 : Int32) h1)))
theorem s_Lw_comes_204 {h0 : tpH} {av : List tpV} {R : Int32 → tpH → Prop} {K211 : (Option Nat) → (Option Nat) → Int32 → Int32 → tpH → Prop} (k211 : ∀ (x1 : Option Nat) (x2 : Option Nat) (x5 : Int32) (x7 : Int32) (h : tpH), K211 x1 x2 x5 x7 h → tpR Lw_comes 4 h0 av (tpOi R (fun _ _ => False)) 211 [none, some (vR x1), some (vR x2), none, none, some (vI x5), none, some (vI x7), none, none, none] [] h) : ∀ (x1 : Option Nat) (x2 : Option Nat) (x5 : Int32) (x7 : Int32) (t0 : Int32) (h : tpH), w_Lw_comes_204 R K211 x1 x2 x5 x7 t0 h → tpR Lw_comes 4 h0 av (tpOi R (fun _ _ => False)) 204 [none, some (vR x1), some (vR x2), none, none, some (vI x5), none, some (vI x7), none, none, none] [vI t0] h := by
  intro x1 x2 x5 x7 t0 h hw
  unfold w_Lw_comes_204 at hw
  refine tq_iload dLw_comes_204 rfl ?_
  refine tq_icmpeq (tgt := 211) dLw_comes_206 (by decide) (fun c1 => ?_) (fun c1 => ?_)
  · have hw := hw.1 c1
    refine tpR.fo (ls' := [none, some (vR x1), some (vR x2), none, none, some (vI x5), none, some (vI x7), none, none, none]) ?_ (And.intro rfl (And.intro rfl (And.intro rfl (And.intro rfl trivial))))
    exact k211 _ _ _ _ _ hw
  · have hw := hw.2 c1
    refine tq_iconst (v := (-1 : Int32)) dLw_comes_209 tni_m1 ?_
    exact tq_iret rfl rfl dLw_comes_210 hw
theorem s_Lw_comes_165 {h0 : tpH} {av : List tpV} {R : Int32 → tpH → Prop} {K211 : (Option Nat) → (Option Nat) → Int32 → Int32 → tpH → Prop} (k211 : ∀ (x1 : Option Nat) (x2 : Option Nat) (x5 : Int32) (x7 : Int32) (h : tpH), K211 x1 x2 x5 x7 h → tpR Lw_comes 4 h0 av (tpOi R (fun _ _ => False)) 211 [none, some (vR x1), some (vR x2), none, none, some (vI x5), none, some (vI x7), none, none, none] [] h) : ∀ (x1 : Option Nat) (x2 : Option Nat) (x3 : Option Nat) (x4 : Option Nat) (x5 : Int32) (x7 : Int32) (t0 : Option Nat) (t1 : Option Nat) (h : tpH), w_Lw_comes_165 R K211 x1 x2 x3 x4 x5 x7 t0 t1 h → tpR Lw_comes 4 h0 av (tpOi R (fun _ _ => False)) 165 [none, some (vR x1), some (vR x2), some (vR x3), some (vR x4), some (vI x5), none, some (vI x7), none, none, none] [vR t0, vR t1] h := by
  intro x1 x2 x3 x4 x5 x7 t0 t1 h hw
  unfold w_Lw_comes_165 at hw
  refine tq_iload dLw_comes_165 rfl ?_
  refine tq_callS ms_Lw_isTouched (dc := 3) (as := [vR t1, vR t0, vI x5]) (rest := []) kLw_97 (Nat.le_of_ble_eq_true rfl) (Nat.le_of_ble_eq_true rfl) rfl rfl (Nat.le_of_ble_eq_true rfl) dLw_comes_167 (s_Lw_isTouched hw) (fun _ _ hx => False.elim hx) (tk_i fun v2 h1 hw => ?_)
  refine tq_ifne (tgt := 175) dLw_comes_170 (by decide) (fun c3 => ?_) (fun c3 => ?_)
  · have hw := hw.1 c3
    refine tq_aload_n dLw_comes_175 rfl rfl ?_
    refine tq_bipush (v := (8 : Int32)) dLw_comes_176 tnb_8 ?_
    refine tq_iload dLw_comes_178 rfl ?_
    refine tq_imul dLw_comes_180 ?_
    refine tq_callS ms_Lw_adds (dc := 0) (as := [vR x3, vI ((8 : Int32) * x5)]) (rest := []) kLw_89 (Nat.le_of_ble_eq_true rfl) (Nat.le_of_ble_eq_true rfl) rfl rfl (Nat.le_of_ble_eq_true rfl) dLw_comes_181 (s_Lw_adds hw) (fun _ _ hx => False.elim hx) (tk_v fun h4 hw => ?_)
    refine tq_aload dLw_comes_184 rfl ?_
    refine tq_iconst (v := (0 : Int32)) dLw_comes_186 tni_0 ?_
    obtain ⟨a5, e6, f7, hw⟩ := hw
    obtain ⟨f8, hw⟩ := hw
    refine te_iald dLw_comes_187 e6 (Or.inl f7) f8 ?_
    refine tq_ifeq (tgt := 211) dLw_comes_188 (by decide) (fun c9 => ?_) (fun c9 => ?_)
    · have hw := hw.1 c9
      refine tpR.fo (ls' := [none, some (vR x1), some (vR x2), none, none, some (vI x5), none, some (vI x7), none, none, none]) ?_ (And.intro rfl (And.intro rfl (And.intro rfl (And.intro rfl trivial))))
      exact k211 _ _ _ _ _ hw
    · have hw := hw.2 c9
      refine tq_aload dLw_comes_191 rfl ?_
      refine tq_iconst (v := (0 : Int32)) dLw_comes_193 tni_0 ?_
      obtain ⟨f10, hw⟩ := hw
      refine te_iald dLw_comes_194 e6 (Or.inl f7) f10 ?_
      refine tq_iconst (v := (1 : Int32)) dLw_comes_195 tni_1 ?_
      refine tq_icmpne (tgt := 203) dLw_comes_196 (by decide) (fun c11 => ?_) (fun c11 => ?_)
      · have hw := hw.1 c11
        refine tq_iconst (v := (0 : Int32)) dLw_comes_203 tni_0 ?_
        refine tpR.fo (ls' := [none, some (vR x1), some (vR x2), none, none, some (vI x5), none, some (vI x7), none, none, none]) ?_ (And.intro rfl (And.intro rfl (And.intro rfl (And.intro rfl trivial))))
        exact s_Lw_comes_204 k211 _ _ _ _ _ _ hw
      · have hw := hw.2 c11
        refine tq_iconst (v := (1 : Int32)) dLw_comes_199 tni_1 ?_
        refine tq_goto (tgt := 204) dLw_comes_200 (by decide) ?_
        refine tpR.fo (ls' := [none, some (vR x1), some (vR x2), none, none, some (vI x5), none, some (vI x7), none, none, none]) ?_ (And.intro rfl (And.intro rfl (And.intro rfl (And.intro rfl trivial))))
        exact s_Lw_comes_204 k211 _ _ _ _ _ _ hw
  · have hw := hw.2 c3
    refine tq_iconst (v := (-1 : Int32)) dLw_comes_173 tni_m1 ?_
    exact tq_iret rfl rfl dLw_comes_174 hw
theorem s_Lw_comes_245 {h0 : tpH} {av : List tpV} {R : Int32 → tpH → Prop} : ∀ (x5 : Int32) (t0 : Option Nat) (t1 : Int32) (t2 : Int32) (h : tpH), w_Lw_comes_245 R x5 t0 t1 t2 h → tpR Lw_comes 4 h0 av (tpOi R (fun _ _ => False)) 245 [none, none, none, none, none, some (vI x5), none, none, none, none, none] [vR t0, vI t1, vI t2] h := by
  intro x5 t0 t1 t2 h hw
  unfold w_Lw_comes_245 at hw
  refine tq_iload dLw_comes_245 rfl ?_
  refine tq_callS ms_Lw_parentOf (dc := 2) (as := [vR t0, vI x5]) (rest := [vI t1, vI t2]) kLw_40 (Nat.le_of_ble_eq_true rfl) (Nat.le_of_ble_eq_true rfl) rfl rfl (Nat.le_of_ble_eq_true rfl) dLw_comes_247 (s_Lw_parentOf hw) (fun _ _ hx => False.elim hx) (tk_i fun v2 h1 hw => ?_)
  refine tq_iconst (v := (1 : Int32)) dLw_comes_250 tni_1 ?_
  refine tq_iadd dLw_comes_251 ?_
  refine tq_imul dLw_comes_252 ?_
  refine tq_iadd dLw_comes_253 ?_
  exact tq_iret rfl rfl dLw_comes_254 hw
theorem s_Lw_comes_225 {h0 : tpH} {av : List tpV} {R : Int32 → tpH → Prop} : ∀ (x1 : Option Nat) (x2 : Option Nat) (x5 : Int32) (x7 : Int32) (t0 : Option Nat) (t1 : Int32) (t2 : Int32) (h : tpH), w_Lw_comes_225 R x1 x2 x5 x7 t0 t1 t2 h → tpR Lw_comes 4 h0 av (tpOi R (fun _ _ => False)) 225 [none, some (vR x1), some (vR x2), none, none, some (vI x5), none, some (vI x7), none, none, none] [vR t0, vI t1, vI t2] h := by
  intro x1 x2 x5 x7 t0 t1 t2 h hw
  unfold w_Lw_comes_225 at hw
  refine tq_iload dLw_comes_225 rfl ?_
  refine tq_callS ms_Lw_valueOf (dc := 2) (as := [vR t0, vI x5]) (rest := [vI t1, vI t2]) kLw_86 (Nat.le_of_ble_eq_true rfl) (Nat.le_of_ble_eq_true rfl) rfl rfl (Nat.le_of_ble_eq_true rfl) dLw_comes_227 (s_Lw_valueOf hw) (fun _ _ hx => False.elim hx) (tk_i fun v2 h1 hw => ?_)
  refine tq_imul dLw_comes_230 ?_
  refine tq_iadd dLw_comes_231 ?_
  refine tq_sipush (v := (8192 : Int32)) dLw_comes_232 tns_8192 ?_
  refine tq_iload dLw_comes_235 rfl ?_
  refine tq_ifeq (tgt := 244) dLw_comes_237 (by decide) (fun c3 => ?_) (fun c3 => ?_)
  · have hw := hw.1 c3
    refine tq_aload_n dLw_comes_244 rfl rfl ?_
    refine tpR.fo (ls' := [none, none, none, none, none, some (vI x5), none, none, none, none, none]) ?_ (And.intro rfl trivial)
    exact s_Lw_comes_245 _ _ _ _ _ hw
  · have hw := hw.2 c3
    refine tq_aload_n dLw_comes_240 rfl rfl ?_
    refine tq_goto (tgt := 245) dLw_comes_241 (by decide) ?_
    refine tpR.fo (ls' := [none, none, none, none, none, some (vI x5), none, none, none, none, none]) ?_ (And.intro rfl trivial)
    exact s_Lw_comes_245 _ _ _ _ _ hw
theorem s_Lw_comes_211 {h0 : tpH} {av : List tpV} {R : Int32 → tpH → Prop} : ∀ (x1 : Option Nat) (x2 : Option Nat) (x5 : Int32) (x7 : Int32) (h : tpH), w_Lw_comes_211 R x1 x2 x5 x7 h → tpR Lw_comes 4 h0 av (tpOi R (fun _ _ => False)) 211 [none, some (vR x1), some (vR x2), none, none, some (vI x5), none, some (vI x7), none, none, none] [] h := by
  intro x1 x2 x5 x7 h hw
  unfold w_Lw_comes_211 at hw
  refine tq_iload dLw_comes_211 rfl ?_
  refine tq_bipush (v := (64 : Int32)) dLw_comes_213 tnb_64 ?_
  refine tq_iload dLw_comes_215 rfl ?_
  refine tq_ifeq (tgt := 224) dLw_comes_217 (by decide) (fun c1 => ?_) (fun c1 => ?_)
  · have hw := hw.1 c1
    refine tq_aload_n dLw_comes_224 rfl rfl ?_
    refine tpR.fo (ls' := [none, some (vR x1), some (vR x2), none, none, some (vI x5), none, some (vI x7), none, none, none]) ?_ (And.intro rfl (And.intro rfl (And.intro rfl (And.intro rfl trivial))))
    exact s_Lw_comes_225 _ _ _ _ _ _ _ _ hw
  · have hw := hw.2 c1
    refine tq_aload_n dLw_comes_220 rfl rfl ?_
    refine tq_goto (tgt := 225) dLw_comes_221 (by decide) ?_
    refine tpR.fo (ls' := [none, some (vR x1), some (vR x2), none, none, some (vI x5), none, some (vI x7), none, none, none]) ?_ (And.intro rfl (And.intro rfl (And.intro rfl (And.intro rfl trivial))))
    exact s_Lw_comes_225 _ _ _ _ _ _ _ _ hw
theorem s_Lw_comes_149 {h0 : tpH} {av : List tpV} {R : Int32 → tpH → Prop} : ∀ (x0 : Option Nat) (x1 : Option Nat) (x2 : Option Nat) (x3 : Option Nat) (x4 : Option Nat) (x5 : Int32) (x6 : Int32) (x7 : Int32) (h : tpH), w_Lw_comes_149 R x0 x1 x2 x3 x4 x5 x6 x7 h → tpR Lw_comes 4 h0 av (tpOi R (fun _ _ => False)) 149 [some (vR x0), some (vR x1), some (vR x2), some (vR x3), some (vR x4), some (vI x5), some (vI x6), some (vI x7), none, none, none] [] h := by
  intro x0 x1 x2 x3 x4 x5 x6 x7 h hw
  unfold w_Lw_comes_149 at hw
  refine tq_iload dLw_comes_149 rfl ?_
  refine tq_ifeq (tgt := 211) dLw_comes_151 (by decide) (fun c1 => ?_) (fun c1 => ?_)
  · have hw := hw.1 c1
    refine tpR.fo (ls' := [none, some (vR x1), some (vR x2), none, none, some (vI x5), none, some (vI x7), none, none, none]) ?_ (And.intro rfl (And.intro rfl (And.intro rfl (And.intro rfl trivial))))
    exact s_Lw_comes_211 _ _ _ _ _ hw
  · have hw := hw.2 c1
    refine tq_aload_n dLw_comes_154 rfl rfl ?_
    refine tq_iload dLw_comes_155 rfl ?_
    refine tq_ifeq (tgt := 164) dLw_comes_157 (by decide) (fun c2 => ?_) (fun c2 => ?_)
    · have hw := hw.1 c2
      refine tq_aload_n dLw_comes_164 rfl rfl ?_
      refine tpR.fo (ls' := [none, some (vR x1), some (vR x2), some (vR x3), some (vR x4), some (vI x5), none, some (vI x7), none, none, none]) ?_ (And.intro rfl (And.intro rfl (And.intro rfl (And.intro rfl (And.intro rfl (And.intro rfl trivial))))))
      exact s_Lw_comes_165 (s_Lw_comes_211) _ _ _ _ _ _ _ _ _ hw
    · have hw := hw.2 c2
      refine tq_aload_n dLw_comes_160 rfl rfl ?_
      refine tq_goto (tgt := 165) dLw_comes_161 (by decide) ?_
      refine tpR.fo (ls' := [none, some (vR x1), some (vR x2), some (vR x3), some (vR x4), some (vI x5), none, some (vI x7), none, none, none]) ?_ (And.intro rfl (And.intro rfl (And.intro rfl (And.intro rfl (And.intro rfl (And.intro rfl trivial))))))
      exact s_Lw_comes_165 (s_Lw_comes_211) _ _ _ _ _ _ _ _ _ hw
theorem s_Lw_comes_60 {h0 : tpH} {av : List tpV} {R : Int32 → tpH → Prop} : ∀ (x0 : Option Nat) (x1 : Option Nat) (x2 : Option Nat) (x3 : Option Nat) (x4 : Option Nat) (x5 : Int32) (x6 : Int32) (x7 : Int32) (x8 : Int32) (h : tpH), w_Lw_comes_60 R x0 x1 x2 x3 x4 x5 x6 x7 x8 h → tpR Lw_comes 4 h0 av (tpOi R (fun _ _ => False)) 60 [some (vR x0), some (vR x1), some (vR x2), some (vR x3), some (vR x4), some (vI x5), some (vI x6), some (vI x7), some (vI x8), none, none] [] h := by
  intro x0 x1 x2 x3 x4 x5 x6 x7 x8 h hw
  unfold w_Lw_comes_60 at hw
  refine tq_iload dLw_comes_60 rfl ?_
  refine tq_ifeq (tgt := 149) dLw_comes_62 (by decide) (fun c1 => ?_) (fun c1 => ?_)
  · have hw := hw.1 c1
    refine tpR.fo (ls' := [some (vR x0), some (vR x1), some (vR x2), some (vR x3), some (vR x4), some (vI x5), some (vI x6), some (vI x7), none, none, none]) ?_ (And.intro rfl (And.intro rfl (And.intro rfl (And.intro rfl (And.intro rfl (And.intro rfl (And.intro rfl (And.intro rfl trivial))))))))
    exact s_Lw_comes_149 _ _ _ _ _ _ _ _ _ hw
  · have hw := hw.2 c1
    refine tq_iload dLw_comes_65 rfl ?_
    refine tq_ifeq (tgt := 149) dLw_comes_67 (by decide) (fun c2 => ?_) (fun c2 => ?_)
    · have hw := hw.1 c2
      refine tpR.fo (ls' := [some (vR x0), some (vR x1), some (vR x2), some (vR x3), some (vR x4), some (vI x5), some (vI x6), some (vI x7), none, none, none]) ?_ (And.intro rfl (And.intro rfl (And.intro rfl (And.intro rfl (And.intro rfl (And.intro rfl (And.intro rfl (And.intro rfl trivial))))))))
      exact s_Lw_comes_149 _ _ _ _ _ _ _ _ _ hw
    · have hw := hw.2 c2
      refine tq_aload_n dLw_comes_70 rfl rfl ?_
      refine tq_aload dLw_comes_71 rfl ?_
      refine tq_iconst (v := (1 : Int32)) dLw_comes_73 tni_1 ?_
      refine tq_iload dLw_comes_74 rfl ?_
      refine tq_aload_n dLw_comes_76 rfl rfl ?_
      refine tq_iload dLw_comes_77 rfl ?_
      refine tq_callS ms_Lw_valueOf (dc := 2) (as := [vR x0, vI x5]) (rest := [vI x5, vI (1 : Int32), vR x4, vR x3]) kLw_86 (Nat.le_of_ble_eq_true rfl) (Nat.le_of_ble_eq_true rfl) rfl rfl (Nat.le_of_ble_eq_true rfl) dLw_comes_79 (s_Lw_valueOf hw) (fun _ _ hx => False.elim hx) (tk_i fun v4 h3 hw => ?_)
      refine tq_aload_n dLw_comes_82 rfl rfl ?_
      refine tq_iload dLw_comes_83 rfl ?_
      refine tq_callS ms_Lw_valueOf (dc := 2) (as := [vR x1, vI x5]) (rest := [vI v4, vI x5, vI (1 : Int32), vR x4, vR x3]) kLw_86 (Nat.le_of_ble_eq_true rfl) (Nat.le_of_ble_eq_true rfl) rfl rfl (Nat.le_of_ble_eq_true rfl) dLw_comes_85 (s_Lw_valueOf hw) (fun _ _ hx => False.elim hx) (tk_i fun v6 h5 hw => ?_)
      refine tq_aload_n dLw_comes_88 rfl rfl ?_
      refine tq_iload dLw_comes_89 rfl ?_
      refine tq_callS ms_Lw_valueOf (dc := 2) (as := [vR x2, vI x5]) (rest := [vI v6, vI v4, vI x5, vI (1 : Int32), vR x4, vR x3]) kLw_86 (Nat.le_of_ble_eq_true rfl) (Nat.le_of_ble_eq_true rfl) rfl rfl (Nat.le_of_ble_eq_true rfl) dLw_comes_91 (s_Lw_valueOf hw) (fun _ _ hx => False.elim hx) (tk_i fun v8 h7 hw => ?_)
      refine tq_iconst (v := (-1 : Int32)) dLw_comes_94 tni_m1 ?_
      refine tq_callS ms_Lw_decided (dc := 1) (as := [vR x3, vR x4, vI (1 : Int32), vI x5, vI v4, vI v6, vI v8, vI (-1 : Int32)]) (rest := []) kLw_93 (Nat.le_of_ble_eq_true rfl) (Nat.le_of_ble_eq_true rfl) rfl rfl (Nat.le_of_ble_eq_true rfl) dLw_comes_95 (s_Lw_decided hw) (fun _ _ hx => False.elim hx) (tk_i fun v10 h9 hw => ?_)
      refine tq_istore (ls' := [some (vR x0), some (vR x1), some (vR x2), some (vR x3), some (vR x4), some (vI x5), some (vI x6), some (vI x7), some (vI x8), some (vI v10), none]) dLw_comes_98 (Nat.le_of_ble_eq_true rfl) rfl ?_
      refine tq_aload_n dLw_comes_100 rfl rfl ?_
      refine tq_aload dLw_comes_101 rfl ?_
      refine tq_iconst (v := (2 : Int32)) dLw_comes_103 tni_2 ?_
      refine tq_iload dLw_comes_104 rfl ?_
      refine tq_aload_n dLw_comes_106 rfl rfl ?_
      refine tq_iload dLw_comes_107 rfl ?_
      refine tq_callS ms_Lw_parentOf (dc := 2) (as := [vR x0, vI x5]) (rest := [vI x5, vI (2 : Int32), vR x4, vR x3]) kLw_40 (Nat.le_of_ble_eq_true rfl) (Nat.le_of_ble_eq_true rfl) rfl rfl (Nat.le_of_ble_eq_true rfl) dLw_comes_109 (s_Lw_parentOf hw) (fun _ _ hx => False.elim hx) (tk_i fun v12 h11 hw => ?_)
      refine tq_aload_n dLw_comes_112 rfl rfl ?_
      refine tq_iload dLw_comes_113 rfl ?_
      refine tq_callS ms_Lw_parentOf (dc := 2) (as := [vR x1, vI x5]) (rest := [vI v12, vI x5, vI (2 : Int32), vR x4, vR x3]) kLw_40 (Nat.le_of_ble_eq_true rfl) (Nat.le_of_ble_eq_true rfl) rfl rfl (Nat.le_of_ble_eq_true rfl) dLw_comes_115 (s_Lw_parentOf hw) (fun _ _ hx => False.elim hx) (tk_i fun v14 h13 hw => ?_)
      refine tq_aload_n dLw_comes_118 rfl rfl ?_
      refine tq_iload dLw_comes_119 rfl ?_
      refine tq_callS ms_Lw_parentOf (dc := 2) (as := [vR x2, vI x5]) (rest := [vI v14, vI v12, vI x5, vI (2 : Int32), vR x4, vR x3]) kLw_40 (Nat.le_of_ble_eq_true rfl) (Nat.le_of_ble_eq_true rfl) rfl rfl (Nat.le_of_ble_eq_true rfl) dLw_comes_121 (s_Lw_parentOf hw) (fun _ _ hx => False.elim hx) (tk_i fun v16 h15 hw => ?_)
      refine tq_bipush (v := (-2 : Int32)) dLw_comes_124 tnb_m2 ?_
      refine tq_callS ms_Lw_decided (dc := 1) (as := [vR x3, vR x4, vI (2 : Int32), vI x5, vI v12, vI v14, vI v16, vI (-2 : Int32)]) (rest := []) kLw_93 (Nat.le_of_ble_eq_true rfl) (Nat.le_of_ble_eq_true rfl) rfl rfl (Nat.le_of_ble_eq_true rfl) dLw_comes_126 (s_Lw_decided hw) (fun _ _ hx => False.elim hx) (tk_i fun v18 h17 hw => ?_)
      refine tq_istore (ls' := [some (vR x0), some (vR x1), some (vR x2), some (vR x3), some (vR x4), some (vI x5), some (vI x6), some (vI x7), some (vI x8), some (vI v10), some (vI v18)]) dLw_comes_129 (Nat.le_of_ble_eq_true rfl) rfl ?_
      refine tq_iload dLw_comes_131 rfl ?_
      refine tq_bipush (v := (64 : Int32)) dLw_comes_133 tnb_64 ?_
      refine tq_iload dLw_comes_135 rfl ?_
      refine tq_imul dLw_comes_137 ?_
      refine tq_iadd dLw_comes_138 ?_
      refine tq_sipush (v := (8192 : Int32)) dLw_comes_139 tns_8192 ?_
      refine tq_iload dLw_comes_142 rfl ?_
      refine tq_iconst (v := (1 : Int32)) dLw_comes_144 tni_1 ?_
      refine tq_iadd dLw_comes_145 ?_
      refine tq_imul dLw_comes_146 ?_
      refine tq_iadd dLw_comes_147 ?_
      exact tq_iret rfl rfl dLw_comes_148 hw
theorem s_Lw_comes_46 {h0 : tpH} {av : List tpV} {R : Int32 → tpH → Prop} : ∀ (x0 : Option Nat) (x1 : Option Nat) (x2 : Option Nat) (x3 : Option Nat) (x4 : Option Nat) (x5 : Int32) (x6 : Int32) (x7 : Int32) (t0 : Int32) (h : tpH), w_Lw_comes_46 R x0 x1 x2 x3 x4 x5 x6 x7 t0 h → tpR Lw_comes 4 h0 av (tpOi R (fun _ _ => False)) 46 [some (vR x0), some (vR x1), some (vR x2), some (vR x3), some (vR x4), some (vI x5), some (vI x6), some (vI x7), none, none, none] [vI t0] h := by
  intro x0 x1 x2 x3 x4 x5 x6 x7 t0 h hw
  unfold w_Lw_comes_46 at hw
  refine tq_istore (ls' := [some (vR x0), some (vR x1), some (vR x2), some (vR x3), some (vR x4), some (vI x5), some (vI x6), some (vI x7), some (vI t0), none, none]) dLw_comes_46 (Nat.le_of_ble_eq_true rfl) rfl ?_
  refine tq_iload dLw_comes_48 rfl ?_
  refine tq_ifne (tgt := 60) dLw_comes_50 (by decide) (fun c1 => ?_) (fun c1 => ?_)
  · have hw := hw.1 c1
    refine tpR.fo (ls' := [some (vR x0), some (vR x1), some (vR x2), some (vR x3), some (vR x4), some (vI x5), some (vI x6), some (vI x7), some (vI t0), none, none]) ?_ (And.intro rfl (And.intro rfl (And.intro rfl (And.intro rfl (And.intro rfl (And.intro rfl (And.intro rfl (And.intro rfl (And.intro rfl trivial)))))))))
    exact s_Lw_comes_60 _ _ _ _ _ _ _ _ _ _ hw
  · have hw := hw.2 c1
    refine tq_iload dLw_comes_53 rfl ?_
    refine tq_ifne (tgt := 60) dLw_comes_55 (by decide) (fun c2 => ?_) (fun c2 => ?_)
    · have hw := hw.1 c2
      refine tpR.fo (ls' := [some (vR x0), some (vR x1), some (vR x2), some (vR x3), some (vR x4), some (vI x5), some (vI x6), some (vI x7), some (vI t0), none, none]) ?_ (And.intro rfl (And.intro rfl (And.intro rfl (And.intro rfl (And.intro rfl (And.intro rfl (And.intro rfl (And.intro rfl (And.intro rfl trivial)))))))))
      exact s_Lw_comes_60 _ _ _ _ _ _ _ _ _ _ hw
    · have hw := hw.2 c2
      refine tq_iconst (v := (-1 : Int32)) dLw_comes_58 tni_m1 ?_
      exact tq_iret rfl rfl dLw_comes_59 hw
theorem s_Lw_comes_30 {h0 : tpH} {av : List tpV} {R : Int32 → tpH → Prop} : ∀ (x0 : Option Nat) (x1 : Option Nat) (x2 : Option Nat) (x3 : Option Nat) (x4 : Option Nat) (x5 : Int32) (x6 : Int32) (t0 : Int32) (h : tpH), w_Lw_comes_30 R x0 x1 x2 x3 x4 x5 x6 t0 h → tpR Lw_comes 4 h0 av (tpOi R (fun _ _ => False)) 30 [some (vR x0), some (vR x1), some (vR x2), some (vR x3), some (vR x4), some (vI x5), some (vI x6), none, none, none, none] [vI t0] h := by
  intro x0 x1 x2 x3 x4 x5 x6 t0 h hw
  unfold w_Lw_comes_30 at hw
  refine tq_istore (ls' := [some (vR x0), some (vR x1), some (vR x2), some (vR x3), some (vR x4), some (vI x5), some (vI x6), some (vI t0), none, none, none]) dLw_comes_30 (Nat.le_of_ble_eq_true rfl) rfl ?_
  refine tq_aload_n dLw_comes_32 rfl rfl ?_
  refine tq_iload dLw_comes_33 rfl ?_
  refine tq_callS ms_Lw_place (dc := 1) (as := [vR x2, vI x5]) (rest := []) kLw_13 (Nat.le_of_ble_eq_true rfl) (Nat.le_of_ble_eq_true rfl) rfl rfl (Nat.le_of_ble_eq_true rfl) dLw_comes_35 (s_Lw_place hw) (fun _ _ hx => False.elim hx) (tk_i fun v2 h1 hw => ?_)
  refine tq_iflt (tgt := 45) dLw_comes_38 (by decide) (fun c3 => ?_) (fun c3 => ?_)
  · have hw := hw.1 c3
    refine tq_iconst (v := (0 : Int32)) dLw_comes_45 tni_0 ?_
    refine tpR.fo (ls' := [some (vR x0), some (vR x1), some (vR x2), some (vR x3), some (vR x4), some (vI x5), some (vI x6), some (vI t0), none, none, none]) ?_ (And.intro rfl (And.intro rfl (And.intro rfl (And.intro rfl (And.intro rfl (And.intro rfl (And.intro rfl (And.intro rfl trivial))))))))
    exact s_Lw_comes_46 _ _ _ _ _ _ _ _ _ _ hw
  · have hw := hw.2 c3
    refine tq_iconst (v := (1 : Int32)) dLw_comes_41 tni_1 ?_
    refine tq_goto (tgt := 46) dLw_comes_42 (by decide) ?_
    refine tpR.fo (ls' := [some (vR x0), some (vR x1), some (vR x2), some (vR x3), some (vR x4), some (vI x5), some (vI x6), some (vI t0), none, none, none]) ?_ (And.intro rfl (And.intro rfl (And.intro rfl (And.intro rfl (And.intro rfl (And.intro rfl (And.intro rfl (And.intro rfl trivial))))))))
    exact s_Lw_comes_46 _ _ _ _ _ _ _ _ _ _ hw
theorem s_Lw_comes_14 {h0 : tpH} {av : List tpV} {R : Int32 → tpH → Prop} : ∀ (x0 : Option Nat) (x1 : Option Nat) (x2 : Option Nat) (x3 : Option Nat) (x4 : Option Nat) (x5 : Int32) (t0 : Int32) (h : tpH), w_Lw_comes_14 R x0 x1 x2 x3 x4 x5 t0 h → tpR Lw_comes 4 h0 av (tpOi R (fun _ _ => False)) 14 [some (vR x0), some (vR x1), some (vR x2), some (vR x3), some (vR x4), some (vI x5), none, none, none, none, none] [vI t0] h := by
  intro x0 x1 x2 x3 x4 x5 t0 h hw
  unfold w_Lw_comes_14 at hw
  refine tq_istore (ls' := [some (vR x0), some (vR x1), some (vR x2), some (vR x3), some (vR x4), some (vI x5), some (vI t0), none, none, none, none]) dLw_comes_14 (Nat.le_of_ble_eq_true rfl) rfl ?_
  refine tq_aload_n dLw_comes_16 rfl rfl ?_
  refine tq_iload dLw_comes_17 rfl ?_
  refine tq_callS ms_Lw_place (dc := 1) (as := [vR x1, vI x5]) (rest := []) kLw_13 (Nat.le_of_ble_eq_true rfl) (Nat.le_of_ble_eq_true rfl) rfl rfl (Nat.le_of_ble_eq_true rfl) dLw_comes_19 (s_Lw_place hw) (fun _ _ hx => False.elim hx) (tk_i fun v2 h1 hw => ?_)
  refine tq_iflt (tgt := 29) dLw_comes_22 (by decide) (fun c3 => ?_) (fun c3 => ?_)
  · have hw := hw.1 c3
    refine tq_iconst (v := (0 : Int32)) dLw_comes_29 tni_0 ?_
    refine tpR.fo (ls' := [some (vR x0), some (vR x1), some (vR x2), some (vR x3), some (vR x4), some (vI x5), some (vI t0), none, none, none, none]) ?_ (And.intro rfl (And.intro rfl (And.intro rfl (And.intro rfl (And.intro rfl (And.intro rfl (And.intro rfl trivial)))))))
    exact s_Lw_comes_30 _ _ _ _ _ _ _ _ _ hw
  · have hw := hw.2 c3
    refine tq_iconst (v := (1 : Int32)) dLw_comes_25 tni_1 ?_
    refine tq_goto (tgt := 30) dLw_comes_26 (by decide) ?_
    refine tpR.fo (ls' := [some (vR x0), some (vR x1), some (vR x2), some (vR x3), some (vR x4), some (vI x5), some (vI t0), none, none, none, none]) ?_ (And.intro rfl (And.intro rfl (And.intro rfl (And.intro rfl (And.intro rfl (And.intro rfl (And.intro rfl trivial)))))))
    exact s_Lw_comes_30 _ _ _ _ _ _ _ _ _ hw
theorem s_Lw_comes {x0 : Option Nat} {x1 : Option Nat} {x2 : Option Nat} {x3 : Option Nat} {x4 : Option Nat} {x5 : Int32} {h : tpH} {R : Int32 → tpH → Prop} (hw : w_Lw_comes x0 x1 x2 x3 x4 x5 h R) : tpC Lw_comes 4 [vR x0, vR x1, vR x2, vR x3, vR x4, vI x5] h (tpOi R (fun _ _ => False)) := by
  refine tpC_of ms_Lw_comes.2.2.2.1 rfl rfl (Nat.le_of_ble_eq_true rfl) ?_
  show tpR Lw_comes 4 h _ _ 0 [some (vR x0), some (vR x1), some (vR x2), some (vR x3), some (vR x4), some (vI x5), none, none, none, none, none] [] h
  unfold w_Lw_comes at hw
  refine tq_aload_n dLw_comes_0 rfl rfl ?_
  refine tq_iload dLw_comes_1 rfl ?_
  refine tq_callS ms_Lw_place (dc := 1) (as := [vR x0, vI x5]) (rest := []) kLw_13 (Nat.le_of_ble_eq_true rfl) (Nat.le_of_ble_eq_true rfl) rfl rfl (Nat.le_of_ble_eq_true rfl) dLw_comes_3 (s_Lw_place hw) (fun _ _ hx => False.elim hx) (tk_i fun v2 h1 hw => ?_)
  refine tq_iflt (tgt := 13) dLw_comes_6 (by decide) (fun c3 => ?_) (fun c3 => ?_)
  · have hw := hw.1 c3
    refine tq_iconst (v := (0 : Int32)) dLw_comes_13 tni_0 ?_
    refine tpR.fo (ls' := [some (vR x0), some (vR x1), some (vR x2), some (vR x3), some (vR x4), some (vI x5), none, none, none, none, none]) ?_ (And.intro rfl (And.intro rfl (And.intro rfl (And.intro rfl (And.intro rfl (And.intro rfl trivial))))))
    exact s_Lw_comes_14 _ _ _ _ _ _ _ _ hw
  · have hw := hw.2 c3
    refine tq_iconst (v := (1 : Int32)) dLw_comes_9 tni_1 ?_
    refine tq_goto (tgt := 14) dLw_comes_10 (by decide) ?_
    refine tpR.fo (ls' := [some (vR x0), some (vR x1), some (vR x2), some (vR x3), some (vR x4), some (vI x5), none, none, none, none, none]) ?_ (And.intro rfl (And.intro rfl (And.intro rfl (And.intro rfl (And.intro rfl (And.intro rfl trivial))))))
    exact s_Lw_comes_14 _ _ _ _ _ _ _ _ hw
