def tpCk (own : String) (i : Nat) (C : String) : Prop := Cond.classLink own i C ∈ tpW
def tpIk (C : String) (n : Nat) : Prop := Cond.instantiable C n ∈ tpW ∧ Cond.initialized C ∈ tpW
def tpOk (own : String) (i : Nat) : Prop := Cond.methodLink own i Lib.objectInit ∈ tpW
theorem cLw_8 : tpCk "TwigPatchLaw" 8 "TwigPatch" := tpw1 24 (by decide +kernel) (by decide +kernel)
theorem ti_12 : tpIk "TwigPatch" 13 := ⟨tpw1 25 (by decide +kernel) (by decide +kernel), tpw1 1 (by decide +kernel) (by decide +kernel)⟩
theorem oTP_1 : tpOk "TwigPatch" 1 := tpw1 29 (by decide +kernel) (by decide +kernel)
theorem cTP_7 : tpCk "TwigPatch" 7 "TwigPatch$Marks" := tpw1 32 (by decide +kernel) (by decide +kernel)
theorem ti_4 : tpIk "TwigPatch$Marks" 3 := ⟨tpw1 33 (by decide +kernel) (by decide +kernel), tpw1 2 (by decide +kernel) (by decide +kernel)⟩
theorem oMa_3 : tpOk "TwigPatch$Marks" 3 := tpw1 37 (by decide +kernel) (by decide +kernel)
theorem cMa_9 : tpCk "TwigPatch$Marks" 9 "TwigPatch$Row" := tpw1 38 (by decide +kernel) (by decide +kernel)
theorem ti_7 : tpIk "TwigPatch$Row" 2 := ⟨tpw1 39 (by decide +kernel) (by decide +kernel), tpw1 3 (by decide +kernel) (by decide +kernel)⟩
theorem oRo_3 : tpOk "TwigPatch$Row" 3 := tpw1 43 (by decide +kernel) (by decide +kernel)
theorem cTP_16 : tpCk "TwigPatch" 16 "TwigPatch$Bush" := tpw1 67 (by decide +kernel) (by decide +kernel)
theorem ti_0 : tpIk "TwigPatch$Bush" 10 := ⟨tpw1 68 (by decide +kernel) (by decide +kernel), tpw1 4 (by decide +kernel) (by decide +kernel)⟩
theorem oBu_3 : tpOk "TwigPatch$Bush" 3 := tpw1 72 (by decide +kernel) (by decide +kernel)
theorem cBu_9 : tpCk "TwigPatch$Bush" 9 "TwigPatch$Row" := tpw1 73 (by decide +kernel) (by decide +kernel)
theorem cTP_28 : tpCk "TwigPatch" 28 "TwigPatch$Tree" := tpw1 112 (by decide +kernel) (by decide +kernel)
theorem cTP_34 : tpCk "TwigPatch" 34 "TwigPatch$Script" := tpw1 114 (by decide +kernel) (by decide +kernel)
theorem cTP_40 : tpCk "TwigPatch" 40 "TwigPatch$Likes" := tpw1 116 (by decide +kernel) (by decide +kernel)
theorem ti_3 : tpIk "TwigPatch$Likes" 9 := ⟨tpw1 117 (by decide +kernel) (by decide +kernel), tpw1 5 (by decide +kernel) (by decide +kernel)⟩
theorem oLi_3 : tpOk "TwigPatch$Likes" 3 := tpw1 121 (by decide +kernel) (by decide +kernel)
theorem cLi_9 : tpCk "TwigPatch$Likes" 9 "TwigPatch$Row" := tpw1 122 (by decide +kernel) (by decide +kernel)
theorem cTP_47 : tpCk "TwigPatch" 47 "TwigPatch$Matching" := tpw1 152 (by decide +kernel) (by decide +kernel)
theorem ti_5 : tpIk "TwigPatch$Matching" 9 := ⟨tpw1 153 (by decide +kernel) (by decide +kernel), tpw1 6 (by decide +kernel) (by decide +kernel)⟩
theorem oMt_3 : tpOk "TwigPatch$Matching" 3 := tpw1 157 (by decide +kernel) (by decide +kernel)
theorem cMt_9 : tpCk "TwigPatch$Matching" 9 "TwigPatch$Row" := tpw1 158 (by decide +kernel) (by decide +kernel)
theorem cTP_56 : tpCk "TwigPatch" 56 "TwigPatch$Finder" := tpw1 188 (by decide +kernel) (by decide +kernel)
theorem ti_1 : tpIk "TwigPatch$Finder" 7 := ⟨tpw1 189 (by decide +kernel) (by decide +kernel), tpw1 7 (by decide +kernel) (by decide +kernel)⟩
theorem oFi_3 : tpOk "TwigPatch$Finder" 3 := tpw1 193 (by decide +kernel) (by decide +kernel)
theorem cFi_9 : tpCk "TwigPatch$Finder" 9 "TwigPatch$Row" := tpw1 194 (by decide +kernel) (by decide +kernel)
theorem cFi_26 : tpCk "TwigPatch$Finder" 26 "TwigPatch$Spot" := tpw1 196 (by decide +kernel) (by decide +kernel)
theorem ti_9 : tpIk "TwigPatch$Spot" 3 := ⟨tpw1 197 (by decide +kernel) (by decide +kernel), tpw1 8 (by decide +kernel) (by decide +kernel)⟩
theorem oSp_1 : tpOk "TwigPatch$Spot" 1 := tpw1 201 (by decide +kernel) (by decide +kernel)
theorem cTP_65 : tpCk "TwigPatch" 65 "TwigPatch$Merger" := tpw1 239 (by decide +kernel) (by decide +kernel)
theorem ti_6 : tpIk "TwigPatch$Merger" 12 := ⟨tpw2 0 (by decide +kernel) (by decide +kernel), tpw1 9 (by decide +kernel) (by decide +kernel)⟩
theorem oMg_3 : tpOk "TwigPatch$Merger" 3 := tpw2 4 (by decide +kernel) (by decide +kernel)
theorem cMg_9 : tpCk "TwigPatch$Merger" 9 "TwigPatch$Row" := tpw2 5 (by decide +kernel) (by decide +kernel)
theorem cTP_74 : tpCk "TwigPatch" 74 "TwigPatch$History" := tpw2 47 (by decide +kernel) (by decide +kernel)
theorem ti_2 : tpIk "TwigPatch$History" 7 := ⟨tpw2 48 (by decide +kernel) (by decide +kernel), tpw1 10 (by decide +kernel) (by decide +kernel)⟩
theorem oHi_3 : tpOk "TwigPatch$History" 3 := tpw2 52 (by decide +kernel) (by decide +kernel)
theorem cHi_9 : tpCk "TwigPatch$History" 9 "TwigPatch$Row" := tpw2 53 (by decide +kernel) (by decide +kernel)
theorem cLw_13 : tpCk "TwigPatchLaw" 13 "java/lang/IllegalArgumentException" := tpw2 138 (by decide +kernel) (by decide +kernel)
theorem cLw_15 : tpCk "TwigPatchLaw" 15 "java/lang/IllegalStateException" := tpw2 139 (by decide +kernel) (by decide +kernel)
theorem cTP_214 : tpCk "TwigPatch" 214 "java/lang/IllegalArgumentException" := tpw2 152 (by decide +kernel) (by decide +kernel)
theorem cTP_116 : tpCk "TwigPatch" 116 "java/lang/IllegalStateException" := tpw2 230 (by decide +kernel) (by decide +kernel)
theorem cLw_21 : tpCk "TwigPatchLaw" 21 "java/lang/IndexOutOfBoundsException" := tpw3 30 (by decide +kernel) (by decide +kernel)
theorem cTP_280 : tpCk "TwigPatch" 280 "java/lang/IndexOutOfBoundsException" := tpw3 39 (by decide +kernel) (by decide +kernel)
theorem cBu_88 : tpCk "TwigPatch$Bush" 88 "TwigPatch$Tree" := tpw3 200 (by decide +kernel) (by decide +kernel)
theorem ti_11 : tpIk "TwigPatch$Tree" 10 := ⟨tpw3 201 (by decide +kernel) (by decide +kernel), tpw1 18 (by decide +kernel) (by decide +kernel)⟩
theorem oTr_3 : tpOk "TwigPatch$Tree" 3 := tpw3 205 (by decide +kernel) (by decide +kernel)
theorem cTr_15 : tpCk "TwigPatch$Tree" 15 "TwigPatch$Row" := tpw3 206 (by decide +kernel) (by decide +kernel)
theorem nMt_180 : Cond.constantFloat "TwigPatch$Matching" 180 1056964608 ∈ tpW := tpw4 188 (by decide +kernel) (by decide +kernel)
theorem cFi_47 : tpCk "TwigPatch$Finder" 47 "TwigPatch$Script" := tpw4 193 (by decide +kernel) (by decide +kernel)
theorem ti_8 : tpIk "TwigPatch$Script" 2 := ⟨tpw4 194 (by decide +kernel) (by decide +kernel), tpw1 20 (by decide +kernel) (by decide +kernel)⟩
theorem oSc_1 : tpOk "TwigPatch$Script" 1 := tpw4 198 (by decide +kernel) (by decide +kernel)
theorem cSc_7 : tpCk "TwigPatch$Script" 7 "TwigPatch$Step" := tpw4 199 (by decide +kernel) (by decide +kernel)
theorem cFi_94 : tpCk "TwigPatch$Finder" 94 "TwigPatch$Step" := tpw4 225 (by decide +kernel) (by decide +kernel)
theorem ti_10 : tpIk "TwigPatch$Step" 6 := ⟨tpw4 226 (by decide +kernel) (by decide +kernel), tpw1 21 (by decide +kernel) (by decide +kernel)⟩
theorem oSt_3 : tpOk "TwigPatch$Step" 3 := tpw4 230 (by decide +kernel) (by decide +kernel)
theorem cBu_54 : tpCk "TwigPatch$Bush" 54 "TwigPatch$Spot" := tpw5 34 (by decide +kernel) (by decide +kernel)
theorem cSc_10 : tpCk "TwigPatch$Script" 10 "TwigPatch$Script" := tpw5 77 (by decide +kernel) (by decide +kernel)
theorem cSt_10 : tpCk "TwigPatch$Step" 10 "TwigPatch$Step" := tpw5 87 (by decide +kernel) (by decide +kernel)
theorem cJA_317 : tpCk "java/util/Arrays" 317 "[I" := tpw5 210 (by decide +kernel) (by decide +kernel)
theorem cLw_121 : tpCk "TwigPatchLaw" 121 "TwigPatchModel" := tpw7 109 (by decide +kernel) (by decide +kernel)
theorem ti_13 : tpIk "TwigPatchModel" 58 := ⟨tpw7 110 (by decide +kernel) (by decide +kernel), tpw1 11 (by decide +kernel) (by decide +kernel)⟩
theorem oMd_1 : tpOk "TwigPatchModel" 1 := tpw7 114 (by decide +kernel) (by decide +kernel)
theorem nMd_67 : Cond.constant "TwigPatchModel" 67 92000 ∈ tpW := tpw7 115 (by decide +kernel) (by decide +kernel)
theorem nMd_93 : Cond.constant "TwigPatchModel" 93 90000 ∈ tpW := tpw7 116 (by decide +kernel) (by decide +kernel)
theorem nMd_281 : Cond.constantFloat "TwigPatchModel" 281 1056964608 ∈ tpW := tpw8 234 (by decide +kernel) (by decide +kernel)
theorem ta_int : Cond.arrayClass .int ∈ tpW := tpw1 53 (by decide +kernel) (by decide +kernel)
theorem ta_boolean : Cond.arrayClass .boolean ∈ tpW := tpw8 52 (by decide +kernel) (by decide +kernel)
theorem ta_long : Cond.arrayClass .long ∈ tpW := tpw10 35 (by decide +kernel) (by decide +kernel)
theorem ta_double : Cond.arrayClass .double ∈ tpW := tpw10 36 (by decide +kernel) (by decide +kernel)
theorem to_1 : Cond.instanceMethod Lib.objectInit ∈ tpW := tpw1 30 (by decide +kernel) (by decide +kernel)
theorem to_2 : Cond.code Lib.objectInit ⟨#[0xb1]⟩ 1 none ∈ tpW := tpw1 31 (by decide +kernel) (by decide +kernel)
def tpStr : List (String × Nat × String) := [("TwigPatch", 424, "the kind is out of range"), ("TwigPatch", 426, "the value is out of range"), ("TwigPatch", 428, "the identity is out of range"), ("TwigPatch", 430, "there are no more marks"), ("TwigPatch", 385, "there is no such tree"), ("TwigPatch", 413, "the draft does not have the mark"), ("TwigPatch", 282, "there is no such place"), ("TwigPatch", 118, "the draft is full"), ("TwigPatch", 146, "a node can't go below itself"), ("TwigPatch", 157, "the root stays"), ("TwigPatch", 162, "there is no draft"), ("TwigPatch", 432, "there are as many trees as there may be"), ("TwigPatch", 441, "the roots are unlike"), ("TwigPatch", 434, "there are as many scripts as there may be"), ("TwigPatch", 193, "the script would be too long"), ("TwigPatch", 390, "there is no such script"), ("TwigPatch", 216, "no such conflict or policy"), ("TwigPatch", 443, "the marks of the roots are unlike"), ("TwigPatch", 401, "there is no such version"), ("TwigPatch", 242, "a second parent needs another first one"), ("TwigPatch", 436, "there are as many versions as there may be"), ("TwigPatch", 254, "a version is not merged with itself"), ("TwigPatch", 259, "the versions have no base"), ("TwigPatch", 270, "the version has no parents"), ("TwigPatch", 275, "head does not come behind the version"), ("TwigPatch", 408, "there is no such mark"), ("TwigPatch", 410, "the tree does not have the mark"), ("TwigPatch", 396, "there is no such step"), ("TwigPatch", 403, "there is no such conflict"), ("TwigPatch", 373, "the later version does not reach the earlier one")]
theorem tpStr_in : ∀ q ∈ tpStr, Cond.stringRef q.1 q.2.1 q.2.2 ∈ lw_tbl := List.forall_mem_cons.mpr ⟨tpv2 193 (by decide +kernel), List.forall_mem_cons.mpr ⟨tpv2 224 (by decide +kernel), List.forall_mem_cons.mpr ⟨tpv2 225 (by decide +kernel), List.forall_mem_cons.mpr ⟨tpv2 239 (by decide +kernel), List.forall_mem_cons.mpr ⟨tpv3 48 (by decide +kernel), List.forall_mem_cons.mpr ⟨tpv3 109 (by decide +kernel), List.forall_mem_cons.mpr ⟨tpv3 123 (by decide +kernel), List.forall_mem_cons.mpr ⟨tpv3 124 (by decide +kernel), List.forall_mem_cons.mpr ⟨tpv3 157 (by decide +kernel), List.forall_mem_cons.mpr ⟨tpv3 173 (by decide +kernel), List.forall_mem_cons.mpr ⟨tpv3 190 (by decide +kernel), List.forall_mem_cons.mpr ⟨tpv3 195 (by decide +kernel), List.forall_mem_cons.mpr ⟨tpv4 41 (by decide +kernel), List.forall_mem_cons.mpr ⟨tpv4 46 (by decide +kernel), List.forall_mem_cons.mpr ⟨tpv5 56 (by decide +kernel), List.forall_mem_cons.mpr ⟨tpv5 72 (by decide +kernel), List.forall_mem_cons.mpr ⟨tpv5 150 (by decide +kernel), List.forall_mem_cons.mpr ⟨tpv5 164 (by decide +kernel), List.forall_mem_cons.mpr ⟨tpv6 95 (by decide +kernel), List.forall_mem_cons.mpr ⟨tpv6 96 (by decide +kernel), List.forall_mem_cons.mpr ⟨tpv6 101 (by decide +kernel), List.forall_mem_cons.mpr ⟨tpv6 114 (by decide +kernel), List.forall_mem_cons.mpr ⟨tpv6 130 (by decide +kernel), List.forall_mem_cons.mpr ⟨tpv6 154 (by decide +kernel), List.forall_mem_cons.mpr ⟨tpv6 156 (by decide +kernel), List.forall_mem_cons.mpr ⟨tpv6 182 (by decide +kernel), List.forall_mem_cons.mpr ⟨tpv6 231 (by decide +kernel), List.forall_mem_cons.mpr ⟨tpv7 27 (by decide +kernel), List.forall_mem_cons.mpr ⟨tpv7 53 (by decide +kernel), List.forall_mem_cons.mpr ⟨tpv7 95 (by decide +kernel), fun _ h => absurd h List.not_mem_nil⟩⟩⟩⟩⟩⟩⟩⟩⟩⟩⟩⟩⟩⟩⟩⟩⟩⟩⟩⟩⟩⟩⟩⟩⟩⟩⟩⟩⟩⟩
theorem mJA_304 : Cond.methodLink "java/util/Arrays" 304 Lib.Math.min.name ∈ tpW := tpw5 211 (by decide +kernel) (by decide +kernel)
theorem mMg_216 : Cond.methodLink "TwigPatch$Merger" 216 Lib.Math.min.name ∈ tpW := tpw6 73 (by decide +kernel) (by decide +kernel)
theorem mHi_47 : Cond.methodLink "TwigPatch$History" 47 Lib.Math.min.name ∈ tpW := tpw6 119 (by decide +kernel) (by decide +kernel)
theorem tm_min1 : Cond.static Lib.Math.min.name ∈ tpW := tpw5 212 (by decide +kernel) (by decide +kernel)
theorem tm_min2 : Cond.code Lib.Math.min.name Lib.Math.min.code 2 (some .int) ∈ tpW := tpw5 213 (by decide +kernel) (by decide +kernel)
theorem mTr_62 : Cond.methodLink "TwigPatch$Tree" 62 Lib.Math.max.name ∈ tpW := tpw4 18 (by decide +kernel) (by decide +kernel)
theorem tm_max1 : Cond.static Lib.Math.max.name ∈ tpW := tpw4 19 (by decide +kernel) (by decide +kernel)
theorem tm_max2 : Cond.code Lib.Math.max.name Lib.Math.max.code 2 (some .int) ∈ tpW := tpw4 20 (by decide +kernel) (by decide +kernel)
theorem tm_3 : Cond.initialized "java/lang/Math" ∈ tpW := tpw1 19 (by decide +kernel) (by decide +kernel)
theorem ty_1 : Cond.methodLink "java/util/Arrays" 150 arraycopyName ∈ tpW := tpw5 214 (by decide +kernel) (by decide +kernel)
theorem ty_2 : Cond.native arraycopyName ∈ tpW := tpw5 216 (by decide +kernel) (by decide +kernel)
theorem ty_3 : Cond.static arraycopyName ∈ tpW := tpw5 215 (by decide +kernel) (by decide +kernel)
theorem ty_4 : Cond.initialized "java/lang/System" ∈ tpW := tpw1 23 (by decide +kernel) (by decide +kernel)
def tpNd : List MethodName := [{ cls := "java/lang/RuntimeException", name := "<init>", desc := "()V" }, { cls := "java/lang/RuntimeException", name := "<init>", desc := "(Ljava/lang/String;)V" }, { cls := "java/lang/Exception", name := "<init>", desc := "()V" }, { cls := "java/lang/Exception", name := "<init>", desc := "(Ljava/lang/String;)V" }, { cls := "java/lang/Throwable", name := "<init>", desc := "()V" }, { cls := "java/lang/Throwable", name := "<init>", desc := "(Ljava/lang/String;)V" }]
theorem tpNd_in : ∀ q ∈ tpNd, Cond.declares q ∈ lw_tbl := List.forall_mem_cons.mpr ⟨tpv2 155 (by decide +kernel), List.forall_mem_cons.mpr ⟨tpv2 156 (by decide +kernel), List.forall_mem_cons.mpr ⟨tpv2 157 (by decide +kernel), List.forall_mem_cons.mpr ⟨tpv2 158 (by decide +kernel), List.forall_mem_cons.mpr ⟨tpv2 159 (by decide +kernel), List.forall_mem_cons.mpr ⟨tpv2 160 (by decide +kernel), fun _ h => absurd h List.not_mem_nil⟩⟩⟩⟩⟩⟩
def tpEs : List String := ["java/lang/RuntimeException", "java/lang/Exception"]
def tpExn : List String := ["java/lang/IllegalArgumentException", "java/lang/IllegalStateException", "java/lang/IndexOutOfBoundsException"]
theorem tpEs_fit : ∀ n ∈ tpEs, Bundle.fit n = true := by decide +kernel
theorem tpExn_fit : ∀ n ∈ tpExn, Bundle.fit n = true := by decide +kernel
theorem tpExn_Nc : ∀ n ∈ tpExn, (n, n) ∈ tpNc := by decide +kernel
theorem tpExn_ini : ∀ n ∈ tpExn, Cond.initialized n ∈ tpW := List.forall_mem_cons.mpr ⟨tpw1 15 (by decide +kernel) (by decide +kernel), List.forall_mem_cons.mpr ⟨tpw1 16 (by decide +kernel) (by decide +kernel), List.forall_mem_cons.mpr ⟨tpw1 17 (by decide +kernel) (by decide +kernel), fun _ h => absurd h List.not_mem_nil⟩⟩⟩
/-- the words of a throw -/
def tpTh (own : String) (ic : Nat) (X : String) : Prop := X ∈ tpExn ∧ ∀ w ∈ vx_atS own ic X tpEs, w = .castable X X ∨ (∃ x ∈ tpNd, w = .declares x) ∨ w ∈ tpW
theorem thTP_218 : tpTh "TwigPatch" 218 "java/lang/IllegalArgumentException" := ⟨by decide +kernel, by decide +kernel⟩
theorem thTP_218g : ∀ w ∈ vx_atS "TwigPatch" 218 "java/lang/IllegalArgumentException" tpEs, vx_ot w = true := by decide +kernel
theorem thTP_120 : tpTh "TwigPatch" 120 "java/lang/IllegalStateException" := ⟨by decide +kernel, by decide +kernel⟩
theorem thTP_120g : ∀ w ∈ vx_atS "TwigPatch" 120 "java/lang/IllegalStateException" tpEs, vx_ot w = true := by decide +kernel
theorem thTP_284 : tpTh "TwigPatch" 284 "java/lang/IndexOutOfBoundsException" := ⟨by decide +kernel, by decide +kernel⟩
theorem thTP_284g : ∀ w ∈ vx_atS "TwigPatch" 284 "java/lang/IndexOutOfBoundsException" tpEs, vx_ot w = true := by decide +kernel
