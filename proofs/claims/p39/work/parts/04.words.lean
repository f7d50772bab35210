def tpCk (own : String) (i : Nat) (C : String) : Prop := Cond.classLink own i C ∈ tpW
def tpIk (C : String) (n : Nat) : Prop := Cond.instantiable C n ∈ tpW ∧ Cond.initialized C ∈ tpW
def tpOk (own : String) (i : Nat) : Prop := Cond.methodLink own i Lib.objectInit ∈ tpW
theorem cLw_23 : tpCk "TwigPatchLaw" 23 "TwigPatch" := tpw1 21 (by decide +kernel) (by decide +kernel)
theorem ti_12 : tpIk "TwigPatch" 13 := ⟨tpw1 22 (by decide +kernel) (by decide +kernel), tpw1 1 (by decide +kernel) (by decide +kernel)⟩
theorem oTP_1 : tpOk "TwigPatch" 1 := tpw1 26 (by decide +kernel) (by decide +kernel)
theorem cTP_7 : tpCk "TwigPatch" 7 "TwigPatch$Marks" := tpw1 29 (by decide +kernel) (by decide +kernel)
theorem ti_4 : tpIk "TwigPatch$Marks" 3 := ⟨tpw1 30 (by decide +kernel) (by decide +kernel), tpw1 2 (by decide +kernel) (by decide +kernel)⟩
theorem oMa_3 : tpOk "TwigPatch$Marks" 3 := tpw1 34 (by decide +kernel) (by decide +kernel)
theorem cMa_9 : tpCk "TwigPatch$Marks" 9 "TwigPatch$Row" := tpw1 35 (by decide +kernel) (by decide +kernel)
theorem ti_7 : tpIk "TwigPatch$Row" 2 := ⟨tpw1 36 (by decide +kernel) (by decide +kernel), tpw1 3 (by decide +kernel) (by decide +kernel)⟩
theorem oRo_3 : tpOk "TwigPatch$Row" 3 := tpw1 40 (by decide +kernel) (by decide +kernel)
theorem cTP_16 : tpCk "TwigPatch" 16 "TwigPatch$Bush" := tpw1 64 (by decide +kernel) (by decide +kernel)
theorem ti_0 : tpIk "TwigPatch$Bush" 10 := ⟨tpw1 65 (by decide +kernel) (by decide +kernel), tpw1 4 (by decide +kernel) (by decide +kernel)⟩
theorem oBu_3 : tpOk "TwigPatch$Bush" 3 := tpw1 69 (by decide +kernel) (by decide +kernel)
theorem cBu_9 : tpCk "TwigPatch$Bush" 9 "TwigPatch$Row" := tpw1 70 (by decide +kernel) (by decide +kernel)
theorem cTP_28 : tpCk "TwigPatch" 28 "TwigPatch$Tree" := tpw1 105 (by decide +kernel) (by decide +kernel)
theorem cTP_34 : tpCk "TwigPatch" 34 "TwigPatch$Script" := tpw1 107 (by decide +kernel) (by decide +kernel)
theorem cTP_40 : tpCk "TwigPatch" 40 "TwigPatch$Likes" := tpw1 109 (by decide +kernel) (by decide +kernel)
theorem ti_3 : tpIk "TwigPatch$Likes" 9 := ⟨tpw1 110 (by decide +kernel) (by decide +kernel), tpw1 5 (by decide +kernel) (by decide +kernel)⟩
theorem oLi_3 : tpOk "TwigPatch$Likes" 3 := tpw1 114 (by decide +kernel) (by decide +kernel)
theorem cLi_9 : tpCk "TwigPatch$Likes" 9 "TwigPatch$Row" := tpw1 115 (by decide +kernel) (by decide +kernel)
theorem cTP_47 : tpCk "TwigPatch" 47 "TwigPatch$Matching" := tpw1 143 (by decide +kernel) (by decide +kernel)
theorem ti_5 : tpIk "TwigPatch$Matching" 9 := ⟨tpw1 144 (by decide +kernel) (by decide +kernel), tpw1 6 (by decide +kernel) (by decide +kernel)⟩
theorem oMt_3 : tpOk "TwigPatch$Matching" 3 := tpw1 148 (by decide +kernel) (by decide +kernel)
theorem cMt_9 : tpCk "TwigPatch$Matching" 9 "TwigPatch$Row" := tpw1 149 (by decide +kernel) (by decide +kernel)
theorem cTP_56 : tpCk "TwigPatch" 56 "TwigPatch$Finder" := tpw1 177 (by decide +kernel) (by decide +kernel)
theorem ti_1 : tpIk "TwigPatch$Finder" 7 := ⟨tpw1 178 (by decide +kernel) (by decide +kernel), tpw1 7 (by decide +kernel) (by decide +kernel)⟩
theorem oFi_3 : tpOk "TwigPatch$Finder" 3 := tpw1 182 (by decide +kernel) (by decide +kernel)
theorem cFi_9 : tpCk "TwigPatch$Finder" 9 "TwigPatch$Row" := tpw1 183 (by decide +kernel) (by decide +kernel)
theorem cFi_26 : tpCk "TwigPatch$Finder" 26 "TwigPatch$Spot" := tpw1 185 (by decide +kernel) (by decide +kernel)
theorem ti_9 : tpIk "TwigPatch$Spot" 3 := ⟨tpw1 186 (by decide +kernel) (by decide +kernel), tpw1 8 (by decide +kernel) (by decide +kernel)⟩
theorem oSp_1 : tpOk "TwigPatch$Spot" 1 := tpw1 190 (by decide +kernel) (by decide +kernel)
theorem cTP_65 : tpCk "TwigPatch" 65 "TwigPatch$Merger" := tpw1 223 (by decide +kernel) (by decide +kernel)
theorem ti_6 : tpIk "TwigPatch$Merger" 12 := ⟨tpw1 224 (by decide +kernel) (by decide +kernel), tpw1 9 (by decide +kernel) (by decide +kernel)⟩
theorem oMg_3 : tpOk "TwigPatch$Merger" 3 := tpw1 228 (by decide +kernel) (by decide +kernel)
theorem cMg_9 : tpCk "TwigPatch$Merger" 9 "TwigPatch$Row" := tpw1 229 (by decide +kernel) (by decide +kernel)
theorem cTP_74 : tpCk "TwigPatch" 74 "TwigPatch$History" := tpw2 31 (by decide +kernel) (by decide +kernel)
theorem ti_2 : tpIk "TwigPatch$History" 7 := ⟨tpw2 32 (by decide +kernel) (by decide +kernel), tpw1 10 (by decide +kernel) (by decide +kernel)⟩
theorem oHi_3 : tpOk "TwigPatch$History" 3 := tpw2 36 (by decide +kernel) (by decide +kernel)
theorem cHi_9 : tpCk "TwigPatch$History" 9 "TwigPatch$Row" := tpw2 37 (by decide +kernel) (by decide +kernel)
theorem cTP_214 : tpCk "TwigPatch" 214 "java/lang/IllegalArgumentException" := tpw2 101 (by decide +kernel) (by decide +kernel)
theorem cTP_280 : tpCk "TwigPatch" 280 "java/lang/IndexOutOfBoundsException" := tpw2 192 (by decide +kernel) (by decide +kernel)
theorem cLw_76 : tpCk "TwigPatchLaw" 76 "java/lang/IndexOutOfBoundsException" := tpw3 5 (by decide +kernel) (by decide +kernel)
theorem cLw_78 : tpCk "TwigPatchLaw" 78 "java/lang/IllegalArgumentException" := tpw3 6 (by decide +kernel) (by decide +kernel)
theorem cLw_80 : tpCk "TwigPatchLaw" 80 "java/lang/IllegalStateException" := tpw3 7 (by decide +kernel) (by decide +kernel)
theorem cTP_116 : tpCk "TwigPatch" 116 "java/lang/IllegalStateException" := tpw3 31 (by decide +kernel) (by decide +kernel)
theorem cBu_88 : tpCk "TwigPatch$Bush" 88 "TwigPatch$Tree" := tpw3 191 (by decide +kernel) (by decide +kernel)
theorem ti_11 : tpIk "TwigPatch$Tree" 10 := ⟨tpw3 192 (by decide +kernel) (by decide +kernel), tpw1 17 (by decide +kernel) (by decide +kernel)⟩
theorem oTr_3 : tpOk "TwigPatch$Tree" 3 := tpw3 196 (by decide +kernel) (by decide +kernel)
theorem cTr_15 : tpCk "TwigPatch$Tree" 15 "TwigPatch$Row" := tpw3 197 (by decide +kernel) (by decide +kernel)
theorem cJA_317 : tpCk "java/util/Arrays" 317 "[I" := tpw4 64 (by decide +kernel) (by decide +kernel)
theorem nLw_151 : Cond.constant "TwigPatchLaw" 151 2147483647 ∈ tpW := tpw5 25 (by decide +kernel) (by decide +kernel)
theorem nLw_152 : Cond.constant "TwigPatchLaw" 152 41017 ∈ tpW := tpw5 26 (by decide +kernel) (by decide +kernel)
theorem ta_int : Cond.arrayClass .int ∈ tpW := tpw1 50 (by decide +kernel) (by decide +kernel)
theorem to_1 : Cond.instanceMethod Lib.objectInit ∈ tpW := tpw1 27 (by decide +kernel) (by decide +kernel)
theorem to_2 : Cond.code Lib.objectInit ⟨#[0xb1]⟩ 1 none ∈ tpW := tpw1 28 (by decide +kernel) (by decide +kernel)
def tpStr : List (String × Nat × String) := [("TwigPatch", 216, "no such conflict or policy"), ("TwigPatch", 385, "there is no such tree"), ("TwigPatch", 282, "there is no such place"), ("TwigPatch", 408, "there is no such mark"), ("TwigPatch", 424, "the kind is out of range"), ("TwigPatch", 426, "the value is out of range"), ("TwigPatch", 428, "the identity is out of range"), ("TwigPatch", 430, "there are no more marks"), ("TwigPatch", 413, "the draft does not have the mark"), ("TwigPatch", 118, "the draft is full"), ("TwigPatch", 146, "a node can't go below itself"), ("TwigPatch", 157, "the root stays"), ("TwigPatch", 162, "there is no draft"), ("TwigPatch", 432, "there are as many trees as there may be"), ("TwigPatch", 443, "the marks of the roots are unlike"), ("TwigPatch", 403, "there is no such conflict")]
theorem tpStr_in : ∀ q ∈ tpStr, Cond.stringRef q.1 q.2.1 q.2.2 ∈ lw_tbl := List.forall_mem_cons.mpr ⟨tpv2 142 (by decide +kernel), List.forall_mem_cons.mpr ⟨tpv2 201 (by decide +kernel), List.forall_mem_cons.mpr ⟨tpv2 212 (by decide +kernel), List.forall_mem_cons.mpr ⟨tpv2 226 (by decide +kernel), List.forall_mem_cons.mpr ⟨tpv3 20 (by decide +kernel), List.forall_mem_cons.mpr ⟨tpv3 25 (by decide +kernel), List.forall_mem_cons.mpr ⟨tpv3 26 (by decide +kernel), List.forall_mem_cons.mpr ⟨tpv3 40 (by decide +kernel), List.forall_mem_cons.mpr ⟨tpv3 113 (by decide +kernel), List.forall_mem_cons.mpr ⟨tpv3 127 (by decide +kernel), List.forall_mem_cons.mpr ⟨tpv3 154 (by decide +kernel), List.forall_mem_cons.mpr ⟨tpv3 167 (by decide +kernel), List.forall_mem_cons.mpr ⟨tpv3 181 (by decide +kernel), List.forall_mem_cons.mpr ⟨tpv3 186 (by decide +kernel), List.forall_mem_cons.mpr ⟨tpv4 21 (by decide +kernel), List.forall_mem_cons.mpr ⟨tpv4 187 (by decide +kernel), fun _ h => absurd h List.not_mem_nil⟩⟩⟩⟩⟩⟩⟩⟩⟩⟩⟩⟩⟩⟩⟩⟩
theorem mJA_304 : Cond.methodLink "java/util/Arrays" 304 Lib.Math.min.name ∈ tpW := tpw4 65 (by decide +kernel) (by decide +kernel)
theorem mMg_216 : Cond.methodLink "TwigPatch$Merger" 216 Lib.Math.min.name ∈ tpW := tpw4 176 (by decide +kernel) (by decide +kernel)
theorem tm_min1 : Cond.static Lib.Math.min.name ∈ tpW := tpw4 66 (by decide +kernel) (by decide +kernel)
theorem tm_min2 : Cond.code Lib.Math.min.name Lib.Math.min.code 2 (some .int) ∈ tpW := tpw4 67 (by decide +kernel) (by decide +kernel)
theorem mTr_62 : Cond.methodLink "TwigPatch$Tree" 62 Lib.Math.max.name ∈ tpW := tpw4 6 (by decide +kernel) (by decide +kernel)
theorem tm_max1 : Cond.static Lib.Math.max.name ∈ tpW := tpw4 7 (by decide +kernel) (by decide +kernel)
theorem tm_max2 : Cond.code Lib.Math.max.name Lib.Math.max.code 2 (some .int) ∈ tpW := tpw4 8 (by decide +kernel) (by decide +kernel)
theorem tm_3 : Cond.initialized "java/lang/Math" ∈ tpW := tpw1 18 (by decide +kernel) (by decide +kernel)
theorem ty_1 : Cond.methodLink "java/util/Arrays" 150 arraycopyName ∈ tpW := tpw4 68 (by decide +kernel) (by decide +kernel)
theorem ty_2 : Cond.native arraycopyName ∈ tpW := tpw4 70 (by decide +kernel) (by decide +kernel)
theorem ty_3 : Cond.static arraycopyName ∈ tpW := tpw4 69 (by decide +kernel) (by decide +kernel)
theorem ty_4 : Cond.initialized "java/lang/System" ∈ tpW := tpw1 20 (by decide +kernel) (by decide +kernel)
def tpNd : List MethodName := [{ cls := "java/lang/RuntimeException", name := "<init>", desc := "()V" }, { cls := "java/lang/RuntimeException", name := "<init>", desc := "(Ljava/lang/String;)V" }, { cls := "java/lang/Exception", name := "<init>", desc := "()V" }, { cls := "java/lang/Exception", name := "<init>", desc := "(Ljava/lang/String;)V" }, { cls := "java/lang/Throwable", name := "<init>", desc := "()V" }, { cls := "java/lang/Throwable", name := "<init>", desc := "(Ljava/lang/String;)V" }]
theorem tpNd_in : ∀ q ∈ tpNd, Cond.declares q ∈ lw_tbl := List.forall_mem_cons.mpr ⟨tpv2 104 (by decide +kernel), List.forall_mem_cons.mpr ⟨tpv2 105 (by decide +kernel), List.forall_mem_cons.mpr ⟨tpv2 106 (by decide +kernel), List.forall_mem_cons.mpr ⟨tpv2 107 (by decide +kernel), List.forall_mem_cons.mpr ⟨tpv2 108 (by decide +kernel), List.forall_mem_cons.mpr ⟨tpv2 109 (by decide +kernel), fun _ h => absurd h List.not_mem_nil⟩⟩⟩⟩⟩⟩
def tpEs : List String := ["java/lang/RuntimeException", "java/lang/Exception"]
def tpExn : List String := ["java/lang/IllegalArgumentException", "java/lang/IllegalStateException", "java/lang/IndexOutOfBoundsException"]
theorem tpEs_fit : ∀ n ∈ tpEs, Bundle.fit n = true := by decide +kernel
theorem tpExn_fit : ∀ n ∈ tpExn, Bundle.fit n = true := by decide +kernel
theorem tpExn_Nc : ∀ n ∈ tpExn, (n, n) ∈ tpNc := by decide +kernel
theorem tpExn_ini : ∀ n ∈ tpExn, Cond.initialized n ∈ tpW := List.forall_mem_cons.mpr ⟨tpw1 14 (by decide +kernel) (by decide +kernel), List.forall_mem_cons.mpr ⟨tpw1 15 (by decide +kernel) (by decide +kernel), List.forall_mem_cons.mpr ⟨tpw1 16 (by decide +kernel) (by decide +kernel), fun _ h => absurd h List.not_mem_nil⟩⟩⟩
/-- the words of a throw -/
def tpTh (own : String) (ic : Nat) (X : String) : Prop := X ∈ tpExn ∧ ∀ w ∈ vx_atS own ic X tpEs, w = .castable X X ∨ (∃ x ∈ tpNd, w = .declares x) ∨ w ∈ tpW
theorem thTP_218 : tpTh "TwigPatch" 218 "java/lang/IllegalArgumentException" := ⟨by decide +kernel, by decide +kernel⟩
theorem thTP_218g : ∀ w ∈ vx_atS "TwigPatch" 218 "java/lang/IllegalArgumentException" tpEs, vx_ot w = true := by decide +kernel
theorem thTP_284 : tpTh "TwigPatch" 284 "java/lang/IndexOutOfBoundsException" := ⟨by decide +kernel, by decide +kernel⟩
theorem thTP_284g : ∀ w ∈ vx_atS "TwigPatch" 284 "java/lang/IndexOutOfBoundsException" tpEs, vx_ot w = true := by decide +kernel
theorem thTP_120 : tpTh "TwigPatch" 120 "java/lang/IllegalStateException" := ⟨by decide +kernel, by decide +kernel⟩
theorem thTP_120g : ∀ w ∈ vx_atS "TwigPatch" 120 "java/lang/IllegalStateException" tpEs, vx_ot w = true := by decide +kernel
