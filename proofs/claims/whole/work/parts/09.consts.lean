theorem tnb_m2 : (Int8.ofInt (-2)).toInt32 = (-2 : Int32) := by decide
theorem tnb_6 : (Int8.ofInt 6).toInt32 = (6 : Int32) := by decide
theorem tnb_10 : (Int8.ofInt 10).toInt32 = (10 : Int32) := by decide
theorem tnb_24 : (Int8.ofInt 24).toInt32 = (24 : Int32) := by decide
theorem tnb_30 : (Int8.ofInt 30).toInt32 = (30 : Int32) := by decide
theorem tnb_32 : (Int8.ofInt 32).toInt32 = (32 : Int32) := by decide
theorem tnb_40 : (Int8.ofInt 40).toInt32 = (40 : Int32) := by decide
theorem tnb_41 : (Int8.ofInt 41).toInt32 = (41 : Int32) := by decide
theorem tnb_42 : (Int8.ofInt 42).toInt32 = (42 : Int32) := by decide
theorem tnb_63 : (Int8.ofInt 63).toInt32 = (63 : Int32) := by decide
theorem tnb_99 : (Int8.ofInt 99).toInt32 = (99 : Int32) := by decide
theorem tnb_100 : (Int8.ofInt 100).toInt32 = (100 : Int32) := by decide
theorem tnb_101 : (Int8.ofInt 101).toInt32 = (101 : Int32) := by decide
theorem tni_m1 : Int32.ofInt (-1) = (-1 : Int32) := by decide
theorem tni_0 : Int32.ofInt 0 = (0 : Int32) := by decide
theorem tni_1 : Int32.ofInt 1 = (1 : Int32) := by decide
theorem tni_2 : Int32.ofInt 2 = (2 : Int32) := by decide
theorem tni_3 : Int32.ofInt 3 = (3 : Int32) := by decide
theorem tni_4 : Int32.ofInt 4 = (4 : Int32) := by decide
theorem tni_5 : Int32.ofInt 5 = (5 : Int32) := by decide
theorem tni_6 : Int32.ofInt 6 = (6 : Int32) := by decide
theorem tns_300 : (Int16.ofInt 300).toInt32 = (300 : Int32) := by decide
theorem tns_301 : (Int16.ofInt 301).toInt32 = (301 : Int32) := by decide
theorem tns_600 : (Int16.ofInt 600).toInt32 = (600 : Int32) := by decide
theorem tns_1200 : (Int16.ofInt 1200).toInt32 = (1200 : Int32) := by decide
theorem tns_4100 : (Int16.ofInt 4100).toInt32 = (4100 : Int32) := by decide
theorem tns_12000 : (Int16.ofInt 12000).toInt32 = (12000 : Int32) := by decide
theorem tns_12300 : (Int16.ofInt 12300).toInt32 = (12300 : Int32) := by decide
theorem tns_12600 : (Int16.ofInt 12600).toInt32 = (12600 : Int32) := by decide
theorem pBu_14 : tpFp "TwigPatch$Bush" 14 0 1 := ⟨_, rfl, by decide +kernel, tpw1 77 (by decide +kernel) (by decide +kernel)⟩
theorem pBu_20 : tpFp "TwigPatch$Bush" 20 0 2 := ⟨_, rfl, by decide +kernel, tpw1 78 (by decide +kernel) (by decide +kernel)⟩
theorem pBu_23 : tpFp "TwigPatch$Bush" 23 0 3 := ⟨_, rfl, by decide +kernel, tpw1 79 (by decide +kernel) (by decide +kernel)⟩
theorem pBu_26 : tpFp "TwigPatch$Bush" 26 0 4 := ⟨_, rfl, by decide +kernel, tpw1 80 (by decide +kernel) (by decide +kernel)⟩
theorem pBu_29 : tpFp "TwigPatch$Bush" 29 0 5 := ⟨_, rfl, by decide +kernel, tpw1 81 (by decide +kernel) (by decide +kernel)⟩
theorem pBu_32 : tpFp "TwigPatch$Bush" 32 0 6 := ⟨_, rfl, by decide +kernel, tpw1 82 (by decide +kernel) (by decide +kernel)⟩
theorem pBu_35 : tpFp "TwigPatch$Bush" 35 0 7 := ⟨_, rfl, by decide +kernel, tpw1 83 (by decide +kernel) (by decide +kernel)⟩
theorem pBu_38 : tpFp "TwigPatch$Bush" 38 0 8 := ⟨_, rfl, by decide +kernel, tpw1 84 (by decide +kernel) (by decide +kernel)⟩
theorem pBu_42 : tpFp "TwigPatch$Bush" 42 0 0 := ⟨_, rfl, by decide +kernel, tpw1 75 (by decide +kernel) (by decide +kernel)⟩
theorem pBu_59 : tpFp "TwigPatch$Bush" 59 0 9 := ⟨_, rfl, by decide +kernel, tpw1 90 (by decide +kernel) (by decide +kernel)⟩
theorem pFi_14 : tpFp "TwigPatch$Finder" 14 1 3 := ⟨_, rfl, by decide +kernel, tpw1 220 (by decide +kernel) (by decide +kernel)⟩
theorem pFi_20 : tpFp "TwigPatch$Finder" 20 1 4 := ⟨_, rfl, by decide +kernel, tpw1 221 (by decide +kernel) (by decide +kernel)⟩
theorem pFi_23 : tpFp "TwigPatch$Finder" 23 1 5 := ⟨_, rfl, by decide +kernel, tpw1 222 (by decide +kernel) (by decide +kernel)⟩
theorem pFi_31 : tpFp "TwigPatch$Finder" 31 1 6 := ⟨_, rfl, by decide +kernel, tpw1 223 (by decide +kernel) (by decide +kernel)⟩
theorem pFi_35 : tpFp "TwigPatch$Finder" 35 1 0 := ⟨_, rfl, by decide +kernel, tpw1 217 (by decide +kernel) (by decide +kernel)⟩
theorem pFi_39 : tpFp "TwigPatch$Finder" 39 1 1 := ⟨_, rfl, by decide +kernel, tpw1 218 (by decide +kernel) (by decide +kernel)⟩
theorem pFi_43 : tpFp "TwigPatch$Finder" 43 1 2 := ⟨_, rfl, by decide +kernel, tpw1 219 (by decide +kernel) (by decide +kernel)⟩
theorem pHi_14 : tpFp "TwigPatch$History" 14 2 0 := ⟨_, rfl, by decide +kernel, tpw2 55 (by decide +kernel) (by decide +kernel)⟩
theorem pHi_20 : tpFp "TwigPatch$History" 20 2 1 := ⟨_, rfl, by decide +kernel, tpw2 56 (by decide +kernel) (by decide +kernel)⟩
theorem pHi_23 : tpFp "TwigPatch$History" 23 2 2 := ⟨_, rfl, by decide +kernel, tpw2 57 (by decide +kernel) (by decide +kernel)⟩
theorem pHi_26 : tpFp "TwigPatch$History" 26 2 3 := ⟨_, rfl, by decide +kernel, tpw2 58 (by decide +kernel) (by decide +kernel)⟩
theorem pHi_29 : tpFp "TwigPatch$History" 29 2 4 := ⟨_, rfl, by decide +kernel, tpw2 59 (by decide +kernel) (by decide +kernel)⟩
theorem pHi_32 : tpFp "TwigPatch$History" 32 2 5 := ⟨_, rfl, by decide +kernel, tpw2 60 (by decide +kernel) (by decide +kernel)⟩
theorem pHi_60 : tpFp "TwigPatch$History" 60 2 6 := ⟨_, rfl, by decide +kernel, tpw2 62 (by decide +kernel) (by decide +kernel)⟩
theorem pLi_14 : tpFp "TwigPatch$Likes" 14 3 1 := ⟨_, rfl, by decide +kernel, tpw1 125 (by decide +kernel) (by decide +kernel)⟩
theorem pLi_20 : tpFp "TwigPatch$Likes" 20 3 2 := ⟨_, rfl, by decide +kernel, tpw1 126 (by decide +kernel) (by decide +kernel)⟩
theorem pLi_23 : tpFp "TwigPatch$Likes" 23 3 3 := ⟨_, rfl, by decide +kernel, tpw1 127 (by decide +kernel) (by decide +kernel)⟩
theorem pLi_26 : tpFp "TwigPatch$Likes" 26 3 4 := ⟨_, rfl, by decide +kernel, tpw1 128 (by decide +kernel) (by decide +kernel)⟩
theorem pLi_29 : tpFp "TwigPatch$Likes" 29 3 5 := ⟨_, rfl, by decide +kernel, tpw1 129 (by decide +kernel) (by decide +kernel)⟩
theorem pLi_32 : tpFp "TwigPatch$Likes" 32 3 6 := ⟨_, rfl, by decide +kernel, tpw1 130 (by decide +kernel) (by decide +kernel)⟩
theorem pLi_35 : tpFp "TwigPatch$Likes" 35 3 0 := ⟨_, rfl, by decide +kernel, tpw1 124 (by decide +kernel) (by decide +kernel)⟩
theorem pLi_39 : tpFp "TwigPatch$Likes" 39 3 7 := ⟨_, rfl, by decide +kernel, tpw1 131 (by decide +kernel) (by decide +kernel)⟩
theorem pLi_43 : tpFp "TwigPatch$Likes" 43 3 8 := ⟨_, rfl, by decide +kernel, tpw1 132 (by decide +kernel) (by decide +kernel)⟩
theorem pMa_14 : tpFp "TwigPatch$Marks" 14 4 0 := ⟨_, rfl, by decide +kernel, tpw1 54 (by decide +kernel) (by decide +kernel)⟩
theorem pMa_20 : tpFp "TwigPatch$Marks" 20 4 1 := ⟨_, rfl, by decide +kernel, tpw1 55 (by decide +kernel) (by decide +kernel)⟩
theorem pMa_23 : tpFp "TwigPatch$Marks" 23 4 2 := ⟨_, rfl, by decide +kernel, tpw1 56 (by decide +kernel) (by decide +kernel)⟩
theorem pMd_100 : tpFp "TwigPatchModel" 100 13 39 := ⟨_, rfl, by decide +kernel, tpw7 156 (by decide +kernel) (by decide +kernel)⟩
theorem pMd_103 : tpFp "TwigPatchModel" 103 13 40 := ⟨_, rfl, by decide +kernel, tpw7 157 (by decide +kernel) (by decide +kernel)⟩
theorem pMd_106 : tpFp "TwigPatchModel" 106 13 41 := ⟨_, rfl, by decide +kernel, tpw7 158 (by decide +kernel) (by decide +kernel)⟩
theorem pMd_109 : tpFp "TwigPatchModel" 109 13 42 := ⟨_, rfl, by decide +kernel, tpw7 159 (by decide +kernel) (by decide +kernel)⟩
theorem pMd_112 : tpFp "TwigPatchModel" 112 13 43 := ⟨_, rfl, by decide +kernel, tpw7 160 (by decide +kernel) (by decide +kernel)⟩
theorem pMd_115 : tpFp "TwigPatchModel" 115 13 44 := ⟨_, rfl, by decide +kernel, tpw7 161 (by decide +kernel) (by decide +kernel)⟩
theorem pMd_118 : tpFp "TwigPatchModel" 118 13 45 := ⟨_, rfl, by decide +kernel, tpw7 162 (by decide +kernel) (by decide +kernel)⟩
theorem pMd_121 : tpFp "TwigPatchModel" 121 13 46 := ⟨_, rfl, by decide +kernel, tpw7 163 (by decide +kernel) (by decide +kernel)⟩
theorem pMd_124 : tpFp "TwigPatchModel" 124 13 47 := ⟨_, rfl, by decide +kernel, tpw7 164 (by decide +kernel) (by decide +kernel)⟩
theorem pMd_127 : tpFp "TwigPatchModel" 127 13 48 := ⟨_, rfl, by decide +kernel, tpw7 165 (by decide +kernel) (by decide +kernel)⟩
theorem pMd_13 : tpFp "TwigPatchModel" 13 13 2 := ⟨_, rfl, by decide +kernel, tpw7 119 (by decide +kernel) (by decide +kernel)⟩
theorem pMd_130 : tpFp "TwigPatchModel" 130 13 49 := ⟨_, rfl, by decide +kernel, tpw7 166 (by decide +kernel) (by decide +kernel)⟩
theorem pMd_133 : tpFp "TwigPatchModel" 133 13 50 := ⟨_, rfl, by decide +kernel, tpw7 167 (by decide +kernel) (by decide +kernel)⟩
theorem pMd_136 : tpFp "TwigPatchModel" 136 13 51 := ⟨_, rfl, by decide +kernel, tpw7 168 (by decide +kernel) (by decide +kernel)⟩
theorem pMd_139 : tpFp "TwigPatchModel" 139 13 53 := ⟨_, rfl, by decide +kernel, tpw7 170 (by decide +kernel) (by decide +kernel)⟩
theorem pMd_142 : tpFp "TwigPatchModel" 142 13 55 := ⟨_, rfl, by decide +kernel, tpw7 172 (by decide +kernel) (by decide +kernel)⟩
theorem pMd_145 : tpFp "TwigPatchModel" 145 13 56 := ⟨_, rfl, by decide +kernel, tpw7 173 (by decide +kernel) (by decide +kernel)⟩
theorem pMd_148 : tpFp "TwigPatchModel" 148 13 57 := ⟨_, rfl, by decide +kernel, tpw7 174 (by decide +kernel) (by decide +kernel)⟩
theorem pMd_151 : tpFp "TwigPatchModel" 151 13 31 := ⟨_, rfl, by decide +kernel, tpw7 148 (by decide +kernel) (by decide +kernel)⟩
theorem pMd_155 : tpFp "TwigPatchModel" 155 13 3 := ⟨_, rfl, by decide +kernel, tpw7 120 (by decide +kernel) (by decide +kernel)⟩
theorem pMd_16 : tpFp "TwigPatchModel" 16 13 5 := ⟨_, rfl, by decide +kernel, tpw7 122 (by decide +kernel) (by decide +kernel)⟩
theorem pMd_162 : tpFp "TwigPatchModel" 162 13 0 := ⟨_, rfl, by decide +kernel, tpw7 117 (by decide +kernel) (by decide +kernel)⟩
theorem pMd_19 : tpFp "TwigPatchModel" 19 13 6 := ⟨_, rfl, by decide +kernel, tpw7 123 (by decide +kernel) (by decide +kernel)⟩
theorem pMd_193 : tpFp "TwigPatchModel" 193 13 4 := ⟨_, rfl, by decide +kernel, tpw7 121 (by decide +kernel) (by decide +kernel)⟩
theorem pMd_22 : tpFp "TwigPatchModel" 22 13 7 := ⟨_, rfl, by decide +kernel, tpw7 124 (by decide +kernel) (by decide +kernel)⟩
theorem pMd_246 : tpFp "TwigPatchModel" 246 13 34 := ⟨_, rfl, by decide +kernel, tpw7 151 (by decide +kernel) (by decide +kernel)⟩
theorem pMd_249 : tpFp "TwigPatchModel" 249 13 35 := ⟨_, rfl, by decide +kernel, tpw7 152 (by decide +kernel) (by decide +kernel)⟩
theorem pMd_25 : tpFp "TwigPatchModel" 25 13 8 := ⟨_, rfl, by decide +kernel, tpw7 125 (by decide +kernel) (by decide +kernel)⟩
theorem pMd_28 : tpFp "TwigPatchModel" 28 13 9 := ⟨_, rfl, by decide +kernel, tpw7 126 (by decide +kernel) (by decide +kernel)⟩
theorem pMd_295 : tpFp "TwigPatchModel" 295 13 10 := ⟨_, rfl, by decide +kernel, tpw7 127 (by decide +kernel) (by decide +kernel)⟩
theorem pMd_31 : tpFp "TwigPatchModel" 31 13 11 := ⟨_, rfl, by decide +kernel, tpw7 128 (by decide +kernel) (by decide +kernel)⟩
theorem pMd_337 : tpFp "TwigPatchModel" 337 13 22 := ⟨_, rfl, by decide +kernel, tpw7 139 (by decide +kernel) (by decide +kernel)⟩
theorem pMd_34 : tpFp "TwigPatchModel" 34 13 12 := ⟨_, rfl, by decide +kernel, tpw7 129 (by decide +kernel) (by decide +kernel)⟩
theorem pMd_343 : tpFp "TwigPatchModel" 343 13 24 := ⟨_, rfl, by decide +kernel, tpw7 141 (by decide +kernel) (by decide +kernel)⟩
theorem pMd_37 : tpFp "TwigPatchModel" 37 13 13 := ⟨_, rfl, by decide +kernel, tpw7 130 (by decide +kernel) (by decide +kernel)⟩
theorem pMd_372 : tpFp "TwigPatchModel" 372 13 52 := ⟨_, rfl, by decide +kernel, tpw7 169 (by decide +kernel) (by decide +kernel)⟩
theorem pMd_382 : tpFp "TwigPatchModel" 382 13 54 := ⟨_, rfl, by decide +kernel, tpw7 171 (by decide +kernel) (by decide +kernel)⟩
theorem pMd_40 : tpFp "TwigPatchModel" 40 13 14 := ⟨_, rfl, by decide +kernel, tpw7 131 (by decide +kernel) (by decide +kernel)⟩
theorem pMd_419 : tpFp "TwigPatchModel" 419 13 26 := ⟨_, rfl, by decide +kernel, tpw7 143 (by decide +kernel) (by decide +kernel)⟩
theorem pMd_43 : tpFp "TwigPatchModel" 43 13 15 := ⟨_, rfl, by decide +kernel, tpw7 132 (by decide +kernel) (by decide +kernel)⟩
theorem pMd_46 : tpFp "TwigPatchModel" 46 13 16 := ⟨_, rfl, by decide +kernel, tpw7 133 (by decide +kernel) (by decide +kernel)⟩
theorem pMd_49 : tpFp "TwigPatchModel" 49 13 17 := ⟨_, rfl, by decide +kernel, tpw7 134 (by decide +kernel) (by decide +kernel)⟩
theorem pMd_52 : tpFp "TwigPatchModel" 52 13 18 := ⟨_, rfl, by decide +kernel, tpw7 135 (by decide +kernel) (by decide +kernel)⟩
theorem pMd_55 : tpFp "TwigPatchModel" 55 13 19 := ⟨_, rfl, by decide +kernel, tpw7 136 (by decide +kernel) (by decide +kernel)⟩
theorem pMd_58 : tpFp "TwigPatchModel" 58 13 20 := ⟨_, rfl, by decide +kernel, tpw7 137 (by decide +kernel) (by decide +kernel)⟩
theorem pMd_61 : tpFp "TwigPatchModel" 61 13 21 := ⟨_, rfl, by decide +kernel, tpw7 138 (by decide +kernel) (by decide +kernel)⟩
theorem pMd_64 : tpFp "TwigPatchModel" 64 13 23 := ⟨_, rfl, by decide +kernel, tpw7 140 (by decide +kernel) (by decide +kernel)⟩
theorem pMd_68 : tpFp "TwigPatchModel" 68 13 25 := ⟨_, rfl, by decide +kernel, tpw7 142 (by decide +kernel) (by decide +kernel)⟩
theorem pMd_7 : tpFp "TwigPatchModel" 7 13 1 := ⟨_, rfl, by decide +kernel, tpw7 118 (by decide +kernel) (by decide +kernel)⟩
theorem pMd_71 : tpFp "TwigPatchModel" 71 13 27 := ⟨_, rfl, by decide +kernel, tpw7 144 (by decide +kernel) (by decide +kernel)⟩
theorem pMd_74 : tpFp "TwigPatchModel" 74 13 28 := ⟨_, rfl, by decide +kernel, tpw7 145 (by decide +kernel) (by decide +kernel)⟩
theorem pMd_77 : tpFp "TwigPatchModel" 77 13 29 := ⟨_, rfl, by decide +kernel, tpw7 146 (by decide +kernel) (by decide +kernel)⟩
theorem pMd_80 : tpFp "TwigPatchModel" 80 13 30 := ⟨_, rfl, by decide +kernel, tpw7 147 (by decide +kernel) (by decide +kernel)⟩
theorem pMd_83 : tpFp "TwigPatchModel" 83 13 32 := ⟨_, rfl, by decide +kernel, tpw7 149 (by decide +kernel) (by decide +kernel)⟩
theorem pMd_86 : tpFp "TwigPatchModel" 86 13 33 := ⟨_, rfl, by decide +kernel, tpw7 150 (by decide +kernel) (by decide +kernel)⟩
theorem pMd_89 : tpFp "TwigPatchModel" 89 13 36 := ⟨_, rfl, by decide +kernel, tpw7 153 (by decide +kernel) (by decide +kernel)⟩
theorem pMd_94 : tpFp "TwigPatchModel" 94 13 37 := ⟨_, rfl, by decide +kernel, tpw7 154 (by decide +kernel) (by decide +kernel)⟩
theorem pMd_97 : tpFp "TwigPatchModel" 97 13 38 := ⟨_, rfl, by decide +kernel, tpw7 155 (by decide +kernel) (by decide +kernel)⟩
theorem pMg_14 : tpFp "TwigPatch$Merger" 14 6 2 := ⟨_, rfl, by decide +kernel, tpw2 9 (by decide +kernel) (by decide +kernel)⟩
theorem pMg_20 : tpFp "TwigPatch$Merger" 20 6 3 := ⟨_, rfl, by decide +kernel, tpw2 11 (by decide +kernel) (by decide +kernel)⟩
theorem pMg_23 : tpFp "TwigPatch$Merger" 23 6 4 := ⟨_, rfl, by decide +kernel, tpw2 12 (by decide +kernel) (by decide +kernel)⟩
theorem pMg_26 : tpFp "TwigPatch$Merger" 26 6 5 := ⟨_, rfl, by decide +kernel, tpw2 13 (by decide +kernel) (by decide +kernel)⟩
theorem pMg_29 : tpFp "TwigPatch$Merger" 29 6 6 := ⟨_, rfl, by decide +kernel, tpw2 14 (by decide +kernel) (by decide +kernel)⟩
theorem pMg_32 : tpFp "TwigPatch$Merger" 32 6 7 := ⟨_, rfl, by decide +kernel, tpw2 15 (by decide +kernel) (by decide +kernel)⟩
theorem pMg_35 : tpFp "TwigPatch$Merger" 35 6 8 := ⟨_, rfl, by decide +kernel, tpw2 16 (by decide +kernel) (by decide +kernel)⟩
theorem pMg_38 : tpFp "TwigPatch$Merger" 38 6 9 := ⟨_, rfl, by decide +kernel, tpw2 17 (by decide +kernel) (by decide +kernel)⟩
theorem pMg_41 : tpFp "TwigPatch$Merger" 41 6 10 := ⟨_, rfl, by decide +kernel, tpw2 18 (by decide +kernel) (by decide +kernel)⟩
theorem pMg_44 : tpFp "TwigPatch$Merger" 44 6 11 := ⟨_, rfl, by decide +kernel, tpw2 20 (by decide +kernel) (by decide +kernel)⟩
theorem pMg_47 : tpFp "TwigPatch$Merger" 47 6 0 := ⟨_, rfl, by decide +kernel, tpw2 7 (by decide +kernel) (by decide +kernel)⟩
theorem pMg_51 : tpFp "TwigPatch$Merger" 51 6 1 := ⟨_, rfl, by decide +kernel, tpw2 8 (by decide +kernel) (by decide +kernel)⟩
theorem pMt_14 : tpFp "TwigPatch$Matching" 14 5 2 := ⟨_, rfl, by decide +kernel, tpw1 162 (by decide +kernel) (by decide +kernel)⟩
theorem pMt_20 : tpFp "TwigPatch$Matching" 20 5 3 := ⟨_, rfl, by decide +kernel, tpw1 163 (by decide +kernel) (by decide +kernel)⟩
theorem pMt_23 : tpFp "TwigPatch$Matching" 23 5 4 := ⟨_, rfl, by decide +kernel, tpw1 164 (by decide +kernel) (by decide +kernel)⟩
theorem pMt_26 : tpFp "TwigPatch$Matching" 26 5 5 := ⟨_, rfl, by decide +kernel, tpw1 165 (by decide +kernel) (by decide +kernel)⟩
theorem pMt_29 : tpFp "TwigPatch$Matching" 29 5 6 := ⟨_, rfl, by decide +kernel, tpw1 166 (by decide +kernel) (by decide +kernel)⟩
theorem pMt_32 : tpFp "TwigPatch$Matching" 32 5 0 := ⟨_, rfl, by decide +kernel, tpw1 160 (by decide +kernel) (by decide +kernel)⟩
theorem pMt_36 : tpFp "TwigPatch$Matching" 36 5 1 := ⟨_, rfl, by decide +kernel, tpw1 161 (by decide +kernel) (by decide +kernel)⟩
theorem pMt_44 : tpFp "TwigPatch$Matching" 44 5 7 := ⟨_, rfl, by decide +kernel, tpw1 167 (by decide +kernel) (by decide +kernel)⟩
theorem pMt_48 : tpFp "TwigPatch$Matching" 48 5 8 := ⟨_, rfl, by decide +kernel, tpw1 168 (by decide +kernel) (by decide +kernel)⟩
theorem pRo_15 : tpFp "TwigPatch$Row" 15 7 1 := ⟨_, rfl, by decide +kernel, tpw1 45 (by decide +kernel) (by decide +kernel)⟩
theorem pRo_9 : tpFp "TwigPatch$Row" 9 7 0 := ⟨_, rfl, by decide +kernel, tpw1 44 (by decide +kernel) (by decide +kernel)⟩
theorem pSc_15 : tpFp "TwigPatch$Script" 15 8 1 := ⟨_, rfl, by decide +kernel, tpw4 202 (by decide +kernel) (by decide +kernel)⟩
theorem pSc_9 : tpFp "TwigPatch$Script" 9 8 0 := ⟨_, rfl, by decide +kernel, tpw4 201 (by decide +kernel) (by decide +kernel)⟩
theorem pSp_13 : tpFp "TwigPatch$Spot" 13 9 1 := ⟨_, rfl, by decide +kernel, tpw1 205 (by decide +kernel) (by decide +kernel)⟩
theorem pSp_16 : tpFp "TwigPatch$Spot" 16 9 2 := ⟨_, rfl, by decide +kernel, tpw1 208 (by decide +kernel) (by decide +kernel)⟩
theorem pSp_7 : tpFp "TwigPatch$Spot" 7 9 0 := ⟨_, rfl, by decide +kernel, tpw1 202 (by decide +kernel) (by decide +kernel)⟩
theorem pSt_15 : tpFp "TwigPatch$Step" 15 10 1 := ⟨_, rfl, by decide +kernel, tpw4 233 (by decide +kernel) (by decide +kernel)⟩
theorem pSt_18 : tpFp "TwigPatch$Step" 18 10 2 := ⟨_, rfl, by decide +kernel, tpw4 235 (by decide +kernel) (by decide +kernel)⟩
theorem pSt_21 : tpFp "TwigPatch$Step" 21 10 3 := ⟨_, rfl, by decide +kernel, tpw4 236 (by decide +kernel) (by decide +kernel)⟩
theorem pSt_24 : tpFp "TwigPatch$Step" 24 10 4 := ⟨_, rfl, by decide +kernel, tpw4 237 (by decide +kernel) (by decide +kernel)⟩
theorem pSt_28 : tpFp "TwigPatch$Step" 28 10 5 := ⟨_, rfl, by decide +kernel, tpw4 238 (by decide +kernel) (by decide +kernel)⟩
theorem pSt_9 : tpFp "TwigPatch$Step" 9 10 0 := ⟨_, rfl, by decide +kernel, tpw4 231 (by decide +kernel) (by decide +kernel)⟩
theorem pTP_10 : tpFp "TwigPatch" 10 12 0 := ⟨_, rfl, by decide +kernel, tpw2 79 (by decide +kernel) (by decide +kernel)⟩
theorem pTP_21 : tpFp "TwigPatch" 21 12 1 := ⟨_, rfl, by decide +kernel, tpw2 80 (by decide +kernel) (by decide +kernel)⟩
theorem pTP_211 : tpFp "TwigPatch" 211 12 10 := ⟨_, rfl, by decide +kernel, tpw2 89 (by decide +kernel) (by decide +kernel)⟩
theorem pTP_25 : tpFp "TwigPatch" 25 12 2 := ⟨_, rfl, by decide +kernel, tpw2 81 (by decide +kernel) (by decide +kernel)⟩
theorem pTP_277 : tpFp "TwigPatch" 277 12 4 := ⟨_, rfl, by decide +kernel, tpw2 83 (by decide +kernel) (by decide +kernel)⟩
theorem pTP_30 : tpFp "TwigPatch" 30 12 3 := ⟨_, rfl, by decide +kernel, tpw2 82 (by decide +kernel) (by decide +kernel)⟩
theorem pTP_36 : tpFp "TwigPatch" 36 12 5 := ⟨_, rfl, by decide +kernel, tpw2 84 (by decide +kernel) (by decide +kernel)⟩
theorem pTP_387 : tpFp "TwigPatch" 387 12 6 := ⟨_, rfl, by decide +kernel, tpw2 85 (by decide +kernel) (by decide +kernel)⟩
theorem pTP_43 : tpFp "TwigPatch" 43 12 7 := ⟨_, rfl, by decide +kernel, tpw2 86 (by decide +kernel) (by decide +kernel)⟩
theorem pTP_52 : tpFp "TwigPatch" 52 12 8 := ⟨_, rfl, by decide +kernel, tpw2 87 (by decide +kernel) (by decide +kernel)⟩
theorem pTP_61 : tpFp "TwigPatch" 61 12 9 := ⟨_, rfl, by decide +kernel, tpw2 88 (by decide +kernel) (by decide +kernel)⟩
theorem pTP_70 : tpFp "TwigPatch" 70 12 11 := ⟨_, rfl, by decide +kernel, tpw2 90 (by decide +kernel) (by decide +kernel)⟩
theorem pTP_77 : tpFp "TwigPatch" 77 12 12 := ⟨_, rfl, by decide +kernel, tpw2 91 (by decide +kernel) (by decide +kernel)⟩
theorem pTr_20 : tpFp "TwigPatch$Tree" 20 11 1 := ⟨_, rfl, by decide +kernel, tpw3 215 (by decide +kernel) (by decide +kernel)⟩
theorem pTr_24 : tpFp "TwigPatch$Tree" 24 11 2 := ⟨_, rfl, by decide +kernel, tpw3 216 (by decide +kernel) (by decide +kernel)⟩
theorem pTr_27 : tpFp "TwigPatch$Tree" 27 11 3 := ⟨_, rfl, by decide +kernel, tpw3 217 (by decide +kernel) (by decide +kernel)⟩
theorem pTr_30 : tpFp "TwigPatch$Tree" 30 11 4 := ⟨_, rfl, by decide +kernel, tpw3 218 (by decide +kernel) (by decide +kernel)⟩
theorem pTr_33 : tpFp "TwigPatch$Tree" 33 11 5 := ⟨_, rfl, by decide +kernel, tpw3 219 (by decide +kernel) (by decide +kernel)⟩
theorem pTr_36 : tpFp "TwigPatch$Tree" 36 11 6 := ⟨_, rfl, by decide +kernel, tpw3 220 (by decide +kernel) (by decide +kernel)⟩
theorem pTr_39 : tpFp "TwigPatch$Tree" 39 11 7 := ⟨_, rfl, by decide +kernel, tpw3 221 (by decide +kernel) (by decide +kernel)⟩
theorem pTr_42 : tpFp "TwigPatch$Tree" 42 11 8 := ⟨_, rfl, by decide +kernel, tpw3 222 (by decide +kernel) (by decide +kernel)⟩
theorem pTr_45 : tpFp "TwigPatch$Tree" 45 11 9 := ⟨_, rfl, by decide +kernel, tpw3 223 (by decide +kernel) (by decide +kernel)⟩
theorem pTr_9 : tpFp "TwigPatch$Tree" 9 11 0 := ⟨_, rfl, by decide +kernel, tpw3 209 (by decide +kernel) (by decide +kernel)⟩
