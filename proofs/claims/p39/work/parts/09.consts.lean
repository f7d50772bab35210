theorem tnb_m13 : (Int8.ofInt (-13)).toInt32 = (-13 : Int32) := by decide
theorem tnb_m12 : (Int8.ofInt (-12)).toInt32 = (-12 : Int32) := by decide
theorem tnb_m11 : (Int8.ofInt (-11)).toInt32 = (-11 : Int32) := by decide
theorem tnb_m2 : (Int8.ofInt (-2)).toInt32 = (-2 : Int32) := by decide
theorem tnb_6 : (Int8.ofInt 6).toInt32 = (6 : Int32) := by decide
theorem tnb_7 : (Int8.ofInt 7).toInt32 = (7 : Int32) := by decide
theorem tnb_8 : (Int8.ofInt 8).toInt32 = (8 : Int32) := by decide
theorem tnb_9 : (Int8.ofInt 9).toInt32 = (9 : Int32) := by decide
theorem tnb_10 : (Int8.ofInt 10).toInt32 = (10 : Int32) := by decide
theorem tnb_12 : (Int8.ofInt 12).toInt32 = (12 : Int32) := by decide
theorem tnb_16 : (Int8.ofInt 16).toInt32 = (16 : Int32) := by decide
theorem tnb_17 : (Int8.ofInt 17).toInt32 = (17 : Int32) := by decide
theorem tnb_20 : (Int8.ofInt 20).toInt32 = (20 : Int32) := by decide
theorem tnb_22 : (Int8.ofInt 22).toInt32 = (22 : Int32) := by decide
theorem tnb_24 : (Int8.ofInt 24).toInt32 = (24 : Int32) := by decide
theorem tnb_30 : (Int8.ofInt 30).toInt32 = (30 : Int32) := by decide
theorem tnb_32 : (Int8.ofInt 32).toInt32 = (32 : Int32) := by decide
theorem tnb_37 : (Int8.ofInt 37).toInt32 = (37 : Int32) := by decide
theorem tnb_38 : (Int8.ofInt 38).toInt32 = (38 : Int32) := by decide
theorem tnb_39 : (Int8.ofInt 39).toInt32 = (39 : Int32) := by decide
theorem tnb_40 : (Int8.ofInt 40).toInt32 = (40 : Int32) := by decide
theorem tnb_41 : (Int8.ofInt 41).toInt32 = (41 : Int32) := by decide
theorem tnb_42 : (Int8.ofInt 42).toInt32 = (42 : Int32) := by decide
theorem tnb_63 : (Int8.ofInt 63).toInt32 = (63 : Int32) := by decide
theorem tnb_64 : (Int8.ofInt 64).toInt32 = (64 : Int32) := by decide
theorem tnb_99 : (Int8.ofInt 99).toInt32 = (99 : Int32) := by decide
theorem tnb_100 : (Int8.ofInt 100).toInt32 = (100 : Int32) := by decide
theorem tnb_110 : (Int8.ofInt 110).toInt32 = (110 : Int32) := by decide
theorem tni_m1 : Int32.ofInt (-1) = (-1 : Int32) := by decide
theorem tni_0 : Int32.ofInt 0 = (0 : Int32) := by decide
theorem tni_1 : Int32.ofInt 1 = (1 : Int32) := by decide
theorem tni_2 : Int32.ofInt 2 = (2 : Int32) := by decide
theorem tni_3 : Int32.ofInt 3 = (3 : Int32) := by decide
theorem tni_4 : Int32.ofInt 4 = (4 : Int32) := by decide
theorem tni_5 : Int32.ofInt 5 = (5 : Int32) := by decide
theorem tns_128 : (Int16.ofInt 128).toInt32 = (128 : Int32) := by decide
theorem tns_192 : (Int16.ofInt 192).toInt32 = (192 : Int32) := by decide
theorem tns_300 : (Int16.ofInt 300).toInt32 = (300 : Int32) := by decide
theorem tns_301 : (Int16.ofInt 301).toInt32 = (301 : Int32) := by decide
theorem tns_400 : (Int16.ofInt 400).toInt32 = (400 : Int32) := by decide
theorem tns_576 : (Int16.ofInt 576).toInt32 = (576 : Int32) := by decide
theorem tns_600 : (Int16.ofInt 600).toInt32 = (600 : Int32) := by decide
theorem tns_1000 : (Int16.ofInt 1000).toInt32 = (1000 : Int32) := by decide
theorem tns_1200 : (Int16.ofInt 1200).toInt32 = (1200 : Int32) := by decide
theorem tns_1600 : (Int16.ofInt 1600).toInt32 = (1600 : Int32) := by decide
theorem tns_4608 : (Int16.ofInt 4608).toInt32 = (4608 : Int32) := by decide
theorem tns_8009 : (Int16.ofInt 8009).toInt32 = (8009 : Int32) := by decide
theorem tns_8192 : (Int16.ofInt 8192).toInt32 = (8192 : Int32) := by decide
theorem tns_27648 : (Int16.ofInt 27648).toInt32 = (27648 : Int32) := by decide
theorem pBu_14 : tpFp "TwigPatch$Bush" 14 0 1 := ⟨_, rfl, by decide +kernel, tpw1 73 (by decide +kernel) (by decide +kernel)⟩
theorem pBu_20 : tpFp "TwigPatch$Bush" 20 0 2 := ⟨_, rfl, by decide +kernel, tpw1 74 (by decide +kernel) (by decide +kernel)⟩
theorem pBu_23 : tpFp "TwigPatch$Bush" 23 0 3 := ⟨_, rfl, by decide +kernel, tpw1 75 (by decide +kernel) (by decide +kernel)⟩
theorem pBu_26 : tpFp "TwigPatch$Bush" 26 0 4 := ⟨_, rfl, by decide +kernel, tpw1 76 (by decide +kernel) (by decide +kernel)⟩
theorem pBu_29 : tpFp "TwigPatch$Bush" 29 0 5 := ⟨_, rfl, by decide +kernel, tpw1 77 (by decide +kernel) (by decide +kernel)⟩
theorem pBu_32 : tpFp "TwigPatch$Bush" 32 0 6 := ⟨_, rfl, by decide +kernel, tpw1 78 (by decide +kernel) (by decide +kernel)⟩
theorem pBu_35 : tpFp "TwigPatch$Bush" 35 0 7 := ⟨_, rfl, by decide +kernel, tpw1 79 (by decide +kernel) (by decide +kernel)⟩
theorem pBu_38 : tpFp "TwigPatch$Bush" 38 0 8 := ⟨_, rfl, by decide +kernel, tpw1 80 (by decide +kernel) (by decide +kernel)⟩
theorem pBu_42 : tpFp "TwigPatch$Bush" 42 0 0 := ⟨_, rfl, by decide +kernel, tpw1 72 (by decide +kernel) (by decide +kernel)⟩
theorem pBu_59 : tpFp "TwigPatch$Bush" 59 0 9 := ⟨_, rfl, by decide +kernel, tpw1 83 (by decide +kernel) (by decide +kernel)⟩
theorem pFi_14 : tpFp "TwigPatch$Finder" 14 1 3 := ⟨_, rfl, by decide +kernel, tpw1 204 (by decide +kernel) (by decide +kernel)⟩
theorem pFi_20 : tpFp "TwigPatch$Finder" 20 1 4 := ⟨_, rfl, by decide +kernel, tpw1 205 (by decide +kernel) (by decide +kernel)⟩
theorem pFi_23 : tpFp "TwigPatch$Finder" 23 1 5 := ⟨_, rfl, by decide +kernel, tpw1 206 (by decide +kernel) (by decide +kernel)⟩
theorem pFi_31 : tpFp "TwigPatch$Finder" 31 1 6 := ⟨_, rfl, by decide +kernel, tpw1 207 (by decide +kernel) (by decide +kernel)⟩
theorem pFi_35 : tpFp "TwigPatch$Finder" 35 1 0 := ⟨_, rfl, by decide +kernel, tpw1 201 (by decide +kernel) (by decide +kernel)⟩
theorem pFi_39 : tpFp "TwigPatch$Finder" 39 1 1 := ⟨_, rfl, by decide +kernel, tpw1 202 (by decide +kernel) (by decide +kernel)⟩
theorem pFi_43 : tpFp "TwigPatch$Finder" 43 1 2 := ⟨_, rfl, by decide +kernel, tpw1 203 (by decide +kernel) (by decide +kernel)⟩
theorem pHi_14 : tpFp "TwigPatch$History" 14 2 0 := ⟨_, rfl, by decide +kernel, tpw2 39 (by decide +kernel) (by decide +kernel)⟩
theorem pHi_20 : tpFp "TwigPatch$History" 20 2 1 := ⟨_, rfl, by decide +kernel, tpw2 40 (by decide +kernel) (by decide +kernel)⟩
theorem pHi_23 : tpFp "TwigPatch$History" 23 2 2 := ⟨_, rfl, by decide +kernel, tpw2 41 (by decide +kernel) (by decide +kernel)⟩
theorem pHi_26 : tpFp "TwigPatch$History" 26 2 3 := ⟨_, rfl, by decide +kernel, tpw2 42 (by decide +kernel) (by decide +kernel)⟩
theorem pHi_29 : tpFp "TwigPatch$History" 29 2 4 := ⟨_, rfl, by decide +kernel, tpw2 43 (by decide +kernel) (by decide +kernel)⟩
theorem pLi_14 : tpFp "TwigPatch$Likes" 14 3 1 := ⟨_, rfl, by decide +kernel, tpw1 118 (by decide +kernel) (by decide +kernel)⟩
theorem pLi_20 : tpFp "TwigPatch$Likes" 20 3 2 := ⟨_, rfl, by decide +kernel, tpw1 119 (by decide +kernel) (by decide +kernel)⟩
theorem pLi_23 : tpFp "TwigPatch$Likes" 23 3 3 := ⟨_, rfl, by decide +kernel, tpw1 120 (by decide +kernel) (by decide +kernel)⟩
theorem pLi_26 : tpFp "TwigPatch$Likes" 26 3 4 := ⟨_, rfl, by decide +kernel, tpw1 121 (by decide +kernel) (by decide +kernel)⟩
theorem pLi_29 : tpFp "TwigPatch$Likes" 29 3 5 := ⟨_, rfl, by decide +kernel, tpw1 122 (by decide +kernel) (by decide +kernel)⟩
theorem pLi_32 : tpFp "TwigPatch$Likes" 32 3 6 := ⟨_, rfl, by decide +kernel, tpw1 123 (by decide +kernel) (by decide +kernel)⟩
theorem pLi_35 : tpFp "TwigPatch$Likes" 35 3 0 := ⟨_, rfl, by decide +kernel, tpw1 117 (by decide +kernel) (by decide +kernel)⟩
theorem pMa_14 : tpFp "TwigPatch$Marks" 14 4 0 := ⟨_, rfl, by decide +kernel, tpw1 51 (by decide +kernel) (by decide +kernel)⟩
theorem pMa_20 : tpFp "TwigPatch$Marks" 20 4 1 := ⟨_, rfl, by decide +kernel, tpw1 52 (by decide +kernel) (by decide +kernel)⟩
theorem pMa_23 : tpFp "TwigPatch$Marks" 23 4 2 := ⟨_, rfl, by decide +kernel, tpw1 53 (by decide +kernel) (by decide +kernel)⟩
theorem pMg_14 : tpFp "TwigPatch$Merger" 14 6 2 := ⟨_, rfl, by decide +kernel, tpw1 233 (by decide +kernel) (by decide +kernel)⟩
theorem pMg_20 : tpFp "TwigPatch$Merger" 20 6 3 := ⟨_, rfl, by decide +kernel, tpw1 235 (by decide +kernel) (by decide +kernel)⟩
theorem pMg_23 : tpFp "TwigPatch$Merger" 23 6 4 := ⟨_, rfl, by decide +kernel, tpw1 236 (by decide +kernel) (by decide +kernel)⟩
theorem pMg_26 : tpFp "TwigPatch$Merger" 26 6 5 := ⟨_, rfl, by decide +kernel, tpw1 237 (by decide +kernel) (by decide +kernel)⟩
theorem pMg_29 : tpFp "TwigPatch$Merger" 29 6 6 := ⟨_, rfl, by decide +kernel, tpw1 238 (by decide +kernel) (by decide +kernel)⟩
theorem pMg_32 : tpFp "TwigPatch$Merger" 32 6 7 := ⟨_, rfl, by decide +kernel, tpw1 239 (by decide +kernel) (by decide +kernel)⟩
theorem pMg_35 : tpFp "TwigPatch$Merger" 35 6 8 := ⟨_, rfl, by decide +kernel, tpw2 0 (by decide +kernel) (by decide +kernel)⟩
theorem pMg_38 : tpFp "TwigPatch$Merger" 38 6 9 := ⟨_, rfl, by decide +kernel, tpw2 1 (by decide +kernel) (by decide +kernel)⟩
theorem pMg_41 : tpFp "TwigPatch$Merger" 41 6 10 := ⟨_, rfl, by decide +kernel, tpw2 2 (by decide +kernel) (by decide +kernel)⟩
theorem pMg_44 : tpFp "TwigPatch$Merger" 44 6 11 := ⟨_, rfl, by decide +kernel, tpw2 4 (by decide +kernel) (by decide +kernel)⟩
theorem pMg_47 : tpFp "TwigPatch$Merger" 47 6 0 := ⟨_, rfl, by decide +kernel, tpw1 231 (by decide +kernel) (by decide +kernel)⟩
theorem pMg_51 : tpFp "TwigPatch$Merger" 51 6 1 := ⟨_, rfl, by decide +kernel, tpw1 232 (by decide +kernel) (by decide +kernel)⟩
theorem pMt_14 : tpFp "TwigPatch$Matching" 14 5 2 := ⟨_, rfl, by decide +kernel, tpw1 153 (by decide +kernel) (by decide +kernel)⟩
theorem pMt_20 : tpFp "TwigPatch$Matching" 20 5 3 := ⟨_, rfl, by decide +kernel, tpw1 154 (by decide +kernel) (by decide +kernel)⟩
theorem pMt_23 : tpFp "TwigPatch$Matching" 23 5 4 := ⟨_, rfl, by decide +kernel, tpw1 155 (by decide +kernel) (by decide +kernel)⟩
theorem pMt_26 : tpFp "TwigPatch$Matching" 26 5 5 := ⟨_, rfl, by decide +kernel, tpw1 156 (by decide +kernel) (by decide +kernel)⟩
theorem pMt_29 : tpFp "TwigPatch$Matching" 29 5 6 := ⟨_, rfl, by decide +kernel, tpw1 157 (by decide +kernel) (by decide +kernel)⟩
theorem pMt_32 : tpFp "TwigPatch$Matching" 32 5 0 := ⟨_, rfl, by decide +kernel, tpw1 151 (by decide +kernel) (by decide +kernel)⟩
theorem pMt_36 : tpFp "TwigPatch$Matching" 36 5 1 := ⟨_, rfl, by decide +kernel, tpw1 152 (by decide +kernel) (by decide +kernel)⟩
theorem pRo_15 : tpFp "TwigPatch$Row" 15 7 1 := ⟨_, rfl, by decide +kernel, tpw1 42 (by decide +kernel) (by decide +kernel)⟩
theorem pRo_9 : tpFp "TwigPatch$Row" 9 7 0 := ⟨_, rfl, by decide +kernel, tpw1 41 (by decide +kernel) (by decide +kernel)⟩
theorem pSp_13 : tpFp "TwigPatch$Spot" 13 9 1 := ⟨_, rfl, by decide +kernel, tpw1 192 (by decide +kernel) (by decide +kernel)⟩
theorem pSp_16 : tpFp "TwigPatch$Spot" 16 9 2 := ⟨_, rfl, by decide +kernel, tpw1 193 (by decide +kernel) (by decide +kernel)⟩
theorem pSp_7 : tpFp "TwigPatch$Spot" 7 9 0 := ⟨_, rfl, by decide +kernel, tpw1 191 (by decide +kernel) (by decide +kernel)⟩
theorem pTP_10 : tpFp "TwigPatch" 10 12 0 := ⟨_, rfl, by decide +kernel, tpw2 59 (by decide +kernel) (by decide +kernel)⟩
theorem pTP_21 : tpFp "TwigPatch" 21 12 1 := ⟨_, rfl, by decide +kernel, tpw2 60 (by decide +kernel) (by decide +kernel)⟩
theorem pTP_25 : tpFp "TwigPatch" 25 12 2 := ⟨_, rfl, by decide +kernel, tpw2 61 (by decide +kernel) (by decide +kernel)⟩
theorem pTP_277 : tpFp "TwigPatch" 277 12 4 := ⟨_, rfl, by decide +kernel, tpw2 63 (by decide +kernel) (by decide +kernel)⟩
theorem pTP_30 : tpFp "TwigPatch" 30 12 3 := ⟨_, rfl, by decide +kernel, tpw2 62 (by decide +kernel) (by decide +kernel)⟩
theorem pTP_36 : tpFp "TwigPatch" 36 12 5 := ⟨_, rfl, by decide +kernel, tpw2 64 (by decide +kernel) (by decide +kernel)⟩
theorem pTP_43 : tpFp "TwigPatch" 43 12 7 := ⟨_, rfl, by decide +kernel, tpw2 65 (by decide +kernel) (by decide +kernel)⟩
theorem pTP_52 : tpFp "TwigPatch" 52 12 8 := ⟨_, rfl, by decide +kernel, tpw2 66 (by decide +kernel) (by decide +kernel)⟩
theorem pTP_61 : tpFp "TwigPatch" 61 12 9 := ⟨_, rfl, by decide +kernel, tpw2 67 (by decide +kernel) (by decide +kernel)⟩
theorem pTP_70 : tpFp "TwigPatch" 70 12 11 := ⟨_, rfl, by decide +kernel, tpw2 68 (by decide +kernel) (by decide +kernel)⟩
theorem pTP_77 : tpFp "TwigPatch" 77 12 12 := ⟨_, rfl, by decide +kernel, tpw2 69 (by decide +kernel) (by decide +kernel)⟩
theorem pTr_20 : tpFp "TwigPatch$Tree" 20 11 1 := ⟨_, rfl, by decide +kernel, tpw3 203 (by decide +kernel) (by decide +kernel)⟩
theorem pTr_24 : tpFp "TwigPatch$Tree" 24 11 2 := ⟨_, rfl, by decide +kernel, tpw3 204 (by decide +kernel) (by decide +kernel)⟩
theorem pTr_27 : tpFp "TwigPatch$Tree" 27 11 3 := ⟨_, rfl, by decide +kernel, tpw3 205 (by decide +kernel) (by decide +kernel)⟩
theorem pTr_30 : tpFp "TwigPatch$Tree" 30 11 4 := ⟨_, rfl, by decide +kernel, tpw3 206 (by decide +kernel) (by decide +kernel)⟩
theorem pTr_33 : tpFp "TwigPatch$Tree" 33 11 5 := ⟨_, rfl, by decide +kernel, tpw3 207 (by decide +kernel) (by decide +kernel)⟩
theorem pTr_36 : tpFp "TwigPatch$Tree" 36 11 6 := ⟨_, rfl, by decide +kernel, tpw3 208 (by decide +kernel) (by decide +kernel)⟩
theorem pTr_39 : tpFp "TwigPatch$Tree" 39 11 7 := ⟨_, rfl, by decide +kernel, tpw3 209 (by decide +kernel) (by decide +kernel)⟩
theorem pTr_42 : tpFp "TwigPatch$Tree" 42 11 8 := ⟨_, rfl, by decide +kernel, tpw3 210 (by decide +kernel) (by decide +kernel)⟩
theorem pTr_45 : tpFp "TwigPatch$Tree" 45 11 9 := ⟨_, rfl, by decide +kernel, tpw3 211 (by decide +kernel) (by decide +kernel)⟩
theorem pTr_9 : tpFp "TwigPatch$Tree" 9 11 0 := ⟨_, rfl, by decide +kernel, tpw3 200 (by decide +kernel) (by decide +kernel)⟩
